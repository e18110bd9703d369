def pX2_copy (fu : Nat) (m1 : Mem) (m2 : Mem) : Option Mem :=
  lt' (va_up m1 1 (va_cpy (m2 1) (m1 1) 0 0 8)) fun y1 =>
  lt' (va_up y1 2 (va_cpy (m2 2) (y1 2) 0 0 8)) fun y2 =>
  lt' (up2 y2 0 4 (m2 0 4)) fun y3 =>
  lt' (up2 y3 0 5 (m2 0 5)) fun y4 =>
  lt' (up2 y4 0 6 (m2 0 6)) fun y5 =>
  zl2 (fun g9 (x6 : Int32) (y7 : Mem) =>
    if (y7 0 4) ≤ x6 then
      zl2 (fun g15 (x12 : Int32) (y13 : Mem) =>
        if 2 ≤ x12 then
          some y13
        else
          ck x12 2 <|
          ck x12 2 <|
          bd (pX3_copy fu (y13 (3 + x12.toNatClampNeg)) (m2 (3 + x12.toNatClampNeg))) fun y20 =>
          lt' (va_up y13 (3 + x12.toNatClampNeg) y20) fun y22 =>
          lt' (x12 + 1) fun x23 =>
          g15 x23 y22) fu 0 y7
    else
      ck x6 8 <|
      ck x6 8 <|
      bd (pX1_copy fu (y7 (5 + x6.toNatClampNeg)) (m2 (5 + x6.toNatClampNeg))) fun y26 =>
      lt' (va_up y7 (5 + x6.toNatClampNeg) y26) fun y28 =>
      lt' (x6 + 1) fun x29 =>
      g9 x29 y28) fu 0 y5
set_option maxHeartbeats 4000000 in
set_option maxRecDepth 100000 in
theorem tX2_copy (l : Launch) (D : va_G) (z tt : Nat → Nat) (a1 : Nat → Nat) (a2 : Nat → Nat) (m1 : Mem) (m2 : Mem)  (fu : Nat) (m1' : Mem) (hf : pX2_copy fu m1 m2 = some m1') : MetV l yX2_copy wsX2_copy ({ frames := 2, cells := 0, slots := 0, locals := 43 } : Room) D z tt ([.ref (a1 0), .ref (a2 0)] : List Value) (WDay z a1 m1 ++ (WDay z a2 m2)) (WDay z a1 m1' ++ (WDay z a2 m2)) := by
  intro sz
  refine Met.ofW (cc := cX2_copy) (maxL := 3) (ret := none) (by decide) rfl ?_
  intro p e s m args below meth c s₁ B hml hv
  obtain ⟨rfl, hsz, hP, hK, hD0, hT, hN⟩ := hv
  have hx := B.exec
  have hb := B.bytes
  have hr := B.returns
  have hts : ∀ w ∈ wsA, w.before ([.ref (a1 0), .ref (a2 0)] : List Value).toArray s = true := fun w h => atoms_spec (ws := wsX2_copy) B.pre w (List.mem_cons_of_mem _ h)
  have hown : s.vm.findClass RX2 = some m.cls := findClass_of_methodNamed B.named
  have hlocks := B.notSynchronized
  subst hsz
  have hD := hD0.self (sz := s.heap.size)
  generalize hAe : va_A (WDay z a1 m1 ++ (WDay z a2 m2)) s.heap.size = A at hD hT ⊢
  have hA : ∀ q : Nat, s.heap.size ≤ q → A q := fun q h => by rw [← hAe]; exact Or.inr h
  have hS : va_S A s.heap s.heap [] := va_S.rf
  have hl := lv_entry ([.ref (a1 0), .ref (a2 0)] : List Value) (n := 3) (Nat.le_of_ble_eq_true rfl)
  rw [lg_entry_eq]
  generalize (lg_sl ([.ref (a1 0), .ref (a2 0)] : List Value) ++ List.replicate (3 - (lg_sl ([.ref (a1 0), .ref (a2 0)] : List Value)).length) Slot.unset).toArray = ls at hl ⊢
  have hl : lv_has ls 3 [(0, .ref (a1 0)), (1, .ref (a2 0))] := hl
  unfold pX2_copy at hf
  refine lv_aload_n hx hb dX2_copy_0 rfl (lv_at hl 1 rfl) ?_
  refine va_get (D := D) (ci := 2) (v := .ref (a2 1)) (C := RX2) (T := TX2) (N := 8) hx hb hts iX2 hown hK hP 15 rfl rfl 0 (by decide) (hts _ aw150) (fun _ h9 => h9) rfl dX2_copy_1 ?_
  refine lv_iconst (v := 0) hx hb dX2_copy_4 (by decide) ?_
  refine lv_aload_n hx hb dX2_copy_5 rfl (lv_at hl 0 rfl) ?_
  refine va_get (D := D) (ci := 2) (v := .ref (a1 1)) (C := RX2) (T := TX2) (N := 8) hx hb hts iX2 hown hK hP 0 rfl rfl 0 (by decide) (hts _ aw150) (fun _ h9 => h9) rfl dX2_copy_6 ?_
  refine lv_iconst (v := 0) hx hb dX2_copy_9 (by decide) ?_
  refine lv_aload_n hx hb dX2_copy_10 rfl (lv_at hl 0 rfl) ?_
  refine va_get (D := D) (ci := 2) (v := .ref (a1 1)) (C := RX2) (T := TX2) (N := 8) hx hb hts iX2 hown hK hP 0 rfl rfl 0 (by decide) (hts _ aw150) (fun _ h9 => h9) rfl dX2_copy_11 ?_
  refine z_alen hx hb hK hP 1 0 rfl rfl (v := 8) rfl dX2_copy_14 ?_
  refine z_copy hx hb (by rw [hml]; exact hl.1.symm) hown (hts _ aw292) (hts _ aw294) (hts _ aw293) (hts _ aw53) hK hP hD hS 16 1 rfl rfl (n := 8) (nn := 8) (by decide) (by decide) (Nat.le_of_ble_eq_true rfl) (Nat.le_of_ble_eq_true rfl) (Nat.le_of_ble_eq_true rfl) (by decide +kernel) dX2_copy_15 (fun (w9 : Mem) => (WDay z a1 w9 ++ (WDay z a2 m2))) (va_up m1 1 (va_cpy (m2 1) (m1 1) 0 0 8)) rfl (fun y1 ey1 H locs hP hD hS => ?_)
  have hf := lt_use ey1 hf
  refine lv_aload_n hx hb dX2_copy_18 rfl (lv_at hl 1 rfl) ?_
  refine va_get (D := D) (ci := 2) (v := .ref (a2 2)) (C := RX2) (T := TX2) (N := 8) hx hb hts iX2 hown hK hP 15 rfl rfl 3 (by decide) (hts _ aw162) (fun _ h9 => h9) rfl dX2_copy_19 ?_
  refine lv_iconst (v := 0) hx hb dX2_copy_22 (by decide) ?_
  refine lv_aload_n hx hb dX2_copy_23 rfl (lv_at hl 0 rfl) ?_
  refine va_get (D := D) (ci := 2) (v := .ref (a1 2)) (C := RX2) (T := TX2) (N := 8) hx hb hts iX2 hown hK hP 0 rfl rfl 3 (by decide) (hts _ aw162) (fun _ h9 => h9) rfl dX2_copy_24 ?_
  refine lv_iconst (v := 0) hx hb dX2_copy_27 (by decide) ?_
  refine lv_aload_n hx hb dX2_copy_28 rfl (lv_at hl 0 rfl) ?_
  refine va_get (D := D) (ci := 2) (v := .ref (a1 2)) (C := RX2) (T := TX2) (N := 8) hx hb hts iX2 hown hK hP 0 rfl rfl 3 (by decide) (hts _ aw162) (fun _ h9 => h9) rfl dX2_copy_29 ?_
  refine z_alen hx hb hK hP 2 0 rfl rfl (v := 8) rfl dX2_copy_32 ?_
  refine z_copy hx hb (by rw [hml]; exact hl.1.symm) hown (hts _ aw292) (hts _ aw294) (hts _ aw293) (hts _ aw53) hK hP hD hS 17 2 rfl rfl (n := 8) (nn := 8) (by decide) (by decide) (Nat.le_of_ble_eq_true rfl) (Nat.le_of_ble_eq_true rfl) (Nat.le_of_ble_eq_true rfl) (by decide +kernel) dX2_copy_33 (fun (w9 : Mem) => (WDay z a1 w9 ++ (WDay z a2 m2))) (va_up y1 2 (va_cpy (m2 2) (y1 2) 0 0 8)) rfl (fun y2 ey2 H locs hP hD hS => ?_)
  have hf := lt_use ey2 hf
  refine lv_aload_n hx hb dX2_copy_36 rfl (lv_at hl 0 rfl) ?_
  refine lv_aload_n hx hb dX2_copy_37 rfl (lv_at hl 1 rfl) ?_
  refine va_get (D := D) (ci := 2) (v := .int (m2 0 4)) (C := RX2) (T := TX2) (N := 8) hx hb hts iX2 hown hK hP 15 rfl rfl 4 (by decide) (hts _ aw165) (fun _ h9 => h9) rfl dX2_copy_38 ?_
  refine z_put (ci := 2) (v := .int (m2 0 4)) (ty := .int) (C := RX2) (T := TX2) (N := 8) hx hb hts iX2 tyX2 tyX2_ok nmX2 hown hK hP hD hS 0 rfl rfl 4 (by decide) (hts _ aw165) (fun _ h9 => h9) rfl (by decide +kernel) rfl rfl (Nat.le_of_ble_eq_true rfl) dX2_copy_41 (fun (w9 : Mem) => (WDay z a1 w9 ++ (WDay z a2 m2))) (up2 y2 0 4 (m2 0 4)) rfl (fun y3 ey3 H locs hP hD hS => ?_)
  have hf := lt_use ey3 hf
  refine lv_aload_n hx hb dX2_copy_44 rfl (lv_at hl 0 rfl) ?_
  refine lv_aload_n hx hb dX2_copy_45 rfl (lv_at hl 1 rfl) ?_
  refine va_get (D := D) (ci := 2) (v := .int (m2 0 5)) (C := RX2) (T := TX2) (N := 8) hx hb hts iX2 hown hK hP 15 rfl rfl 5 (by decide) (hts _ aw168) (fun _ h9 => h9) rfl dX2_copy_46 ?_
  refine z_put (ci := 2) (v := .int (m2 0 5)) (ty := .int) (C := RX2) (T := TX2) (N := 8) hx hb hts iX2 tyX2 tyX2_ok nmX2 hown hK hP hD hS 0 rfl rfl 5 (by decide) (hts _ aw168) (fun _ h9 => h9) rfl (by decide +kernel) rfl rfl (Nat.le_of_ble_eq_true rfl) dX2_copy_49 (fun (w9 : Mem) => (WDay z a1 w9 ++ (WDay z a2 m2))) (up2 y3 0 5 (m2 0 5)) rfl (fun y4 ey4 H locs hP hD hS => ?_)
  have hf := lt_use ey4 hf
  refine lv_aload_n hx hb dX2_copy_52 rfl (lv_at hl 0 rfl) ?_
  refine lv_aload_n hx hb dX2_copy_53 rfl (lv_at hl 1 rfl) ?_
  refine va_get (D := D) (ci := 2) (v := .int (m2 0 6)) (C := RX2) (T := TX2) (N := 8) hx hb hts iX2 hown hK hP 15 rfl rfl 6 (by decide) (hts _ aw170) (fun _ h9 => h9) rfl dX2_copy_54 ?_
  refine z_put (ci := 2) (v := .int (m2 0 6)) (ty := .int) (C := RX2) (T := TX2) (N := 8) hx hb hts iX2 tyX2 tyX2_ok nmX2 hown hK hP hD hS 0 rfl rfl 6 (by decide) (hts _ aw170) (fun _ h9 => h9) rfl (by decide +kernel) rfl rfl (Nat.le_of_ble_eq_true rfl) dX2_copy_57 (fun (w9 : Mem) => (WDay z a1 w9 ++ (WDay z a2 m2))) (up2 y4 0 6 (m2 0 6)) rfl (fun y5 ey5 H locs hP hD hS => ?_)
  have hf := lt_use ey5 hf
  refine lv_iconst (v := 0) hx hb dX2_copy_60 (by decide) ?_
  refine lv_istore_n (lv' := [(2, .int 0), (0, .ref (a1 0)), (1, .ref (a2 0))]) hx hb dX2_copy_61 rfl hl (by decide) rfl (fun ls hl => ?_)
  obtain ⟨F8, eF8, hf⟩ := zl2_use hf
  have L62_F8 : ∀ (n : Nat) (x6 : Int32) (y7 : Mem) (H : Heap) (locs : List Loc), va_P D vwCl (WDay z a1 y7 ++ (WDay z a2 m2)) H → va_D A (WDay z a1 y7 ++ (WDay z a2 m2)) → va_S A s.heap H locs → ∀ (ls : Array Slot), lv_has ls 3 [(0, .ref (a1 0)), (1, .ref (a2 0)), (2, .int x6)] → zl2 F8 n x6 y7 = some m1' → GV p l e (headSpec wsX2_copy ({ frames := 2, cells := 0, slots := 0, locals := 43 } : Room)).room s m ([.ref (a1 0), .ref (a2 0)] : List Value).toArray below meth c A D z (WDay z a1 m1' ++ (WDay z a2 m2)) H locs (F0 m 62 ls []) := by
    intro n
    induction n with
    | zero =>
      intro x6 y7 H locs hP hD hS ls hl hf
      exact no_none hf
    | succ n ih10 =>
      intro x6 y7 H locs hP hD hS ls hl hf
      have hf := zl2_s eF8 hf
      refine lv_iload_n hx hb dX2_copy_62 rfl (lv_at hl 2 rfl) ?_
      refine lv_aload_n hx hb dX2_copy_63 rfl (lv_at hl 0 rfl) ?_
      refine va_get (D := D) (ci := 2) (v := .int (y7 0 4)) (C := RX2) (T := TX2) (N := 8) hx hb hts iX2 hown hK hP 0 rfl rfl 4 (by decide) (hts _ aw165) (fun _ h9 => h9) rfl dX2_copy_64 ?_
      refine lv_icmp_ge (tgt := 91) hx hb dX2_copy_67 (by decide) (fun c11 => ?_) (fun c11 => ?_)
      · have hf := if_t c11 hf
        refine lv_iconst (v := 0) hx hb dX2_copy_91 (by decide) ?_
        refine lv_istore_n (lv' := [(2, .int 0), (0, .ref (a1 0)), (1, .ref (a2 0))]) hx hb dX2_copy_92 rfl hl (by decide) rfl (fun ls hl => ?_)
        obtain ⟨F14, eF14, hf⟩ := zl2_use hf
        have L93_F14 : ∀ (n : Nat) (x12 : Int32) (y13 : Mem) (H : Heap) (locs : List Loc), va_P D vwCl (WDay z a1 y13 ++ (WDay z a2 m2)) H → va_D A (WDay z a1 y13 ++ (WDay z a2 m2)) → va_S A s.heap H locs → ∀ (ls : Array Slot), lv_has ls 3 [(0, .ref (a1 0)), (1, .ref (a2 0)), (2, .int x12)] → zl2 F14 n x12 y13 = some m1' → GV p l e (headSpec wsX2_copy ({ frames := 2, cells := 0, slots := 0, locals := 43 } : Room)).room s m ([.ref (a1 0), .ref (a2 0)] : List Value).toArray below meth c A D z (WDay z a1 m1' ++ (WDay z a2 m2)) H locs (F0 m 93 ls []) := by
          intro n
          induction n with
          | zero =>
            intro x12 y13 H locs hP hD hS ls hl hf
            exact no_none hf
          | succ n ih16 =>
            intro x12 y13 H locs hP hD hS ls hl hf
            have hf := zl2_s eF14 hf
            refine lv_iload_n hx hb dX2_copy_93 rfl (lv_at hl 2 rfl) ?_
            refine lv_aload_n hx hb dX2_copy_94 rfl (lv_at hl 0 rfl) ?_
            refine va_get (D := D) (ci := 2) (v := .ref (a1 14)) (C := RX2) (T := TX2) (N := 8) hx hb hts iX2 hown hK hP 0 rfl rfl 2 (by decide) (hts _ aw159) (fun _ h9 => h9) rfl dX2_copy_95 ?_
            refine z_alen hx hb hK hP 14 2 rfl rfl (v := 2) rfl dX2_copy_98 ?_
            refine lv_icmp_ge (tgt := 123) hx hb dX2_copy_99 (by decide) (fun c17 => ?_) (fun c17 => ?_)
            · have hf := if_t c17 hf
              obtain rfl := so1 hf
              exact ret_v hx hb hr hlocks hK hP hD hS dX2_copy_123
            · have hf := if_f c17 hf
              refine lv_aload_n hx hb dX2_copy_102 rfl (lv_at hl 0 rfl) ?_
              refine va_get (D := D) (ci := 2) (v := .ref (a1 14)) (C := RX2) (T := TX2) (N := 8) hx hb hts iX2 hown hK hP 0 rfl rfl 2 (by decide) (hts _ aw159) (fun _ h9 => h9) rfl dX2_copy_103 ?_
              refine lv_iload_n hx hb dX2_copy_106 rfl (lv_at hl 2 rfl) ?_
              obtain ⟨h18, hf⟩ := ck_use hf
              refine z_ald hx hb hK hP 14 2 (C := "FilledForOne$Kettle") (g := (fun j => a1 (3 + j))) rfl rfl h18 dX2_copy_107 ?_
              refine lv_aload_n hx hb dX2_copy_108 rfl (lv_at hl 1 rfl) ?_
              refine va_get (D := D) (ci := 2) (v := .ref (a2 14)) (C := RX2) (T := TX2) (N := 8) hx hb hts iX2 hown hK hP 15 rfl rfl 2 (by decide) (hts _ aw159) (fun _ h9 => h9) rfl dX2_copy_109 ?_
              refine lv_iload_n hx hb dX2_copy_112 rfl (lv_at hl 2 rfl) ?_
              obtain ⟨h19, hf⟩ := ck_use hf
              refine z_ald hx hb hK hP 29 2 (C := "FilledForOne$Kettle") (g := (fun j => a2 (3 + j))) rfl rfl h19 dX2_copy_113 ?_
              obtain ⟨y20, q21, hf⟩ := bd_use hf
              obtain ⟨y22, ey22⟩ : ∃ w : Mem, w = va_up y13 (3 + x12.toNatClampNeg) y20 := ⟨_, rfl⟩
              have hf := lt_use ey22 hf
              have hfo : Foc (WDay z a1 y13 ++ (WDay z a2 m2)) (WKet (a1 (3 + x12.toNatClampNeg)) (y13 (3 + x12.toNatClampNeg)) ++ (WKet (a2 (3 + x12.toNatClampNeg)) (m2 (3 + x12.toNatClampNeg)))) (WDay z a1 y22 ++ (WDay z a2 m2)) (WKet (a1 (3 + x12.toNatClampNeg)) y20 ++ (WKet (a2 (3 + x12.toNatClampNeg)) (m2 (3 + x12.toNatClampNeg)))) := (foc_app (foc_el (WDay_k z a1 y13 (vp_lt h18)) (by rw [ey22]; exact WDay_sk z a1 y13 y20 (vp_lt h18))) (foc_els (WDay_k z a2 m2 (vp_lt h19))))
              refine z_goV (ws1 := (WDay z a1 y22 ++ (WDay z a2 m2))) (va_runV (As := [.ref (a2 (3 + x12.toNatClampNeg))]) (rest := []) ⟨hx, hb, hml, hown, hts⟩ (tX3_copy l D z tt (a1 (3 + x12.toNatClampNeg)) (a2 (3 + x12.toNatClampNeg)) (y13 (3 + x12.toNatClampNeg)) (m2 (3 + x12.toNatClampNeg))  fu y20 q21 _) (cwV 1 hts (gV4 aw303 aw304 aw305 aw48 aw306) rfl rfl rfl (by decide +kernel) ⟨Nat.le_of_ble_eq_true rfl, Nat.le_of_ble_eq_true rfl⟩) (z_preV hK hP hD hS hA hT hN hfo (va_recv hK hP (ci := 3) (q0 := (3 + x12.toNatClampNeg)) rfl (w_beg (WDay_k z a1 y13 (vp_lt h18))))) rfl rfl hl.1 rfl (lv_room (Nat.le_of_ble_eq_true rfl)) dX2_copy_114 ⟨Nat.zero_le _, Nat.zero_le _⟩) hP hD hS hA hfo (fun H locs hP hD hS => ?_)
              obtain ⟨x23, ex23⟩ : ∃ y : Int32, y = x12 + 1 := ⟨_, rfl⟩
              have hf := lt_use ex23 hf
              refine lv_iinc (v := x23) (lv' := [(2, .int x23), (0, .ref (a1 0)), (1, .ref (a2 0))]) hx hb dX2_copy_117 hl (k := 2) rfl (by rw [ex23]; rfl) (by decide) rfl (fun ls hl => ?_)
              refine lv_goto (tgt := 93) hx hb dX2_copy_120 (by decide) ?_
              exact ih16 _ _ _ _ hP hD hS _ (lv_sub hl [1, 2, 0] rfl) hf
        exact L93_F14 fu _ _ _ _ hP hD hS _ (lv_sub hl [1, 2, 0] rfl) hf
      · have hf := if_f c11 hf
        refine lv_aload_n hx hb dX2_copy_70 rfl (lv_at hl 0 rfl) ?_
        refine va_get (D := D) (ci := 2) (v := .ref (a1 13)) (C := RX2) (T := TX2) (N := 8) hx hb hts iX2 hown hK hP 0 rfl rfl 1 (by decide) (hts _ aw154) (fun _ h9 => h9) rfl dX2_copy_71 ?_
        refine lv_iload_n hx hb dX2_copy_74 rfl (lv_at hl 2 rfl) ?_
        obtain ⟨h24, hf⟩ := ck_use hf
        refine z_ald hx hb hK hP 13 1 (C := "FilledForOne$Comer") (g := (fun j => a1 (5 + j))) rfl rfl h24 dX2_copy_75 ?_
        refine lv_aload_n hx hb dX2_copy_76 rfl (lv_at hl 1 rfl) ?_
        refine va_get (D := D) (ci := 2) (v := .ref (a2 13)) (C := RX2) (T := TX2) (N := 8) hx hb hts iX2 hown hK hP 15 rfl rfl 1 (by decide) (hts _ aw154) (fun _ h9 => h9) rfl dX2_copy_77 ?_
        refine lv_iload_n hx hb dX2_copy_80 rfl (lv_at hl 2 rfl) ?_
        obtain ⟨h25, hf⟩ := ck_use hf
        refine z_ald hx hb hK hP 28 1 (C := "FilledForOne$Comer") (g := (fun j => a2 (5 + j))) rfl rfl h25 dX2_copy_81 ?_
        obtain ⟨y26, q27, hf⟩ := bd_use hf
        obtain ⟨y28, ey28⟩ : ∃ w : Mem, w = va_up y7 (5 + x6.toNatClampNeg) y26 := ⟨_, rfl⟩
        have hf := lt_use ey28 hf
        have hfo : Foc (WDay z a1 y7 ++ (WDay z a2 m2)) (WCom (a1 (5 + x6.toNatClampNeg)) (y7 (5 + x6.toNatClampNeg)) ++ (WCom (a2 (5 + x6.toNatClampNeg)) (m2 (5 + x6.toNatClampNeg)))) (WDay z a1 y28 ++ (WDay z a2 m2)) (WCom (a1 (5 + x6.toNatClampNeg)) y26 ++ (WCom (a2 (5 + x6.toNatClampNeg)) (m2 (5 + x6.toNatClampNeg)))) := (foc_app (foc_el (WDay_c z a1 y7 (vp_lt h24)) (by rw [ey28]; exact WDay_sc z a1 y7 y26 (vp_lt h24))) (foc_els (WDay_c z a2 m2 (vp_lt h25))))
        refine z_goV (ws1 := (WDay z a1 y28 ++ (WDay z a2 m2))) (va_runV (As := [.ref (a2 (5 + x6.toNatClampNeg))]) (rest := []) ⟨hx, hb, hml, hown, hts⟩ (tX1_copy l D z tt (a1 (5 + x6.toNatClampNeg)) (a2 (5 + x6.toNatClampNeg)) (y7 (5 + x6.toNatClampNeg)) (m2 (5 + x6.toNatClampNeg))  fu y26 q27 _) (cwV 1 hts (gV4 aw295 aw296 aw297 aw47 aw298) rfl rfl rfl (by decide +kernel) ⟨Nat.le_of_ble_eq_true rfl, Nat.le_of_ble_eq_true rfl⟩) (z_preV hK hP hD hS hA hT hN hfo (va_recv hK hP (ci := 1) (q0 := (5 + x6.toNatClampNeg)) rfl (w_beg (WDay_c z a1 y7 (vp_lt h24))))) rfl rfl hl.1 rfl (lv_room (Nat.le_of_ble_eq_true rfl)) dX2_copy_82 ⟨Nat.zero_le _, Nat.zero_le _⟩) hP hD hS hA hfo (fun H locs hP hD hS => ?_)
        obtain ⟨x29, ex29⟩ : ∃ y : Int32, y = x6 + 1 := ⟨_, rfl⟩
        have hf := lt_use ex29 hf
        refine lv_iinc (v := x29) (lv' := [(2, .int x29), (0, .ref (a1 0)), (1, .ref (a2 0))]) hx hb dX2_copy_85 hl (k := 2) rfl (by rw [ex29]; rfl) (by decide) rfl (fun ls hl => ?_)
        refine lv_goto (tgt := 62) hx hb dX2_copy_88 (by decide) ?_
        exact ih10 _ _ _ _ hP hD hS _ (lv_sub hl [1, 2, 0] rfl) hf
  exact L62_F8 fu _ _ _ _ hP hD hS _ (lv_sub hl [1, 2, 0] rfl) hf
def pX2_begin (fu : Nat) (m1 : Mem) : Option Mem :=
  lt' (up2 m1 0 6 0) fun y1 =>
  lt' (up2 y1 0 5 0) fun y2 =>
  zl2 (fun g6 (x3 : Int32) (y4 : Mem) =>
    if (y4 0 4) ≤ x3 then
      zl2 (fun g12 (x9 : Int32) (y10 : Mem) =>
        if 2 ≤ x9 then
          some y10
        else
          ck x9 2 <|
          bd (pX3_begin fu (y10 (3 + x9.toNatClampNeg))) fun y16 =>
          lt' (va_up y10 (3 + x9.toNatClampNeg) y16) fun y18 =>
          lt' (x9 + 1) fun x19 =>
          g12 x19 y18) fu 0 y4
    else
      ck x3 8 <|
      lt' (up2 y4 (5 + x3.toNatClampNeg) 5 0) fun y21 =>
      lt' (x3 + 1) fun x22 =>
      g6 x22 y21) fu 0 y2
set_option maxHeartbeats 4000000 in
set_option maxRecDepth 100000 in
theorem tX2_begin (l : Launch) (D : va_G) (z tt : Nat → Nat) (a1 : Nat → Nat) (m1 : Mem)  (fu : Nat) (m1' : Mem) (hf : pX2_begin fu m1 = some m1') : MetV l yX2_begin wsX2_begin ({ frames := 1, cells := 0, slots := 0, locals := 20 } : Room) D z tt ([.ref (a1 0)] : List Value) (WDay z a1 m1) (WDay z a1 m1') := by
  intro sz
  refine Met.ofW (cc := cX2_begin) (maxL := 2) (ret := none) (by decide) rfl ?_
  intro p e s m args below meth c s₁ B hml hv
  obtain ⟨rfl, hsz, hP, hK, hD0, hT, hN⟩ := hv
  have hx := B.exec
  have hb := B.bytes
  have hr := B.returns
  have hts : ∀ w ∈ wsA, w.before ([.ref (a1 0)] : List Value).toArray s = true := fun w h => atoms_spec (ws := wsX2_begin) B.pre w (List.mem_cons_of_mem _ h)
  have hown : s.vm.findClass RX2 = some m.cls := findClass_of_methodNamed B.named
  have hlocks := B.notSynchronized
  subst hsz
  have hD := hD0.self (sz := s.heap.size)
  generalize hAe : va_A (WDay z a1 m1) s.heap.size = A at hD hT ⊢
  have hA : ∀ q : Nat, s.heap.size ≤ q → A q := fun q h => by rw [← hAe]; exact Or.inr h
  have hS : va_S A s.heap s.heap [] := va_S.rf
  have hl := lv_entry ([.ref (a1 0)] : List Value) (n := 2) (Nat.le_of_ble_eq_true rfl)
  rw [lg_entry_eq]
  generalize (lg_sl ([.ref (a1 0)] : List Value) ++ List.replicate (2 - (lg_sl ([.ref (a1 0)] : List Value)).length) Slot.unset).toArray = ls at hl ⊢
  have hl : lv_has ls 2 [(0, .ref (a1 0))] := hl
  unfold pX2_begin at hf
  refine lv_aload_n hx hb dX2_begin_0 rfl (lv_at hl 0 rfl) ?_
  refine lv_iconst (v := 0) hx hb dX2_begin_1 (by decide) ?_
  refine z_put (ci := 2) (v := .int 0) (ty := .int) (C := RX2) (T := TX2) (N := 8) hx hb hts iX2 tyX2 tyX2_ok nmX2 hown hK hP hD hS 0 rfl rfl 6 (by decide) (hts _ aw170) (fun _ h9 => h9) rfl (by decide +kernel) rfl rfl (Nat.le_of_ble_eq_true rfl) dX2_begin_2 (fun (w9 : Mem) => (WDay z a1 w9)) (up2 m1 0 6 0) rfl (fun y1 ey1 H locs hP hD hS => ?_)
  have hf := lt_use ey1 hf
  refine lv_aload_n hx hb dX2_begin_5 rfl (lv_at hl 0 rfl) ?_
  refine lv_iconst (v := 0) hx hb dX2_begin_6 (by decide) ?_
  refine z_put (ci := 2) (v := .int 0) (ty := .int) (C := RX2) (T := TX2) (N := 8) hx hb hts iX2 tyX2 tyX2_ok nmX2 hown hK hP hD hS 0 rfl rfl 5 (by decide) (hts _ aw168) (fun _ h9 => h9) rfl (by decide +kernel) rfl rfl (Nat.le_of_ble_eq_true rfl) dX2_begin_7 (fun (w9 : Mem) => (WDay z a1 w9)) (up2 y1 0 5 0) rfl (fun y2 ey2 H locs hP hD hS => ?_)
  have hf := lt_use ey2 hf
  refine lv_iconst (v := 0) hx hb dX2_begin_10 (by decide) ?_
  refine lv_istore_n (lv' := [(1, .int 0), (0, .ref (a1 0))]) hx hb dX2_begin_11 rfl hl (by decide) rfl (fun ls hl => ?_)
  obtain ⟨F5, eF5, hf⟩ := zl2_use hf
  have L12_F5 : ∀ (n : Nat) (x3 : Int32) (y4 : Mem) (H : Heap) (locs : List Loc), va_P D vwCl (WDay z a1 y4) H → va_D A (WDay z a1 y4) → va_S A s.heap H locs → ∀ (ls : Array Slot), lv_has ls 2 [(0, .ref (a1 0)), (1, .int x3)] → zl2 F5 n x3 y4 = some m1' → GV p l e (headSpec wsX2_begin ({ frames := 1, cells := 0, slots := 0, locals := 20 } : Room)).room s m ([.ref (a1 0)] : List Value).toArray below meth c A D z (WDay z a1 m1') H locs (F0 m 12 ls []) := by
    intro n
    induction n with
    | zero =>
      intro x3 y4 H locs hP hD hS ls hl hf
      exact no_none hf
    | succ n ih7 =>
      intro x3 y4 H locs hP hD hS ls hl hf
      have hf := zl2_s eF5 hf
      refine lv_iload_n hx hb dX2_begin_12 rfl (lv_at hl 1 rfl) ?_
      refine lv_aload_n hx hb dX2_begin_13 rfl (lv_at hl 0 rfl) ?_
      refine va_get (D := D) (ci := 2) (v := .int (y4 0 4)) (C := RX2) (T := TX2) (N := 8) hx hb hts iX2 hown hK hP 0 rfl rfl 4 (by decide) (hts _ aw165) (fun _ h9 => h9) rfl dX2_begin_14 ?_
      refine lv_icmp_ge (tgt := 36) hx hb dX2_begin_17 (by decide) (fun c8 => ?_) (fun c8 => ?_)
      · have hf := if_t c8 hf
        refine lv_iconst (v := 0) hx hb dX2_begin_36 (by decide) ?_
        refine lv_istore_n (lv' := [(1, .int 0), (0, .ref (a1 0))]) hx hb dX2_begin_37 rfl hl (by decide) rfl (fun ls hl => ?_)
        obtain ⟨F11, eF11, hf⟩ := zl2_use hf
        have L38_F11 : ∀ (n : Nat) (x9 : Int32) (y10 : Mem) (H : Heap) (locs : List Loc), va_P D vwCl (WDay z a1 y10) H → va_D A (WDay z a1 y10) → va_S A s.heap H locs → ∀ (ls : Array Slot), lv_has ls 2 [(0, .ref (a1 0)), (1, .int x9)] → zl2 F11 n x9 y10 = some m1' → GV p l e (headSpec wsX2_begin ({ frames := 1, cells := 0, slots := 0, locals := 20 } : Room)).room s m ([.ref (a1 0)] : List Value).toArray below meth c A D z (WDay z a1 m1') H locs (F0 m 38 ls []) := by
          intro n
          induction n with
          | zero =>
            intro x9 y10 H locs hP hD hS ls hl hf
            exact no_none hf
          | succ n ih13 =>
            intro x9 y10 H locs hP hD hS ls hl hf
            have hf := zl2_s eF11 hf
            refine lv_iload_n hx hb dX2_begin_38 rfl (lv_at hl 1 rfl) ?_
            refine lv_aload_n hx hb dX2_begin_39 rfl (lv_at hl 0 rfl) ?_
            refine va_get (D := D) (ci := 2) (v := .ref (a1 14)) (C := RX2) (T := TX2) (N := 8) hx hb hts iX2 hown hK hP 0 rfl rfl 2 (by decide) (hts _ aw159) (fun _ h9 => h9) rfl dX2_begin_40 ?_
            refine z_alen hx hb hK hP 14 2 rfl rfl (v := 2) rfl dX2_begin_43 ?_
            refine lv_icmp_ge (tgt := 62) hx hb dX2_begin_44 (by decide) (fun c14 => ?_) (fun c14 => ?_)
            · have hf := if_t c14 hf
              obtain rfl := so1 hf
              exact ret_v hx hb hr hlocks hK hP hD hS dX2_begin_62
            · have hf := if_f c14 hf
              refine lv_aload_n hx hb dX2_begin_47 rfl (lv_at hl 0 rfl) ?_
              refine va_get (D := D) (ci := 2) (v := .ref (a1 14)) (C := RX2) (T := TX2) (N := 8) hx hb hts iX2 hown hK hP 0 rfl rfl 2 (by decide) (hts _ aw159) (fun _ h9 => h9) rfl dX2_begin_48 ?_
              refine lv_iload_n hx hb dX2_begin_51 rfl (lv_at hl 1 rfl) ?_
              obtain ⟨h15, hf⟩ := ck_use hf
              refine z_ald hx hb hK hP 14 2 (C := "FilledForOne$Kettle") (g := (fun j => a1 (3 + j))) rfl rfl h15 dX2_begin_52 ?_
              obtain ⟨y16, q17, hf⟩ := bd_use hf
              obtain ⟨y18, ey18⟩ : ∃ w : Mem, w = va_up y10 (3 + x9.toNatClampNeg) y16 := ⟨_, rfl⟩
              have hf := lt_use ey18 hf
              have hfo : Foc (WDay z a1 y10) (WKet (a1 (3 + x9.toNatClampNeg)) (y10 (3 + x9.toNatClampNeg))) (WDay z a1 y18) (WKet (a1 (3 + x9.toNatClampNeg)) y16) := (foc_el (WDay_k z a1 y10 (vp_lt h15)) (by rw [ey18]; exact WDay_sk z a1 y10 y16 (vp_lt h15)))
              refine z_goV (ws1 := (WDay z a1 y18)) (va_runV (As := []) (rest := []) ⟨hx, hb, hml, hown, hts⟩ (tX3_begin l D z tt (a1 (3 + x9.toNatClampNeg)) (y10 (3 + x9.toNatClampNeg))  fu y16 q17 _) (cwV 0 hts (gV4 aw511 aw512 aw513 aw48 aw514) rfl rfl rfl (by decide +kernel) ⟨Nat.le_of_ble_eq_true rfl, Nat.le_of_ble_eq_true rfl⟩) (z_preV hK hP hD hS hA hT hN hfo (va_recv hK hP (ci := 3) (q0 := (3 + x9.toNatClampNeg)) rfl (WDay_k z a1 y10 (vp_lt h15)))) rfl rfl hl.1 rfl (lv_room (Nat.le_of_ble_eq_true rfl)) dX2_begin_53 ⟨Nat.zero_le _, Nat.zero_le _⟩) hP hD hS hA hfo (fun H locs hP hD hS => ?_)
              obtain ⟨x19, ex19⟩ : ∃ y : Int32, y = x9 + 1 := ⟨_, rfl⟩
              have hf := lt_use ex19 hf
              refine lv_iinc (v := x19) (lv' := [(1, .int x19), (0, .ref (a1 0))]) hx hb dX2_begin_56 hl (k := 1) rfl (by rw [ex19]; rfl) (by decide) rfl (fun ls hl => ?_)
              refine lv_goto (tgt := 38) hx hb dX2_begin_59 (by decide) ?_
              exact ih13 _ _ _ _ hP hD hS _ (lv_sub hl [1, 0] rfl) hf
        exact L38_F11 fu _ _ _ _ hP hD hS _ (lv_sub hl [1, 0] rfl) hf
      · have hf := if_f c8 hf
        refine lv_aload_n hx hb dX2_begin_20 rfl (lv_at hl 0 rfl) ?_
        refine va_get (D := D) (ci := 2) (v := .ref (a1 13)) (C := RX2) (T := TX2) (N := 8) hx hb hts iX2 hown hK hP 0 rfl rfl 1 (by decide) (hts _ aw154) (fun _ h9 => h9) rfl dX2_begin_21 ?_
        refine lv_iload_n hx hb dX2_begin_24 rfl (lv_at hl 1 rfl) ?_
        obtain ⟨h20, hf⟩ := ck_use hf
        refine z_ald hx hb hK hP 13 1 (C := "FilledForOne$Comer") (g := (fun j => a1 (5 + j))) rfl rfl h20 dX2_begin_25 ?_
        refine lv_iconst (v := 0) hx hb dX2_begin_26 (by decide) ?_
        refine z_put (ci := 1) (v := .int 0) (ty := .int) (C := RX1) (T := TX1) (N := 7) hx hb hts iX1 tyX1 tyX1_ok nmX1 hown hK hP hD hS (5 + x3.toNatClampNeg) (WDay_c z a1 y4 (vp_lt h20)) rfl 5 (by decide) (hts _ aw103) (fun _ h9 => h9) rfl (by decide +kernel) rfl rfl (Nat.le_of_ble_eq_true rfl) dX2_begin_27 (fun (w9 : Mem) => (WDay z a1 w9)) (up2 y4 (5 + x3.toNatClampNeg) 5 0) (WDay_sc z a1 y4 (upd (y4 (5 + x3.toNatClampNeg)) 5 0) (vp_lt h20)) (fun y21 ey21 H locs hP hD hS => ?_)
        have hf := lt_use ey21 hf
        obtain ⟨x22, ex22⟩ : ∃ y : Int32, y = x3 + 1 := ⟨_, rfl⟩
        have hf := lt_use ex22 hf
        refine lv_iinc (v := x22) (lv' := [(1, .int x22), (0, .ref (a1 0))]) hx hb dX2_begin_30 hl (k := 1) rfl (by rw [ex22]; rfl) (by decide) rfl (fun ls hl => ?_)
        refine lv_goto (tgt := 12) hx hb dX2_begin_33 (by decide) ?_
        exact ih7 _ _ _ _ hP hD hS _ (lv_sub hl [1, 0] rfl) hf
  exact L12_F5 fu _ _ _ _ hP hD hS _ (lv_sub hl [1, 0] rfl) hf
def pX2_hasComer (fu : Nat) (m1 : Mem) (p1 : Int32) : Option Int32 :=
  if p1 < 0 then
    some 0
  else
    if (m1 0 4) ≤ p1 then
      some 0
    else
      some 1
set_option maxHeartbeats 4000000 in
set_option maxRecDepth 100000 in
theorem tX2_hasComer (l : Launch) (D : va_G) (z tt : Nat → Nat) (a1 : Nat → Nat) (m1 : Mem) (p1 : Int32) (fu : Nat) (rr : Int32) (hf : pX2_hasComer fu m1 p1 = some rr) : MetI l yX2_hasComer wsX2_hasComer ({ frames := 0, cells := 0, slots := 0, locals := 0 } : Room) D z tt ([.ref (a1 0), .int p1] : List Value) (WDay z a1 m1) rr (WDay z a1 m1) := by
  intro sz
  refine Met.ofW (cc := cX2_hasComer) (maxL := 2) (ret := (some .boolean)) (by decide) rfl ?_
  intro p e s m args below meth c s₁ B hml hv
  obtain ⟨rfl, hsz, hP, hK, hD0, hT, hN⟩ := hv
  have hx := B.exec
  have hb := B.bytes
  have hr := B.returns
  have hts : ∀ w ∈ wsA, w.before ([.ref (a1 0), .int p1] : List Value).toArray s = true := fun w h => atoms_spec (ws := wsX2_hasComer) B.pre w (List.mem_cons_of_mem _ h)
  have hown : s.vm.findClass RX2 = some m.cls := findClass_of_methodNamed B.named
  have hlocks := B.notSynchronized
  subst hsz
  have hD := hD0.self (sz := s.heap.size)
  generalize hAe : va_A (WDay z a1 m1) s.heap.size = A at hD hT ⊢
  have hA : ∀ q : Nat, s.heap.size ≤ q → A q := fun q h => by rw [← hAe]; exact Or.inr h
  have hS : va_S A s.heap s.heap [] := va_S.rf
  have hl := lv_entry ([.ref (a1 0), .int p1] : List Value) (n := 2) (Nat.le_of_ble_eq_true rfl)
  rw [lg_entry_eq]
  generalize (lg_sl ([.ref (a1 0), .int p1] : List Value) ++ List.replicate (2 - (lg_sl ([.ref (a1 0), .int p1] : List Value)).length) Slot.unset).toArray = ls at hl ⊢
  have hl : lv_has ls 2 [(0, .ref (a1 0)), (1, .int p1)] := hl
  unfold pX2_hasComer at hf
  refine lv_iload_n hx hb dX2_hasComer_0 rfl (lv_at hl 1 rfl) ?_
  refine lv_if_lt (tgt := 16) hx hb dX2_hasComer_1 (by decide) (fun c1 => ?_) (fun c1 => ?_)
  · have hf := if_t c1 hf
    refine lv_iconst (v := 0) hx hb dX2_hasComer_16 (by decide) ?_
    obtain rfl := so1 hf
    exact ret_z hx hb hr hlocks hK hP hD hS (by decide) dX2_hasComer_17
  · have hf := if_f c1 hf
    refine lv_iload_n hx hb dX2_hasComer_4 rfl (lv_at hl 1 rfl) ?_
    refine lv_aload_n hx hb dX2_hasComer_5 rfl (lv_at hl 0 rfl) ?_
    refine va_get (D := D) (ci := 2) (v := .int (m1 0 4)) (C := RX2) (T := TX2) (N := 8) hx hb hts iX2 hown hK hP 0 rfl rfl 4 (by decide) (hts _ aw165) (fun _ h9 => h9) rfl dX2_hasComer_6 ?_
    refine lv_icmp_ge (tgt := 16) hx hb dX2_hasComer_9 (by decide) (fun c2 => ?_) (fun c2 => ?_)
    · have hf := if_t c2 hf
      refine lv_iconst (v := 0) hx hb dX2_hasComer_16 (by decide) ?_
      obtain rfl := so1 hf
      exact ret_z hx hb hr hlocks hK hP hD hS (by decide) dX2_hasComer_17
    · have hf := if_f c2 hf
      refine lv_iconst (v := 1) hx hb dX2_hasComer_12 (by decide) ?_
      refine lv_goto (tgt := 17) hx hb dX2_hasComer_13 (by decide) ?_
      obtain rfl := so1 hf
      exact ret_z hx hb hr hlocks hK hP hD hS (by decide) dX2_hasComer_17
def pX2_kettlesInUse (fu : Nat) (m1 : Mem) : Option Int32 :=
  some (m1 1 7)
set_option maxHeartbeats 4000000 in
set_option maxRecDepth 100000 in
theorem tX2_kettlesInUse (l : Launch) (D : va_G) (z tt : Nat → Nat) (a1 : Nat → Nat) (m1 : Mem)  (fu : Nat) (rr : Int32) (hf : pX2_kettlesInUse fu m1 = some rr) : MetI l yX2_kettlesInUse wsX2_kettlesInUse ({ frames := 0, cells := 0, slots := 0, locals := 0 } : Room) D z tt ([.ref (a1 0)] : List Value) (WDay z a1 m1) rr (WDay z a1 m1) := by
  intro sz
  refine Met.ofW (cc := cX2_kettlesInUse) (maxL := 1) (ret := (some .int)) (by decide) rfl ?_
  intro p e s m args below meth c s₁ B hml hv
  obtain ⟨rfl, hsz, hP, hK, hD0, hT, hN⟩ := hv
  have hx := B.exec
  have hb := B.bytes
  have hr := B.returns
  have hts : ∀ w ∈ wsA, w.before ([.ref (a1 0)] : List Value).toArray s = true := fun w h => atoms_spec (ws := wsX2_kettlesInUse) B.pre w (List.mem_cons_of_mem _ h)
  have hown : s.vm.findClass RX2 = some m.cls := findClass_of_methodNamed B.named
  have hlocks := B.notSynchronized
  subst hsz
  have hD := hD0.self (sz := s.heap.size)
  generalize hAe : va_A (WDay z a1 m1) s.heap.size = A at hD hT ⊢
  have hA : ∀ q : Nat, s.heap.size ≤ q → A q := fun q h => by rw [← hAe]; exact Or.inr h
  have hS : va_S A s.heap s.heap [] := va_S.rf
  have hl := lv_entry ([.ref (a1 0)] : List Value) (n := 1) (Nat.le_of_ble_eq_true rfl)
  rw [lg_entry_eq]
  generalize (lg_sl ([.ref (a1 0)] : List Value) ++ List.replicate (1 - (lg_sl ([.ref (a1 0)] : List Value)).length) Slot.unset).toArray = ls at hl ⊢
  have hl : lv_has ls 1 [(0, .ref (a1 0))] := hl
  unfold pX2_kettlesInUse at hf
  refine lv_aload_n hx hb dX2_kettlesInUse_0 rfl (lv_at hl 0 rfl) ?_
  refine va_get (D := D) (ci := 2) (v := .ref (a1 1)) (C := RX2) (T := TX2) (N := 8) hx hb hts iX2 hown hK hP 0 rfl rfl 0 (by decide) (hts _ aw150) (fun _ h9 => h9) rfl dX2_kettlesInUse_1 ?_
  refine lv_bipush (v := 7) hx hb dX2_kettlesInUse_4 (by decide) ?_
  refine z_ialdc hx hb hK hP 1 rfl (i := 7) (k := 7) (by decide) (Nat.le_of_ble_eq_true rfl) dX2_kettlesInUse_6 ?_
  obtain rfl := so1 hf
  exact ret_i hx hb hr hlocks hK hP hD hS dX2_kettlesInUse_7
def pX2_highestLevel (fu : Nat) (m1 : Mem) : Option Int32 :=
  zl2 (fun g4 (x1 : Int32) (x2 : Int32) =>
    bd (pX2_kettlesInUse fu m1) fun r6 =>
    if r6 ≤ x2 then
      some x1
    else
      ck x2 2 <|
      lt' ((imax x1 (m1 (3 + x2.toNatClampNeg) 0)) : Int32) fun x10 =>
      lt' (x2 + 1) fun x11 =>
      g4 x10 x11) fu 0 0
set_option maxHeartbeats 4000000 in
set_option maxRecDepth 100000 in
theorem tX2_highestLevel (l : Launch) (D : va_G) (z tt : Nat → Nat) (a1 : Nat → Nat) (m1 : Mem)  (fu : Nat) (rr : Int32) (hf : pX2_highestLevel fu m1 = some rr) : MetI l yX2_highestLevel wsX2_highestLevel ({ frames := 1, cells := 0, slots := 0, locals := 20 } : Room) D z tt ([.ref (a1 0)] : List Value) (WDay z a1 m1) rr (WDay z a1 m1) := by
  intro sz
  refine Met.ofW (cc := cX2_highestLevel) (maxL := 3) (ret := (some .int)) (by decide) rfl ?_
  intro p e s m args below meth c s₁ B hml hv
  obtain ⟨rfl, hsz, hP, hK, hD0, hT, hN⟩ := hv
  have hx := B.exec
  have hb := B.bytes
  have hr := B.returns
  have hts : ∀ w ∈ wsA, w.before ([.ref (a1 0)] : List Value).toArray s = true := fun w h => atoms_spec (ws := wsX2_highestLevel) B.pre w (List.mem_cons_of_mem _ h)
  have hown : s.vm.findClass RX2 = some m.cls := findClass_of_methodNamed B.named
  have hlocks := B.notSynchronized
  subst hsz
  have hD := hD0.self (sz := s.heap.size)
  generalize hAe : va_A (WDay z a1 m1) s.heap.size = A at hD hT ⊢
  have hA : ∀ q : Nat, s.heap.size ≤ q → A q := fun q h => by rw [← hAe]; exact Or.inr h
  have hS : va_S A s.heap s.heap [] := va_S.rf
  have hl := lv_entry ([.ref (a1 0)] : List Value) (n := 3) (Nat.le_of_ble_eq_true rfl)
  rw [lg_entry_eq]
  generalize (lg_sl ([.ref (a1 0)] : List Value) ++ List.replicate (3 - (lg_sl ([.ref (a1 0)] : List Value)).length) Slot.unset).toArray = ls at hl ⊢
  have hl : lv_has ls 3 [(0, .ref (a1 0))] := hl
  unfold pX2_highestLevel at hf
  refine lv_iconst (v := 0) hx hb dX2_highestLevel_0 (by decide) ?_
  refine lv_istore_n (lv' := [(1, .int 0), (0, .ref (a1 0))]) hx hb dX2_highestLevel_1 rfl hl (by decide) rfl (fun ls hl => ?_)
  refine lv_iconst (v := 0) hx hb dX2_highestLevel_2 (by decide) ?_
  refine lv_istore_n (lv' := [(2, .int 0), (1, .int 0), (0, .ref (a1 0))]) hx hb dX2_highestLevel_3 rfl hl (by decide) rfl (fun ls hl => ?_)
  obtain ⟨F3, eF3, hf⟩ := zl2_use hf
  have L4_F3 : ∀ (n : Nat) (x1 : Int32) (x2 : Int32) (H : Heap) (locs : List Loc), va_P D vwCl (WDay z a1 m1) H → va_D A (WDay z a1 m1) → va_S A s.heap H locs → ∀ (ls : Array Slot), lv_has ls 3 [(0, .ref (a1 0)), (1, .int x1), (2, .int x2)] → zl2 F3 n x1 x2 = some rr → GI p l e (headSpec wsX2_highestLevel ({ frames := 1, cells := 0, slots := 0, locals := 20 } : Room)).room s m ([.ref (a1 0)] : List Value).toArray below meth c A D z rr (WDay z a1 m1) H locs (F0 m 4 ls []) := by
    intro n
    induction n with
    | zero =>
      intro x1 x2 H locs hP hD hS ls hl hf
      exact no_none hf
    | succ n ih5 =>
      intro x1 x2 H locs hP hD hS ls hl hf
      have hf := zl2_s eF3 hf
      refine lv_iload_n hx hb dX2_highestLevel_4 rfl (lv_at hl 2 rfl) ?_
      refine lv_aload_n hx hb dX2_highestLevel_5 rfl (lv_at hl 0 rfl) ?_
      obtain ⟨r6, q7, hf⟩ := bd_use hf
      have hfo : Foc (WDay z a1 m1) (WDay z a1 m1) (WDay z a1 m1) (WDay z a1 m1) := foc_all
      refine z_goI (ws1 := (WDay z a1 m1)) (va_runV (As := []) (rest := [.int x2]) ⟨hx, hb, hml, hown, hts⟩ (tX2_kettlesInUse l D z tt a1 m1  fu r6 q7 _) (cwV 0 hts (gV4 aw347 aw348 aw349 aw46 aw350) rfl rfl rfl (by decide +kernel) ⟨Nat.le_of_ble_eq_true rfl, Nat.le_of_ble_eq_true rfl⟩) (z_preV hK hP hD hS hA hT hN hfo (va_recv hK hP (ci := 2) (q0 := 0) rfl rfl)) rfl rfl hl.1 rfl (lv_room (Nat.le_of_ble_eq_true rfl)) dX2_highestLevel_6 ⟨Nat.zero_le _, Nat.zero_le _⟩) hP hD hS hA hfo (fun H locs hP hD hS => ?_)
      refine lv_icmp_ge (tgt := 32) hx hb dX2_highestLevel_9 (by decide) (fun c8 => ?_) (fun c8 => ?_)
      · have hf := if_t c8 hf
        refine lv_iload_n hx hb dX2_highestLevel_32 rfl (lv_at hl 1 rfl) ?_
        obtain rfl := so1 hf
        exact ret_i hx hb hr hlocks hK hP hD hS dX2_highestLevel_33
      · have hf := if_f c8 hf
        refine lv_iload_n hx hb dX2_highestLevel_12 rfl (lv_at hl 1 rfl) ?_
        refine lv_aload_n hx hb dX2_highestLevel_13 rfl (lv_at hl 0 rfl) ?_
        refine va_get (D := D) (ci := 2) (v := .ref (a1 14)) (C := RX2) (T := TX2) (N := 8) hx hb hts iX2 hown hK hP 0 rfl rfl 2 (by decide) (hts _ aw159) (fun _ h9 => h9) rfl dX2_highestLevel_14 ?_
        refine lv_iload_n hx hb dX2_highestLevel_17 rfl (lv_at hl 2 rfl) ?_
        obtain ⟨h9, hf⟩ := ck_use hf
        refine z_ald hx hb hK hP 14 2 (C := "FilledForOne$Kettle") (g := (fun j => a1 (3 + j))) rfl rfl h9 dX2_highestLevel_18 ?_
        refine va_get (D := D) (ci := 3) (v := .int (m1 (3 + x2.toNatClampNeg) 0)) (C := RX3) (T := TX3) (N := 5) hx hb hts iX3 hown hK hP (3 + x2.toNatClampNeg) (WDay_k z a1 m1 (vp_lt h9)) rfl 0 (by decide) (hts _ aw133) (fun _ h9 => h9) rfl dX2_highestLevel_19 ?_
        refine z_max hx hb (by rw [hml]; exact hl.1.symm) hown (hts _ aw351) (hts _ aw352) (hts _ aw54) (hts _ aw353) (Nat.le_of_ble_eq_true rfl) (Nat.le_of_ble_eq_true rfl) dX2_highestLevel_22 (Nat.zero_le _) (Nat.zero_le _) ?_
        refine lv_topi (fun x10 ex10 => ?_)
        have hf := lt_use ex10 hf
        refine lv_istore_n (lv' := [(1, .int x10), (0, .ref (a1 0)), (2, .int x2)]) hx hb dX2_highestLevel_25 rfl hl (by decide) rfl (fun ls hl => ?_)
        obtain ⟨x11, ex11⟩ : ∃ y : Int32, y = x2 + 1 := ⟨_, rfl⟩
        have hf := lt_use ex11 hf
        refine lv_iinc (v := x11) (lv' := [(2, .int x11), (1, .int x10), (0, .ref (a1 0))]) hx hb dX2_highestLevel_26 hl (k := 2) rfl (by rw [ex11]; rfl) (by decide) rfl (fun ls hl => ?_)
        refine lv_goto (tgt := 4) hx hb dX2_highestLevel_29 (by decide) ?_
        exact ih5 _ _ _ _ hP hD hS _ (lv_sub hl [2, 1, 0] rfl) hf
  exact L4_F3 fu _ _ _ _ hP hD hS _ (lv_sub hl [2, 1, 0] rfl) hf
def pX2_settingRefusal (fu : Nat) (m1 : Mem) (p1 : Int32) (p2 : Int32) : Option Int32 :=
  if p1 < 0 then
    some (-1)
  else
    if p1 < 8 then
      ck p1 8 <|
      if (List.getD [2, 0, 1, 1, 0, 0, 0, 1] p1.toNatClampNeg 0 : Int32) ≤ p2 then
        ck p1 8 <|
        if p2 ≤ (List.getD [11, 9, 20, 9, 9, 9, 11, 2] p1.toNatClampNeg 0 : Int32) then
          jn1 (fun (x7 : Int32) =>
            jn1 (fun (x9 : Int32) =>
              if x7 = 0 then
                if x9 = 0 then
                  some 0
                else
                  some (-3)
              else
                some (-3)) fun k10 =>
            if p1 = 7 then
              if p2 = (m1 1 7) then
                k10 0
              else
                if (m1 0 6) = 0 then
                  k10 0
                else
                  k10 1
            else
              k10 0) fun k8 =>
          if p1 = 0 then
            bd (pX2_highestLevel fu m1) fun r17 =>
            if r17 ≤ p2 then
              k8 0
            else
              k8 1
          else
            k8 0
        else
          some (-6)
      else
        some (-4)
    else
      some (-1)
set_option maxHeartbeats 4000000 in
set_option maxRecDepth 100000 in
theorem tX2_settingRefusal (l : Launch) (D : va_G) (z tt : Nat → Nat) (a1 : Nat → Nat) (m1 : Mem) (p1 : Int32) (p2 : Int32) (fu : Nat) (rr : Int32) (hf : pX2_settingRefusal fu m1 p1 p2 = some rr) : MetI l yX2_settingRefusal wsX2_settingRefusal ({ frames := 2, cells := 0, slots := 0, locals := 42 } : Room) D z tt ([.ref (a1 0), .int p1, .int p2] : List Value) (WDay z a1 m1) rr (WDay z a1 m1) := by
  intro sz
  refine Met.ofW (cc := cX2_settingRefusal) (maxL := 5) (ret := (some .int)) (by decide) rfl ?_
  intro p e s m args below meth c s₁ B hml hv
  obtain ⟨rfl, hsz, hP, hK, hD0, hT, hN⟩ := hv
  have hx := B.exec
  have hb := B.bytes
  have hr := B.returns
  have hts : ∀ w ∈ wsA, w.before ([.ref (a1 0), .int p1, .int p2] : List Value).toArray s = true := fun w h => atoms_spec (ws := wsX2_settingRefusal) B.pre w (List.mem_cons_of_mem _ h)
  have hown : s.vm.findClass RX2 = some m.cls := findClass_of_methodNamed B.named
  have hlocks := B.notSynchronized
  subst hsz
  have hD := hD0.self (sz := s.heap.size)
  generalize hAe : va_A (WDay z a1 m1) s.heap.size = A at hD hT ⊢
  have hA : ∀ q : Nat, s.heap.size ≤ q → A q := fun q h => by rw [← hAe]; exact Or.inr h
  have hS : va_S A s.heap s.heap [] := va_S.rf
  have hl := lv_entry ([.ref (a1 0), .int p1, .int p2] : List Value) (n := 5) (Nat.le_of_ble_eq_true rfl)
  rw [lg_entry_eq]
  generalize (lg_sl ([.ref (a1 0), .int p1, .int p2] : List Value) ++ List.replicate (5 - (lg_sl ([.ref (a1 0), .int p1, .int p2] : List Value)).length) Slot.unset).toArray = ls at hl ⊢
  have hl : lv_has ls 5 [(0, .ref (a1 0)), (1, .int p1), (2, .int p2)] := hl
  unfold pX2_settingRefusal at hf
  refine lv_iload_n hx hb dX2_settingRefusal_0 rfl (lv_at hl 1 rfl) ?_
  refine lv_if_lt (tgt := 13) hx hb dX2_settingRefusal_1 (by decide) (fun c1 => ?_) (fun c1 => ?_)
  · have hf := if_t c1 hf
    refine lv_iconst (v := (-1)) hx hb dX2_settingRefusal_13 (by decide) ?_
    obtain rfl := so1 hf
    exact ret_i hx hb hr hlocks hK hP hD hS dX2_settingRefusal_14
  · have hf := if_f c1 hf
    refine lv_iload_n hx hb dX2_settingRefusal_4 rfl (lv_at hl 1 rfl) ?_
    refine lv_aload_n hx hb dX2_settingRefusal_5 rfl (lv_at hl 0 rfl) ?_
    refine va_get (D := D) (ci := 2) (v := .ref (a1 1)) (C := RX2) (T := TX2) (N := 8) hx hb hts iX2 hown hK hP 0 rfl rfl 0 (by decide) (hts _ aw150) (fun _ h9 => h9) rfl dX2_settingRefusal_6 ?_
    refine z_alen hx hb hK hP 1 0 rfl rfl (v := 8) rfl dX2_settingRefusal_9 ?_
    refine lv_icmp_lt (tgt := 15) hx hb dX2_settingRefusal_10 (by decide) (fun c2 => ?_) (fun c2 => ?_)
    · have hf := if_t c2 hf
      refine lv_iload_n hx hb dX2_settingRefusal_15 rfl (lv_at hl 2 rfl) ?_
      refine va_getsN (v := .ref (tt 1)) (host := "FilledForOne") hx hb hT.2.1.1 hS hown (va_Nw.use rfl hN.2.2.2.2.2.1) (fun _ h9 => h9) dX2_settingRefusal_16 ?_
      refine lv_iload_n hx hb dX2_settingRefusal_19 rfl (lv_at hl 1 rfl) ?_
      obtain ⟨h3, hf⟩ := ck_use hf
      refine va_ti hx hb hT.2.1.2 hS h3 (v := .int (List.getD [2, 0, 1, 1, 0, 0, 0, 1] p1.toNatClampNeg 0 : Int32)) rfl dX2_settingRefusal_20 ?_
      refine lv_icmp_ge (tgt := 27) hx hb dX2_settingRefusal_21 (by decide) (fun c4 => ?_) (fun c4 => ?_)
      · have hf := if_t c4 hf
        refine lv_iload_n hx hb dX2_settingRefusal_27 rfl (lv_at hl 2 rfl) ?_
        refine va_getsN (v := .ref (tt 2)) (host := "FilledForOne") hx hb hT.2.2.1 hS hown (va_Nw.use rfl hN.2.2.2.2.2.2.1) (fun _ h9 => h9) dX2_settingRefusal_28 ?_
        refine lv_iload_n hx hb dX2_settingRefusal_31 rfl (lv_at hl 1 rfl) ?_
        obtain ⟨h5, hf⟩ := ck_use hf
        refine va_ti hx hb hT.2.2.2 hS h5 (v := .int (List.getD [11, 9, 20, 9, 9, 9, 11, 2] p1.toNatClampNeg 0 : Int32)) rfl dX2_settingRefusal_32 ?_
        refine lv_icmp_le (tgt := 39) hx hb dX2_settingRefusal_33 (by decide) (fun c6 => ?_) (fun c6 => ?_)
        · have hf := if_t c6 hf
          refine lv_iload_n hx hb dX2_settingRefusal_39 rfl (lv_at hl 1 rfl) ?_
          obtain ⟨k8, ek8, hf⟩ := jn1_use hf
          have B56_k8 : ∀ (x7 : Int32) (H : Heap) (locs : List Loc), va_P D vwCl (WDay z a1 m1) H → va_D A (WDay z a1 m1) → va_S A s.heap H locs → ∀ (ls : Array Slot), lv_has ls 5 [(0, .ref (a1 0)), (1, .int p1), (2, .int p2)] → k8 x7 = some rr → GI p l e (headSpec wsX2_settingRefusal ({ frames := 2, cells := 0, slots := 0, locals := 42 } : Room)).room s m ([.ref (a1 0), .int p1, .int p2] : List Value).toArray below meth c A D z rr (WDay z a1 m1) H locs (F0 m 56 ls [.int x7]) := by
            intro x7 H locs hP hD hS ls hl hf
            have hf := jn1_ap ek8 hf
            refine lv_istore_n (lv' := [(3, .int x7), (0, .ref (a1 0)), (1, .int p1), (2, .int p2)]) hx hb dX2_settingRefusal_56 rfl hl (by decide) rfl (fun ls hl => ?_)
            refine lv_iload_n hx hb dX2_settingRefusal_57 rfl (lv_at hl 2 rfl) ?_
            refine lv_bipush (v := 7) hx hb dX2_settingRefusal_58 (by decide) ?_
            obtain ⟨k10, ek10, hf⟩ := jn1_use hf
            have B86_k10 : ∀ (x9 : Int32) (H : Heap) (locs : List Loc), va_P D vwCl (WDay z a1 m1) H → va_D A (WDay z a1 m1) → va_S A s.heap H locs → ∀ (ls : Array Slot), lv_has ls 5 [(3, .int x7)] → k10 x9 = some rr → GI p l e (headSpec wsX2_settingRefusal ({ frames := 2, cells := 0, slots := 0, locals := 42 } : Room)).room s m ([.ref (a1 0), .int p1, .int p2] : List Value).toArray below meth c A D z rr (WDay z a1 m1) H locs (F0 m 86 ls [.int x9]) := by
              intro x9 H locs hP hD hS ls hl hf
              have hf := jn1_ap ek10 hf
              refine lv_istore (lv' := [(4, .int x9), (3, .int x7)]) hx hb dX2_settingRefusal_86 hl (by decide) rfl (fun ls hl => ?_)
              refine lv_iload_n hx hb dX2_settingRefusal_88 rfl (lv_at hl 1 rfl) ?_
              refine lv_if_ne (tgt := 97) hx hb dX2_settingRefusal_89 (by decide) (fun c11 => ?_) (fun c11 => ?_)
              · have hf := if_f c11 hf
                refine lv_bipush (v := (-3)) hx hb dX2_settingRefusal_97 (by decide) ?_
                refine lv_goto (tgt := 103) hx hb dX2_settingRefusal_99 (by decide) ?_
                obtain rfl := so1 hf
                exact ret_i hx hb hr hlocks hK hP hD hS dX2_settingRefusal_103
              · have hf := if_t c11 hf
                refine lv_iload hx hb dX2_settingRefusal_92 (lv_at hl 0 rfl) ?_
                refine lv_if_eq (tgt := 102) hx hb dX2_settingRefusal_94 (by decide) (fun c12 => ?_) (fun c12 => ?_)
                · have hf := if_t c12 hf
                  refine lv_iconst (v := 0) hx hb dX2_settingRefusal_102 (by decide) ?_
                  obtain rfl := so1 hf
                  exact ret_i hx hb hr hlocks hK hP hD hS dX2_settingRefusal_103
                · have hf := if_f c12 hf
                  refine lv_bipush (v := (-3)) hx hb dX2_settingRefusal_97 (by decide) ?_
                  refine lv_goto (tgt := 103) hx hb dX2_settingRefusal_99 (by decide) ?_
                  obtain rfl := so1 hf
                  exact ret_i hx hb hr hlocks hK hP hD hS dX2_settingRefusal_103
            refine lv_icmp_ne (tgt := 85) hx hb dX2_settingRefusal_60 (by decide) (fun c13 => ?_) (fun c13 => ?_)
            · have hf := if_f c13 hf
              refine lv_iconst (v := 0) hx hb dX2_settingRefusal_85 (by decide) ?_
              exact B86_k10 _ _ _ hP hD hS _ (lv_sub hl [0] rfl) hf
            · have hf := if_t c13 hf
              refine lv_iload_n hx hb dX2_settingRefusal_63 rfl (lv_at hl 3 rfl) ?_
              refine lv_aload_n hx hb dX2_settingRefusal_64 rfl (lv_at hl 1 rfl) ?_
              refine va_get (D := D) (ci := 2) (v := .ref (a1 1)) (C := RX2) (T := TX2) (N := 8) hx hb hts iX2 hown hK hP 0 rfl rfl 0 (by decide) (hts _ aw150) (fun _ h9 => h9) rfl dX2_settingRefusal_65 ?_
              refine lv_bipush (v := 7) hx hb dX2_settingRefusal_68 (by decide) ?_
              refine z_ialdc hx hb hK hP 1 rfl (i := 7) (k := 7) (by decide) (Nat.le_of_ble_eq_true rfl) dX2_settingRefusal_70 ?_
              refine lv_icmp_eq (tgt := 85) hx hb dX2_settingRefusal_71 (by decide) (fun c14 => ?_) (fun c14 => ?_)
              · have hf := if_t c14 hf
                refine lv_iconst (v := 0) hx hb dX2_settingRefusal_85 (by decide) ?_
                exact B86_k10 _ _ _ hP hD hS _ (lv_sub hl [0] rfl) hf
              · have hf := if_f c14 hf
                refine lv_aload_n hx hb dX2_settingRefusal_74 rfl (lv_at hl 1 rfl) ?_
                refine va_get (D := D) (ci := 2) (v := .int (m1 0 6)) (C := RX2) (T := TX2) (N := 8) hx hb hts iX2 hown hK hP 0 rfl rfl 6 (by decide) (hts _ aw170) (fun _ h9 => h9) rfl dX2_settingRefusal_75 ?_
                refine lv_if_eq (tgt := 85) hx hb dX2_settingRefusal_78 (by decide) (fun c15 => ?_) (fun c15 => ?_)
                · have hf := if_t c15 hf
                  refine lv_iconst (v := 0) hx hb dX2_settingRefusal_85 (by decide) ?_
                  exact B86_k10 _ _ _ hP hD hS _ (lv_sub hl [0] rfl) hf
                · have hf := if_f c15 hf
                  refine lv_iconst (v := 1) hx hb dX2_settingRefusal_81 (by decide) ?_
                  refine lv_goto (tgt := 86) hx hb dX2_settingRefusal_82 (by decide) ?_
                  exact B86_k10 _ _ _ hP hD hS _ (lv_sub hl [0] rfl) hf
          refine lv_if_ne (tgt := 55) hx hb dX2_settingRefusal_40 (by decide) (fun c16 => ?_) (fun c16 => ?_)
          · have hf := if_f c16 hf
            refine lv_iconst (v := 0) hx hb dX2_settingRefusal_55 (by decide) ?_
            exact B56_k8 _ _ _ hP hD hS _ (lv_sub hl [0, 1, 2] rfl) hf
          · have hf := if_t c16 hf
            refine lv_iload_n hx hb dX2_settingRefusal_43 rfl (lv_at hl 2 rfl) ?_
            refine lv_aload_n hx hb dX2_settingRefusal_44 rfl (lv_at hl 0 rfl) ?_
            obtain ⟨r17, q18, hf⟩ := bd_use hf
            have hfo : Foc (WDay z a1 m1) (WDay z a1 m1) (WDay z a1 m1) (WDay z a1 m1) := foc_all
            refine z_goI (ws1 := (WDay z a1 m1)) (va_runV (As := []) (rest := [.int p2]) ⟨hx, hb, hml, hown, hts⟩ (tX2_highestLevel l D z tt a1 m1  fu r17 q18 _) (cwV 0 hts (gV4 aw343 aw344 aw345 aw46 aw346) rfl rfl rfl (by decide +kernel) ⟨Nat.le_of_ble_eq_true rfl, Nat.le_of_ble_eq_true rfl⟩) (z_preV hK hP hD hS hA hT hN hfo (va_recv hK hP (ci := 2) (q0 := 0) rfl rfl)) rfl rfl hl.1 rfl (lv_room (Nat.le_of_ble_eq_true rfl)) dX2_settingRefusal_45 ⟨Nat.zero_le _, Nat.zero_le _⟩) hP hD hS hA hfo (fun H locs hP hD hS => ?_)
            refine lv_icmp_ge (tgt := 55) hx hb dX2_settingRefusal_48 (by decide) (fun c19 => ?_) (fun c19 => ?_)
            · have hf := if_t c19 hf
              refine lv_iconst (v := 0) hx hb dX2_settingRefusal_55 (by decide) ?_
              exact B56_k8 _ _ _ hP hD hS _ (lv_sub hl [0, 1, 2] rfl) hf
            · have hf := if_f c19 hf
              refine lv_iconst (v := 1) hx hb dX2_settingRefusal_51 (by decide) ?_
              refine lv_goto (tgt := 56) hx hb dX2_settingRefusal_52 (by decide) ?_
              exact B56_k8 _ _ _ hP hD hS _ (lv_sub hl [0, 1, 2] rfl) hf
        · have hf := if_f c6 hf
          refine lv_bipush (v := (-6)) hx hb dX2_settingRefusal_36 (by decide) ?_
          obtain rfl := so1 hf
          exact ret_i hx hb hr hlocks hK hP hD hS dX2_settingRefusal_38
      · have hf := if_f c4 hf
        refine lv_bipush (v := (-4)) hx hb dX2_settingRefusal_24 (by decide) ?_
        obtain rfl := so1 hf
        exact ret_i hx hb hr hlocks hK hP hD hS dX2_settingRefusal_26
    · have hf := if_f c2 hf
      refine lv_iconst (v := (-1)) hx hb dX2_settingRefusal_13 (by decide) ?_
      obtain rfl := so1 hf
      exact ret_i hx hb hr hlocks hK hP hD hS dX2_settingRefusal_14
def pX2_change (fu : Nat) (m1 : Mem) (p1 : Int32) (p2 : Int32) : Option (Int32 × Mem) :=
  ck p1 8 <|
  lt' ((m1 1 p1.toNatClampNeg) : Int32) fun x2 =>
  ck p1 8 <|
  lt' (up2 m1 1 p1.toNatClampNeg p2) fun y3 =>
  some (x2, y3)
set_option maxHeartbeats 4000000 in
set_option maxRecDepth 100000 in
theorem tX2_change (l : Launch) (D : va_G) (z tt : Nat → Nat) (a1 : Nat → Nat) (m1 : Mem) (p1 : Int32) (p2 : Int32) (fu : Nat) (rr : Int32) (m1' : Mem) (hf : pX2_change fu m1 p1 p2 = some (rr, m1')) : MetI l yX2_change wsX2_change ({ frames := 0, cells := 0, slots := 0, locals := 0 } : Room) D z tt ([.ref (a1 0), .int p1, .int p2] : List Value) (WDay z a1 m1) rr (WDay z a1 m1') := by
  intro sz
  refine Met.ofW (cc := cX2_change) (maxL := 4) (ret := (some .int)) (by decide) rfl ?_
  intro p e s m args below meth c s₁ B hml hv
  obtain ⟨rfl, hsz, hP, hK, hD0, hT, hN⟩ := hv
  have hx := B.exec
  have hb := B.bytes
  have hr := B.returns
  have hts : ∀ w ∈ wsA, w.before ([.ref (a1 0), .int p1, .int p2] : List Value).toArray s = true := fun w h => atoms_spec (ws := wsX2_change) B.pre w (List.mem_cons_of_mem _ h)
  have hown : s.vm.findClass RX2 = some m.cls := findClass_of_methodNamed B.named
  have hlocks := B.notSynchronized
  subst hsz
  have hD := hD0.self (sz := s.heap.size)
  generalize hAe : va_A (WDay z a1 m1) s.heap.size = A at hD hT ⊢
  have hA : ∀ q : Nat, s.heap.size ≤ q → A q := fun q h => by rw [← hAe]; exact Or.inr h
  have hS : va_S A s.heap s.heap [] := va_S.rf
  have hl := lv_entry ([.ref (a1 0), .int p1, .int p2] : List Value) (n := 4) (Nat.le_of_ble_eq_true rfl)
  rw [lg_entry_eq]
  generalize (lg_sl ([.ref (a1 0), .int p1, .int p2] : List Value) ++ List.replicate (4 - (lg_sl ([.ref (a1 0), .int p1, .int p2] : List Value)).length) Slot.unset).toArray = ls at hl ⊢
  have hl : lv_has ls 4 [(0, .ref (a1 0)), (1, .int p1), (2, .int p2)] := hl
  unfold pX2_change at hf
  refine lv_aload_n hx hb dX2_change_0 rfl (lv_at hl 0 rfl) ?_
  refine va_get (D := D) (ci := 2) (v := .ref (a1 1)) (C := RX2) (T := TX2) (N := 8) hx hb hts iX2 hown hK hP 0 rfl rfl 0 (by decide) (hts _ aw150) (fun _ h9 => h9) rfl dX2_change_1 ?_
  refine lv_iload_n hx hb dX2_change_4 rfl (lv_at hl 1 rfl) ?_
  obtain ⟨h1, hf⟩ := ck_use hf
  refine z_iald hx hb hK hP 1 rfl h1 dX2_change_5 ?_
  refine lv_topi (fun x2 ex2 => ?_)
  have hf := lt_use ex2 hf
  refine lv_istore_n (lv' := [(3, .int x2), (0, .ref (a1 0)), (1, .int p1), (2, .int p2)]) hx hb dX2_change_6 rfl hl (by decide) rfl (fun ls hl => ?_)
  refine lv_aload_n hx hb dX2_change_7 rfl (lv_at hl 1 rfl) ?_
  refine va_get (D := D) (ci := 2) (v := .ref (a1 1)) (C := RX2) (T := TX2) (N := 8) hx hb hts iX2 hown hK hP 0 rfl rfl 0 (by decide) (hts _ aw150) (fun _ h9 => h9) rfl dX2_change_8 ?_
  refine lv_iload_n hx hb dX2_change_11 rfl (lv_at hl 2 rfl) ?_
  refine lv_iload_n hx hb dX2_change_12 rfl (lv_at hl 3 rfl) ?_
  obtain ⟨h4, hf⟩ := ck_use hf
  refine z_iast hx hb hK hP hD hS 1 rfl h4 dX2_change_13 (fun (w9 : Mem) => (WDay z a1 w9)) (up2 m1 1 p1.toNatClampNeg p2) rfl (fun y3 ey3 H locs hP hD hS => ?_)
  have hf := lt_use ey3 hf
  refine lv_iload_n hx hb dX2_change_14 rfl (lv_at hl 0 rfl) ?_
  obtain ⟨rfl, rfl⟩ := so2 hf
  exact ret_i hx hb hr hlocks hK hP hD hS dX2_change_15
def pX2_add (fu : Nat) (m1 : Mem) (p1 : Int32) (p2 : Int32) (p3 : Int32) (p4 : Int32) (p5 : Int32) : Option (Int32 × Mem) :=
  jn1 (fun (x1 : Int32) =>
    if x1 = 0 then
      ckz x1 <| some (x1, m1)
    else
      ck (m1 0 4) 8 <|
      bd (pX1_become fu (m1 (5 + (m1 0 4).toNatClampNeg)) p1 p2) fun y6 =>
      lt' (va_up m1 (5 + (m1 0 4).toNatClampNeg) y6) fun y8 =>
      lt' (up2 y8 (5 + (m1 0 4).toNatClampNeg) 2 p3) fun y9 =>
      lt' (up2 y9 (5 + (m1 0 4).toNatClampNeg) 3 p4) fun y10 =>
      lt' (up2 y10 (5 + (m1 0 4).toNatClampNeg) 4 p5) fun y11 =>
      lt' (up2 y11 (5 + (m1 0 4).toNatClampNeg) 5 0) fun y12 =>
      lt' (up2 y12 0 4 ((y12 0 4) + 1)) fun y13 =>
      ckz x1 <| some (x1, y13)) fun k2 =>
  if 8 ≤ (m1 0 4) then
    k2 0
  else
    if 7 ≤ p1 then
      k2 0
    else
      if 120 ≤ p3 then
        k2 0
      else
        if p3 < (m1 0 6) then
          k2 0
        else
          if p4 < 1 then
            k2 0
          else
            if 3 < p4 then
              k2 0
            else
              if 30 < p5 then
                k2 0
              else
                k2 1
set_option maxHeartbeats 4000000 in
set_option maxRecDepth 100000 in
theorem tX2_add (l : Launch) (D : va_G) (z tt : Nat → Nat) (a1 : Nat → Nat) (m1 : Mem) (p1 : Int32) (p2 : Int32) (p3 : Int32) (p4 : Int32) (p5 : Int32) (fu : Nat) (rr : Int32) (m1' : Mem) (hf : pX2_add fu m1 p1 p2 p3 p4 p5 = some (rr, m1')) : MetI l yX2_add wsX2_add ({ frames := 1, cells := 0, slots := 0, locals := 22 } : Room) D z tt ([.ref (a1 0), .int p1, .int p2, .int p3, .int p4, .int p5] : List Value) (WDay z a1 m1) rr (WDay z a1 m1') := by
  intro sz
  refine Met.ofW (cc := cX2_add) (maxL := 8) (ret := (some .boolean)) (by decide) rfl ?_
  intro p e s m args below meth c s₁ B hml hv
  obtain ⟨rfl, hsz, hP, hK, hD0, hT, hN⟩ := hv
  have hx := B.exec
  have hb := B.bytes
  have hr := B.returns
  have hts : ∀ w ∈ wsA, w.before ([.ref (a1 0), .int p1, .int p2, .int p3, .int p4, .int p5] : List Value).toArray s = true := fun w h => atoms_spec (ws := wsX2_add) B.pre w (List.mem_cons_of_mem _ h)
  have hown : s.vm.findClass RX2 = some m.cls := findClass_of_methodNamed B.named
  have hlocks := B.notSynchronized
  subst hsz
  have hD := hD0.self (sz := s.heap.size)
  generalize hAe : va_A (WDay z a1 m1) s.heap.size = A at hD hT ⊢
  have hA : ∀ q : Nat, s.heap.size ≤ q → A q := fun q h => by rw [← hAe]; exact Or.inr h
  have hS : va_S A s.heap s.heap [] := va_S.rf
  have hl := lv_entry ([.ref (a1 0), .int p1, .int p2, .int p3, .int p4, .int p5] : List Value) (n := 8) (Nat.le_of_ble_eq_true rfl)
  rw [lg_entry_eq]
  generalize (lg_sl ([.ref (a1 0), .int p1, .int p2, .int p3, .int p4, .int p5] : List Value) ++ List.replicate (8 - (lg_sl ([.ref (a1 0), .int p1, .int p2, .int p3, .int p4, .int p5] : List Value)).length) Slot.unset).toArray = ls at hl ⊢
  have hl : lv_has ls 8 [(0, .ref (a1 0)), (1, .int p1), (2, .int p2), (3, .int p3), (4, .int p4), (5, .int p5)] := hl
  unfold pX2_add at hf
  refine lv_aload_n hx hb dX2_add_0 rfl (lv_at hl 0 rfl) ?_
  refine va_get (D := D) (ci := 2) (v := .int (m1 0 4)) (C := RX2) (T := TX2) (N := 8) hx hb hts iX2 hown hK hP 0 rfl rfl 4 (by decide) (hts _ aw165) (fun _ h9 => h9) rfl dX2_add_1 ?_
  refine lv_aload_n hx hb dX2_add_4 rfl (lv_at hl 0 rfl) ?_
  refine va_get (D := D) (ci := 2) (v := .ref (a1 13)) (C := RX2) (T := TX2) (N := 8) hx hb hts iX2 hown hK hP 0 rfl rfl 1 (by decide) (hts _ aw154) (fun _ h9 => h9) rfl dX2_add_5 ?_
  refine z_alen hx hb hK hP 13 1 rfl rfl (v := 8) rfl dX2_add_8 ?_
  obtain ⟨k2, ek2, hf⟩ := jn1_use hf
  have B56_k2 : ∀ (x1 : Int32) (H : Heap) (locs : List Loc), va_P D vwCl (WDay z a1 m1) H → va_D A (WDay z a1 m1) → va_S A s.heap H locs → ∀ (ls : Array Slot), lv_has ls 8 [(0, .ref (a1 0)), (1, .int p1), (2, .int p2), (3, .int p3), (4, .int p4), (5, .int p5)] → k2 x1 = some (rr, m1') → GI p l e (headSpec wsX2_add ({ frames := 1, cells := 0, slots := 0, locals := 22 } : Room)).room s m ([.ref (a1 0), .int p1, .int p2, .int p3, .int p4, .int p5] : List Value).toArray below meth c A D z rr (WDay z a1 m1') H locs (F0 m 56 ls [.int x1]) := by
    intro x1 H locs hP hD hS ls hl hf
    have hf := jn1_ap ek2 hf
    refine lv_istore (lv' := [(6, .int x1), (0, .ref (a1 0)), (1, .int p1), (2, .int p2), (3, .int p3), (4, .int p4), (5, .int p5)]) hx hb dX2_add_56 hl (by decide) rfl (fun ls hl => ?_)
    refine lv_iload hx hb dX2_add_58 (lv_at hl 0 rfl) ?_
    refine lv_if_eq (tgt := 117) hx hb dX2_add_60 (by decide) (fun c3 => ?_) (fun c3 => ?_)
    · have hf := if_t c3 hf
      refine lv_iload hx hb dX2_add_117 (lv_at hl 0 rfl) ?_
      obtain ⟨h4, hf⟩ := ckz_use hf
      obtain ⟨rfl, rfl⟩ := so2 hf
      exact ret_z hx hb hr hlocks hK hP hD hS h4 dX2_add_119
    · have hf := if_f c3 hf
      refine lv_aload_n hx hb dX2_add_63 rfl (lv_at hl 1 rfl) ?_
      refine va_get (D := D) (ci := 2) (v := .ref (a1 13)) (C := RX2) (T := TX2) (N := 8) hx hb hts iX2 hown hK hP 0 rfl rfl 1 (by decide) (hts _ aw154) (fun _ h9 => h9) rfl dX2_add_64 ?_
      refine lv_aload_n hx hb dX2_add_67 rfl (lv_at hl 1 rfl) ?_
      refine va_get (D := D) (ci := 2) (v := .int (m1 0 4)) (C := RX2) (T := TX2) (N := 8) hx hb hts iX2 hown hK hP 0 rfl rfl 4 (by decide) (hts _ aw165) (fun _ h9 => h9) rfl dX2_add_68 ?_
      obtain ⟨h5, hf⟩ := ck_use hf
      refine z_ald hx hb hK hP 13 1 (C := "FilledForOne$Comer") (g := (fun j => a1 (5 + j))) rfl rfl h5 dX2_add_71 ?_
      refine lv_astore (lv' := [(7, .ref (a1 (5 + (m1 0 4).toNatClampNeg))), (6, .int x1), (0, .ref (a1 0)), (1, .int p1), (2, .int p2), (3, .int p3), (4, .int p4), (5, .int p5)]) hx hb dX2_add_72 hl (by decide) rfl (fun ls hl => ?_)
      refine lv_aload hx hb dX2_add_74 (lv_at hl 0 rfl) ?_
      refine lv_iload_n hx hb dX2_add_76 rfl (lv_at hl 3 rfl) ?_
      refine lv_iload_n hx hb dX2_add_77 rfl (lv_at hl 4 rfl) ?_
      obtain ⟨y6, q7, hf⟩ := bd_use hf
      obtain ⟨y8, ey8⟩ : ∃ w : Mem, w = va_up m1 (5 + (m1 0 4).toNatClampNeg) y6 := ⟨_, rfl⟩
      have hf := lt_use ey8 hf
      have hfo : Foc (WDay z a1 m1) (WCom (a1 (5 + (m1 0 4).toNatClampNeg)) (m1 (5 + (m1 0 4).toNatClampNeg))) (WDay z a1 y8) (WCom (a1 (5 + (m1 0 4).toNatClampNeg)) y6) := (foc_el (WDay_c z a1 m1 (vp_lt h5)) (by rw [ey8]; exact WDay_sc z a1 m1 y6 (vp_lt h5)))
      refine z_goV (ws1 := (WDay z a1 y8)) (va_runV (As := [.int p1, .int p2]) (rest := []) ⟨hx, hb, hml, hown, hts⟩ (tX1_become l D z tt (a1 (5 + (m1 0 4).toNatClampNeg)) (m1 (5 + (m1 0 4).toNatClampNeg)) p1 p2 fu y6 q7 _) (cwV 2 hts (gV4 aw362 aw300 aw301 aw47 aw302) rfl rfl rfl (by decide +kernel) ⟨Nat.le_of_ble_eq_true rfl, Nat.le_of_ble_eq_true rfl⟩) (z_preV hK hP hD hS hA hT hN hfo (va_recv hK hP (ci := 1) (q0 := (5 + (m1 0 4).toNatClampNeg)) rfl (WDay_c z a1 m1 (vp_lt h5)))) rfl rfl hl.1 rfl (lv_room (Nat.le_of_ble_eq_true rfl)) dX2_add_78 ⟨Nat.zero_le _, Nat.zero_le _⟩) hP hD hS hA hfo (fun H locs hP hD hS => ?_)
      refine lv_aload hx hb dX2_add_81 (lv_at hl 0 rfl) ?_
      refine lv_iload_n hx hb dX2_add_83 rfl (lv_at hl 5 rfl) ?_
      refine z_put (ci := 1) (v := .int p3) (ty := .int) (C := RX1) (T := TX1) (N := 7) hx hb hts iX1 tyX1 tyX1_ok nmX1 hown hK hP hD hS (5 + (m1 0 4).toNatClampNeg) (WDay_c z a1 y8 (vp_lt h5)) rfl 2 (by decide) (hts _ aw95) (fun _ h9 => h9) rfl (by decide +kernel) rfl rfl (Nat.le_of_ble_eq_true rfl) dX2_add_84 (fun (w9 : Mem) => (WDay z a1 w9)) (up2 y8 (5 + (m1 0 4).toNatClampNeg) 2 p3) (WDay_sc z a1 y8 (upd (y8 (5 + (m1 0 4).toNatClampNeg)) 2 p3) (vp_lt h5)) (fun y9 ey9 H locs hP hD hS => ?_)
      have hf := lt_use ey9 hf
      refine lv_aload hx hb dX2_add_87 (lv_at hl 0 rfl) ?_
      refine lv_iload hx hb dX2_add_89 (lv_at hl 6 rfl) ?_
      refine z_put (ci := 1) (v := .int p4) (ty := .int) (C := RX1) (T := TX1) (N := 7) hx hb hts iX1 tyX1 tyX1_ok nmX1 hown hK hP hD hS (5 + (m1 0 4).toNatClampNeg) (WDay_c z a1 y9 (vp_lt h5)) rfl 3 (by decide) (hts _ aw99) (fun _ h9 => h9) rfl (by decide +kernel) rfl rfl (Nat.le_of_ble_eq_true rfl) dX2_add_91 (fun (w9 : Mem) => (WDay z a1 w9)) (up2 y9 (5 + (m1 0 4).toNatClampNeg) 3 p4) (WDay_sc z a1 y9 (upd (y9 (5 + (m1 0 4).toNatClampNeg)) 3 p4) (vp_lt h5)) (fun y10 ey10 H locs hP hD hS => ?_)
      have hf := lt_use ey10 hf
      refine lv_aload hx hb dX2_add_94 (lv_at hl 0 rfl) ?_
      refine lv_iload hx hb dX2_add_96 (lv_at hl 7 rfl) ?_
      refine z_put (ci := 1) (v := .int p5) (ty := .int) (C := RX1) (T := TX1) (N := 7) hx hb hts iX1 tyX1 tyX1_ok nmX1 hown hK hP hD hS (5 + (m1 0 4).toNatClampNeg) (WDay_c z a1 y10 (vp_lt h5)) rfl 4 (by decide) (hts _ aw101) (fun _ h9 => h9) rfl (by decide +kernel) rfl rfl (Nat.le_of_ble_eq_true rfl) dX2_add_98 (fun (w9 : Mem) => (WDay z a1 w9)) (up2 y10 (5 + (m1 0 4).toNatClampNeg) 4 p5) (WDay_sc z a1 y10 (upd (y10 (5 + (m1 0 4).toNatClampNeg)) 4 p5) (vp_lt h5)) (fun y11 ey11 H locs hP hD hS => ?_)
      have hf := lt_use ey11 hf
      refine lv_aload hx hb dX2_add_101 (lv_at hl 0 rfl) ?_
      refine lv_iconst (v := 0) hx hb dX2_add_103 (by decide) ?_
      refine z_put (ci := 1) (v := .int 0) (ty := .int) (C := RX1) (T := TX1) (N := 7) hx hb hts iX1 tyX1 tyX1_ok nmX1 hown hK hP hD hS (5 + (m1 0 4).toNatClampNeg) (WDay_c z a1 y11 (vp_lt h5)) rfl 5 (by decide) (hts _ aw103) (fun _ h9 => h9) rfl (by decide +kernel) rfl rfl (Nat.le_of_ble_eq_true rfl) dX2_add_104 (fun (w9 : Mem) => (WDay z a1 w9)) (up2 y11 (5 + (m1 0 4).toNatClampNeg) 5 0) (WDay_sc z a1 y11 (upd (y11 (5 + (m1 0 4).toNatClampNeg)) 5 0) (vp_lt h5)) (fun y12 ey12 H locs hP hD hS => ?_)
      have hf := lt_use ey12 hf
      refine lv_aload_n hx hb dX2_add_107 rfl (lv_at hl 2 rfl) ?_
      refine lv_dup hx hb dX2_add_108 rfl ?_
      refine va_get (D := D) (ci := 2) (v := .int (y12 0 4)) (C := RX2) (T := TX2) (N := 8) hx hb hts iX2 hown hK hP 0 rfl rfl 4 (by decide) (hts _ aw165) (fun _ h9 => h9) rfl dX2_add_109 ?_
      refine lv_iconst (v := 1) hx hb dX2_add_112 (by decide) ?_
      refine lv_iadd hx hb dX2_add_113 ?_
      refine z_put (ci := 2) (v := .int ((y12 0 4) + 1)) (ty := .int) (C := RX2) (T := TX2) (N := 8) hx hb hts iX2 tyX2 tyX2_ok nmX2 hown hK hP hD hS 0 rfl rfl 4 (by decide) (hts _ aw165) (fun _ h9 => h9) rfl (by decide +kernel) rfl rfl (Nat.le_of_ble_eq_true rfl) dX2_add_114 (fun (w9 : Mem) => (WDay z a1 w9)) (up2 y12 0 4 ((y12 0 4) + 1)) rfl (fun y13 ey13 H locs hP hD hS => ?_)
      have hf := lt_use ey13 hf
      refine lv_iload hx hb dX2_add_117 (lv_at hl 1 rfl) ?_
      obtain ⟨h14, hf⟩ := ckz_use hf
      obtain ⟨rfl, rfl⟩ := so2 hf
      exact ret_z hx hb hr hlocks hK hP hD hS h14 dX2_add_119
  refine lv_icmp_ge (tgt := 55) hx hb dX2_add_9 (by decide) (fun c15 => ?_) (fun c15 => ?_)
  · have hf := if_t c15 hf
    refine lv_iconst (v := 0) hx hb dX2_add_55 (by decide) ?_
    exact B56_k2 _ _ _ hP hD hS _ (lv_sub hl [0, 1, 2, 3, 4, 5] rfl) hf
  · have hf := if_f c15 hf
    refine lv_iload_n hx hb dX2_add_12 rfl (lv_at hl 1 rfl) ?_
    refine lv_bipush (v := 7) hx hb dX2_add_13 (by decide) ?_
    refine lv_icmp_ge (tgt := 55) hx hb dX2_add_15 (by decide) (fun c16 => ?_) (fun c16 => ?_)
    · have hf := if_t c16 hf
      refine lv_iconst (v := 0) hx hb dX2_add_55 (by decide) ?_
      exact B56_k2 _ _ _ hP hD hS _ (lv_sub hl [0, 1, 2, 3, 4, 5] rfl) hf
    · have hf := if_f c16 hf
      refine lv_iload_n hx hb dX2_add_18 rfl (lv_at hl 3 rfl) ?_
      refine lv_bipush (v := 120) hx hb dX2_add_19 (by decide) ?_
      refine lv_icmp_ge (tgt := 55) hx hb dX2_add_21 (by decide) (fun c17 => ?_) (fun c17 => ?_)
      · have hf := if_t c17 hf
        refine lv_iconst (v := 0) hx hb dX2_add_55 (by decide) ?_
        exact B56_k2 _ _ _ hP hD hS _ (lv_sub hl [0, 1, 2, 3, 4, 5] rfl) hf
      · have hf := if_f c17 hf
        refine lv_iload_n hx hb dX2_add_24 rfl (lv_at hl 3 rfl) ?_
        refine lv_aload_n hx hb dX2_add_25 rfl (lv_at hl 0 rfl) ?_
        refine va_get (D := D) (ci := 2) (v := .int (m1 0 6)) (C := RX2) (T := TX2) (N := 8) hx hb hts iX2 hown hK hP 0 rfl rfl 6 (by decide) (hts _ aw170) (fun _ h9 => h9) rfl dX2_add_26 ?_
        refine lv_icmp_lt (tgt := 55) hx hb dX2_add_29 (by decide) (fun c18 => ?_) (fun c18 => ?_)
        · have hf := if_t c18 hf
          refine lv_iconst (v := 0) hx hb dX2_add_55 (by decide) ?_
          exact B56_k2 _ _ _ hP hD hS _ (lv_sub hl [0, 1, 2, 3, 4, 5] rfl) hf
        · have hf := if_f c18 hf
          refine lv_iload hx hb dX2_add_32 (lv_at hl 4 rfl) ?_
          refine lv_iconst (v := 1) hx hb dX2_add_34 (by decide) ?_
          refine lv_icmp_lt (tgt := 55) hx hb dX2_add_35 (by decide) (fun c19 => ?_) (fun c19 => ?_)
          · have hf := if_t c19 hf
            refine lv_iconst (v := 0) hx hb dX2_add_55 (by decide) ?_
            exact B56_k2 _ _ _ hP hD hS _ (lv_sub hl [0, 1, 2, 3, 4, 5] rfl) hf
          · have hf := if_f c19 hf
            refine lv_iload hx hb dX2_add_38 (lv_at hl 4 rfl) ?_
            refine lv_iconst (v := 3) hx hb dX2_add_40 (by decide) ?_
            refine lv_icmp_gt (tgt := 55) hx hb dX2_add_41 (by decide) (fun c20 => ?_) (fun c20 => ?_)
            · have hf := if_t c20 hf
              refine lv_iconst (v := 0) hx hb dX2_add_55 (by decide) ?_
              exact B56_k2 _ _ _ hP hD hS _ (lv_sub hl [0, 1, 2, 3, 4, 5] rfl) hf
            · have hf := if_f c20 hf
              refine lv_iload hx hb dX2_add_44 (lv_at hl 5 rfl) ?_
              refine lv_bipush (v := 30) hx hb dX2_add_46 (by decide) ?_
              refine lv_icmp_gt (tgt := 55) hx hb dX2_add_48 (by decide) (fun c21 => ?_) (fun c21 => ?_)
              · have hf := if_t c21 hf
                refine lv_iconst (v := 0) hx hb dX2_add_55 (by decide) ?_
                exact B56_k2 _ _ _ hP hD hS _ (lv_sub hl [0, 1, 2, 3, 4, 5] rfl) hf
              · have hf := if_f c21 hf
                refine lv_iconst (v := 1) hx hb dX2_add_51 (by decide) ?_
                refine lv_goto (tgt := 56) hx hb dX2_add_52 (by decide) ?_
                exact B56_k2 _ _ _ hP hD hS _ (lv_sub hl [0, 1, 2, 3, 4, 5] rfl) hf
def pX2_comersWith (fu : Nat) (m1 : Mem) (p1 : Int32) : Option Int32 :=
  zl2 (fun g4 (x1 : Int32) (x2 : Int32) =>
    if (m1 0 4) ≤ x2 then
      some x1
    else
      ck x2 8 <|
      if (m1 (5 + x2.toNatClampNeg) 5) = p1 then
        lt' (x1 + 1) fun x10 =>
        lt' (x2 + 1) fun x11 =>
        g4 x10 x11
      else
        lt' (x2 + 1) fun x9 =>
        g4 x1 x9) fu 0 0
set_option maxHeartbeats 4000000 in
set_option maxRecDepth 100000 in
theorem tX2_comersWith (l : Launch) (D : va_G) (z tt : Nat → Nat) (a1 : Nat → Nat) (m1 : Mem) (p1 : Int32) (fu : Nat) (rr : Int32) (hf : pX2_comersWith fu m1 p1 = some rr) : MetI l yX2_comersWith wsX2_comersWith ({ frames := 0, cells := 0, slots := 0, locals := 0 } : Room) D z tt ([.ref (a1 0), .int p1] : List Value) (WDay z a1 m1) rr (WDay z a1 m1) := by
  intro sz
  refine Met.ofW (cc := cX2_comersWith) (maxL := 4) (ret := (some .int)) (by decide) rfl ?_
  intro p e s m args below meth c s₁ B hml hv
  obtain ⟨rfl, hsz, hP, hK, hD0, hT, hN⟩ := hv
  have hx := B.exec
  have hb := B.bytes
  have hr := B.returns
  have hts : ∀ w ∈ wsA, w.before ([.ref (a1 0), .int p1] : List Value).toArray s = true := fun w h => atoms_spec (ws := wsX2_comersWith) B.pre w (List.mem_cons_of_mem _ h)
  have hown : s.vm.findClass RX2 = some m.cls := findClass_of_methodNamed B.named
  have hlocks := B.notSynchronized
  subst hsz
  have hD := hD0.self (sz := s.heap.size)
  generalize hAe : va_A (WDay z a1 m1) s.heap.size = A at hD hT ⊢
  have hA : ∀ q : Nat, s.heap.size ≤ q → A q := fun q h => by rw [← hAe]; exact Or.inr h
  have hS : va_S A s.heap s.heap [] := va_S.rf
  have hl := lv_entry ([.ref (a1 0), .int p1] : List Value) (n := 4) (Nat.le_of_ble_eq_true rfl)
  rw [lg_entry_eq]
  generalize (lg_sl ([.ref (a1 0), .int p1] : List Value) ++ List.replicate (4 - (lg_sl ([.ref (a1 0), .int p1] : List Value)).length) Slot.unset).toArray = ls at hl ⊢
  have hl : lv_has ls 4 [(0, .ref (a1 0)), (1, .int p1)] := hl
  unfold pX2_comersWith at hf
  refine lv_iconst (v := 0) hx hb dX2_comersWith_0 (by decide) ?_
  refine lv_istore_n (lv' := [(2, .int 0), (0, .ref (a1 0)), (1, .int p1)]) hx hb dX2_comersWith_1 rfl hl (by decide) rfl (fun ls hl => ?_)
  refine lv_iconst (v := 0) hx hb dX2_comersWith_2 (by decide) ?_
  refine lv_istore_n (lv' := [(3, .int 0), (2, .int 0), (0, .ref (a1 0)), (1, .int p1)]) hx hb dX2_comersWith_3 rfl hl (by decide) rfl (fun ls hl => ?_)
  obtain ⟨F3, eF3, hf⟩ := zl2_use hf
  have L4_F3 : ∀ (n : Nat) (x1 : Int32) (x2 : Int32) (H : Heap) (locs : List Loc), va_P D vwCl (WDay z a1 m1) H → va_D A (WDay z a1 m1) → va_S A s.heap H locs → ∀ (ls : Array Slot), lv_has ls 4 [(0, .ref (a1 0)), (1, .int p1), (2, .int x1), (3, .int x2)] → zl2 F3 n x1 x2 = some rr → GI p l e (headSpec wsX2_comersWith ({ frames := 0, cells := 0, slots := 0, locals := 0 } : Room)).room s m ([.ref (a1 0), .int p1] : List Value).toArray below meth c A D z rr (WDay z a1 m1) H locs (F0 m 4 ls []) := by
    intro n
    induction n with
    | zero =>
      intro x1 x2 H locs hP hD hS ls hl hf
      exact no_none hf
    | succ n ih5 =>
      intro x1 x2 H locs hP hD hS ls hl hf
      have hf := zl2_s eF3 hf
      refine lv_iload_n hx hb dX2_comersWith_4 rfl (lv_at hl 3 rfl) ?_
      refine lv_aload_n hx hb dX2_comersWith_5 rfl (lv_at hl 0 rfl) ?_
      refine va_get (D := D) (ci := 2) (v := .int (m1 0 4)) (C := RX2) (T := TX2) (N := 8) hx hb hts iX2 hown hK hP 0 rfl rfl 4 (by decide) (hts _ aw165) (fun _ h9 => h9) rfl dX2_comersWith_6 ?_
      refine lv_icmp_ge (tgt := 34) hx hb dX2_comersWith_9 (by decide) (fun c6 => ?_) (fun c6 => ?_)
      · have hf := if_t c6 hf
        refine lv_iload_n hx hb dX2_comersWith_34 rfl (lv_at hl 2 rfl) ?_
        obtain rfl := so1 hf
        exact ret_i hx hb hr hlocks hK hP hD hS dX2_comersWith_35
      · have hf := if_f c6 hf
        refine lv_aload_n hx hb dX2_comersWith_12 rfl (lv_at hl 0 rfl) ?_
        refine va_get (D := D) (ci := 2) (v := .ref (a1 13)) (C := RX2) (T := TX2) (N := 8) hx hb hts iX2 hown hK hP 0 rfl rfl 1 (by decide) (hts _ aw154) (fun _ h9 => h9) rfl dX2_comersWith_13 ?_
        refine lv_iload_n hx hb dX2_comersWith_16 rfl (lv_at hl 3 rfl) ?_
        obtain ⟨h7, hf⟩ := ck_use hf
        refine z_ald hx hb hK hP 13 1 (C := "FilledForOne$Comer") (g := (fun j => a1 (5 + j))) rfl rfl h7 dX2_comersWith_17 ?_
        refine va_get (D := D) (ci := 1) (v := .int (m1 (5 + x2.toNatClampNeg) 5)) (C := RX1) (T := TX1) (N := 7) hx hb hts iX1 hown hK hP (5 + x2.toNatClampNeg) (WDay_c z a1 m1 (vp_lt h7)) rfl 5 (by decide) (hts _ aw103) (fun _ h9 => h9) rfl dX2_comersWith_18 ?_
        refine lv_iload_n hx hb dX2_comersWith_21 rfl (lv_at hl 1 rfl) ?_
        refine lv_icmp_ne (tgt := 28) hx hb dX2_comersWith_22 (by decide) (fun c8 => ?_) (fun c8 => ?_)
        · have hf := if_f c8 hf
          obtain ⟨x9, ex9⟩ : ∃ y : Int32, y = x2 + 1 := ⟨_, rfl⟩
          have hf := lt_use ex9 hf
          refine lv_iinc (v := x9) (lv' := [(3, .int x9), (0, .ref (a1 0)), (1, .int p1), (2, .int x1)]) hx hb dX2_comersWith_28 hl (k := 3) rfl (by rw [ex9]; rfl) (by decide) rfl (fun ls hl => ?_)
          refine lv_goto (tgt := 4) hx hb dX2_comersWith_31 (by decide) ?_
          exact ih5 _ _ _ _ hP hD hS _ (lv_sub hl [1, 2, 3, 0] rfl) hf
        · have hf := if_t c8 hf
          obtain ⟨x10, ex10⟩ : ∃ y : Int32, y = x1 + 1 := ⟨_, rfl⟩
          have hf := lt_use ex10 hf
          refine lv_iinc (v := x10) (lv' := [(2, .int x10), (0, .ref (a1 0)), (1, .int p1), (3, .int x2)]) hx hb dX2_comersWith_25 hl (k := 2) rfl (by rw [ex10]; rfl) (by decide) rfl (fun ls hl => ?_)
          obtain ⟨x11, ex11⟩ : ∃ y : Int32, y = x2 + 1 := ⟨_, rfl⟩
          have hf := lt_use ex11 hf
          refine lv_iinc (v := x11) (lv' := [(3, .int x11), (2, .int x10), (0, .ref (a1 0)), (1, .int p1)]) hx hb dX2_comersWith_28 hl (k := 3) rfl (by rw [ex11]; rfl) (by decide) rfl (fun ls hl => ?_)
          refine lv_goto (tgt := 4) hx hb dX2_comersWith_31 (by decide) ?_
          exact ih5 _ _ _ _ hP hD hS _ (lv_sub hl [2, 3, 1, 0] rfl) hf
  exact L4_F3 fu _ _ _ _ hP hD hS _ (lv_sub hl [2, 3, 1, 0] rfl) hf
def pX2_allFree (fu : Nat) (m1 : Mem) : Option Int32 :=
  zl1 (fun g3 (x1 : Int32) =>
    bd (pX2_kettlesInUse fu m1) fun r5 =>
    if r5 ≤ x1 then
      some 1
    else
      ck x1 2 <|
      bd (pX3_isFree fu (m1 (3 + x1.toNatClampNeg)) (m1 0 6)) fun r9 =>
      if r9 = 0 then
        some 0
      else
        lt' (x1 + 1) fun x12 =>
        g3 x12) fu 0
set_option maxHeartbeats 4000000 in
set_option maxRecDepth 100000 in
theorem tX2_allFree (l : Launch) (D : va_G) (z tt : Nat → Nat) (a1 : Nat → Nat) (m1 : Mem)  (fu : Nat) (rr : Int32) (hf : pX2_allFree fu m1 = some rr) : MetI l yX2_allFree wsX2_allFree ({ frames := 1, cells := 0, slots := 0, locals := 21 } : Room) D z tt ([.ref (a1 0)] : List Value) (WDay z a1 m1) rr (WDay z a1 m1) := by
  intro sz
  refine Met.ofW (cc := cX2_allFree) (maxL := 2) (ret := (some .boolean)) (by decide) rfl ?_
  intro p e s m args below meth c s₁ B hml hv
  obtain ⟨rfl, hsz, hP, hK, hD0, hT, hN⟩ := hv
  have hx := B.exec
  have hb := B.bytes
  have hr := B.returns
  have hts : ∀ w ∈ wsA, w.before ([.ref (a1 0)] : List Value).toArray s = true := fun w h => atoms_spec (ws := wsX2_allFree) B.pre w (List.mem_cons_of_mem _ h)
  have hown : s.vm.findClass RX2 = some m.cls := findClass_of_methodNamed B.named
  have hlocks := B.notSynchronized
  subst hsz
  have hD := hD0.self (sz := s.heap.size)
  generalize hAe : va_A (WDay z a1 m1) s.heap.size = A at hD hT ⊢
  have hA : ∀ q : Nat, s.heap.size ≤ q → A q := fun q h => by rw [← hAe]; exact Or.inr h
  have hS : va_S A s.heap s.heap [] := va_S.rf
  have hl := lv_entry ([.ref (a1 0)] : List Value) (n := 2) (Nat.le_of_ble_eq_true rfl)
  rw [lg_entry_eq]
  generalize (lg_sl ([.ref (a1 0)] : List Value) ++ List.replicate (2 - (lg_sl ([.ref (a1 0)] : List Value)).length) Slot.unset).toArray = ls at hl ⊢
  have hl : lv_has ls 2 [(0, .ref (a1 0))] := hl
  unfold pX2_allFree at hf
  refine lv_iconst (v := 0) hx hb dX2_allFree_0 (by decide) ?_
  refine lv_istore_n (lv' := [(1, .int 0), (0, .ref (a1 0))]) hx hb dX2_allFree_1 rfl hl (by decide) rfl (fun ls hl => ?_)
  obtain ⟨F2, eF2, hf⟩ := zl1_use hf
  have L2_F2 : ∀ (n : Nat) (x1 : Int32) (H : Heap) (locs : List Loc), va_P D vwCl (WDay z a1 m1) H → va_D A (WDay z a1 m1) → va_S A s.heap H locs → ∀ (ls : Array Slot), lv_has ls 2 [(0, .ref (a1 0)), (1, .int x1)] → zl1 F2 n x1 = some rr → GI p l e (headSpec wsX2_allFree ({ frames := 1, cells := 0, slots := 0, locals := 21 } : Room)).room s m ([.ref (a1 0)] : List Value).toArray below meth c A D z rr (WDay z a1 m1) H locs (F0 m 2 ls []) := by
    intro n
    induction n with
    | zero =>
      intro x1 H locs hP hD hS ls hl hf
      exact no_none hf
    | succ n ih4 =>
      intro x1 H locs hP hD hS ls hl hf
      have hf := zl1_s eF2 hf
      refine lv_iload_n hx hb dX2_allFree_2 rfl (lv_at hl 1 rfl) ?_
      refine lv_aload_n hx hb dX2_allFree_3 rfl (lv_at hl 0 rfl) ?_
      obtain ⟨r5, q6, hf⟩ := bd_use hf
      have hfo : Foc (WDay z a1 m1) (WDay z a1 m1) (WDay z a1 m1) (WDay z a1 m1) := foc_all
      refine z_goI (ws1 := (WDay z a1 m1)) (va_runV (As := []) (rest := [.int x1]) ⟨hx, hb, hml, hown, hts⟩ (tX2_kettlesInUse l D z tt a1 m1  fu r5 q6 _) (cwV 0 hts (gV4 aw347 aw348 aw349 aw46 aw350) rfl rfl rfl (by decide +kernel) ⟨Nat.le_of_ble_eq_true rfl, Nat.le_of_ble_eq_true rfl⟩) (z_preV hK hP hD hS hA hT hN hfo (va_recv hK hP (ci := 2) (q0 := 0) rfl rfl)) rfl rfl hl.1 rfl (lv_room (Nat.le_of_ble_eq_true rfl)) dX2_allFree_4 ⟨Nat.zero_le _, Nat.zero_le _⟩) hP hD hS hA hfo (fun H locs hP hD hS => ?_)
      refine lv_icmp_ge (tgt := 34) hx hb dX2_allFree_7 (by decide) (fun c7 => ?_) (fun c7 => ?_)
      · have hf := if_t c7 hf
        refine lv_iconst (v := 1) hx hb dX2_allFree_34 (by decide) ?_
        obtain rfl := so1 hf
        exact ret_z hx hb hr hlocks hK hP hD hS (by decide) dX2_allFree_35
      · have hf := if_f c7 hf
        refine lv_aload_n hx hb dX2_allFree_10 rfl (lv_at hl 0 rfl) ?_
        refine va_get (D := D) (ci := 2) (v := .ref (a1 14)) (C := RX2) (T := TX2) (N := 8) hx hb hts iX2 hown hK hP 0 rfl rfl 2 (by decide) (hts _ aw159) (fun _ h9 => h9) rfl dX2_allFree_11 ?_
        refine lv_iload_n hx hb dX2_allFree_14 rfl (lv_at hl 1 rfl) ?_
        obtain ⟨h8, hf⟩ := ck_use hf
        refine z_ald hx hb hK hP 14 2 (C := "FilledForOne$Kettle") (g := (fun j => a1 (3 + j))) rfl rfl h8 dX2_allFree_15 ?_
        refine lv_aload_n hx hb dX2_allFree_16 rfl (lv_at hl 0 rfl) ?_
        refine va_get (D := D) (ci := 2) (v := .int (m1 0 6)) (C := RX2) (T := TX2) (N := 8) hx hb hts iX2 hown hK hP 0 rfl rfl 6 (by decide) (hts _ aw170) (fun _ h9 => h9) rfl dX2_allFree_17 ?_
        obtain ⟨r9, q10, hf⟩ := bd_use hf
        have hfo : Foc (WDay z a1 m1) (WKet (a1 (3 + x1.toNatClampNeg)) (m1 (3 + x1.toNatClampNeg))) (WDay z a1 m1) (WKet (a1 (3 + x1.toNatClampNeg)) (m1 (3 + x1.toNatClampNeg))) := (foc_els (WDay_k z a1 m1 (vp_lt h8)))
        refine z_goI (ws1 := (WDay z a1 m1)) (va_runV (As := [.int (m1 0 6)]) (rest := []) ⟨hx, hb, hml, hown, hts⟩ (tX3_isFree l D z tt (a1 (3 + x1.toNatClampNeg)) (m1 (3 + x1.toNatClampNeg)) (m1 0 6) fu r9 q10 _) (cwV 1 hts (gV4 aw434 aw435 aw436 aw48 aw437) rfl rfl rfl (by decide +kernel) ⟨Nat.le_of_ble_eq_true rfl, Nat.le_of_ble_eq_true rfl⟩) (z_preV hK hP hD hS hA hT hN hfo (va_recv hK hP (ci := 3) (q0 := (3 + x1.toNatClampNeg)) rfl (WDay_k z a1 m1 (vp_lt h8)))) rfl rfl hl.1 rfl (lv_room (Nat.le_of_ble_eq_true rfl)) dX2_allFree_20 ⟨Nat.zero_le _, Nat.zero_le _⟩) hP hD hS hA hfo (fun H locs hP hD hS => ?_)
        refine lv_if_ne (tgt := 28) hx hb dX2_allFree_23 (by decide) (fun c11 => ?_) (fun c11 => ?_)
        · have hf := if_f c11 hf
          obtain ⟨x12, ex12⟩ : ∃ y : Int32, y = x1 + 1 := ⟨_, rfl⟩
          have hf := lt_use ex12 hf
          refine lv_iinc (v := x12) (lv' := [(1, .int x12), (0, .ref (a1 0))]) hx hb dX2_allFree_28 hl (k := 1) rfl (by rw [ex12]; rfl) (by decide) rfl (fun ls hl => ?_)
          refine lv_goto (tgt := 2) hx hb dX2_allFree_31 (by decide) ?_
          exact ih4 _ _ _ hP hD hS _ (lv_sub hl [1, 0] rfl) hf
        · have hf := if_t c11 hf
          refine lv_iconst (v := 0) hx hb dX2_allFree_26 (by decide) ?_
          obtain rfl := so1 hf
          exact ret_z hx hb hr hlocks hK hP hD hS (by decide) dX2_allFree_27
  exact L2_F2 fu _ _ _ hP hD hS _ (lv_sub hl [1, 0] rfl) hf
def pX2_isOver (fu : Nat) (m1 : Mem) : Option Int32 :=
  if 180 ≤ (m1 0 6) then
    some 1
  else
    if (m1 0 5) = 0 then
      bd (pX2_comersWith fu m1 0) fun r3 =>
      if r3 = 0 then
        bd (pX2_allFree fu m1) fun r6 =>
        if r6 = 0 then
          some 0
        else
          some 1
      else
        some 0
    else
      some 0
set_option maxHeartbeats 4000000 in
set_option maxRecDepth 100000 in
theorem tX2_isOver (l : Launch) (D : va_G) (z tt : Nat → Nat) (a1 : Nat → Nat) (m1 : Mem)  (fu : Nat) (rr : Int32) (hf : pX2_isOver fu m1 = some rr) : MetI l yX2_isOver wsX2_isOver ({ frames := 2, cells := 0, slots := 0, locals := 42 } : Room) D z tt ([.ref (a1 0)] : List Value) (WDay z a1 m1) rr (WDay z a1 m1) := by
  intro sz
  refine Met.ofW (cc := cX2_isOver) (maxL := 1) (ret := (some .boolean)) (by decide) rfl ?_
  intro p e s m args below meth c s₁ B hml hv
  obtain ⟨rfl, hsz, hP, hK, hD0, hT, hN⟩ := hv
  have hx := B.exec
  have hb := B.bytes
  have hr := B.returns
  have hts : ∀ w ∈ wsA, w.before ([.ref (a1 0)] : List Value).toArray s = true := fun w h => atoms_spec (ws := wsX2_isOver) B.pre w (List.mem_cons_of_mem _ h)
  have hown : s.vm.findClass RX2 = some m.cls := findClass_of_methodNamed B.named
  have hlocks := B.notSynchronized
  subst hsz
  have hD := hD0.self (sz := s.heap.size)
  generalize hAe : va_A (WDay z a1 m1) s.heap.size = A at hD hT ⊢
  have hA : ∀ q : Nat, s.heap.size ≤ q → A q := fun q h => by rw [← hAe]; exact Or.inr h
  have hS : va_S A s.heap s.heap [] := va_S.rf
  have hl := lv_entry ([.ref (a1 0)] : List Value) (n := 1) (Nat.le_of_ble_eq_true rfl)
  rw [lg_entry_eq]
  generalize (lg_sl ([.ref (a1 0)] : List Value) ++ List.replicate (1 - (lg_sl ([.ref (a1 0)] : List Value)).length) Slot.unset).toArray = ls at hl ⊢
  have hl : lv_has ls 1 [(0, .ref (a1 0))] := hl
  unfold pX2_isOver at hf
  refine lv_aload_n hx hb dX2_isOver_0 rfl (lv_at hl 0 rfl) ?_
  refine va_get (D := D) (ci := 2) (v := .int (m1 0 6)) (C := RX2) (T := TX2) (N := 8) hx hb hts iX2 hown hK hP 0 rfl rfl 6 (by decide) (hts _ aw170) (fun _ h9 => h9) rfl dX2_isOver_1 ?_
  refine lv_sipush (v := 180) hx hb dX2_isOver_4 (by decide) ?_
  refine lv_icmp_ge (tgt := 32) hx hb dX2_isOver_7 (by decide) (fun c1 => ?_) (fun c1 => ?_)
  · have hf := if_t c1 hf
    refine lv_iconst (v := 1) hx hb dX2_isOver_32 (by decide) ?_
    refine lv_goto (tgt := 37) hx hb dX2_isOver_33 (by decide) ?_
    obtain rfl := so1 hf
    exact ret_z hx hb hr hlocks hK hP hD hS (by decide) dX2_isOver_37
  · have hf := if_f c1 hf
    refine lv_aload_n hx hb dX2_isOver_10 rfl (lv_at hl 0 rfl) ?_
    refine va_get (D := D) (ci := 2) (v := .int (m1 0 5)) (C := RX2) (T := TX2) (N := 8) hx hb hts iX2 hown hK hP 0 rfl rfl 5 (by decide) (hts _ aw168) (fun _ h9 => h9) rfl dX2_isOver_11 ?_
    refine lv_if_ne (tgt := 36) hx hb dX2_isOver_14 (by decide) (fun c2 => ?_) (fun c2 => ?_)
    · have hf := if_f c2 hf
      refine lv_iconst (v := 0) hx hb dX2_isOver_36 (by decide) ?_
      obtain rfl := so1 hf
      exact ret_z hx hb hr hlocks hK hP hD hS (by decide) dX2_isOver_37
    · have hf := if_t c2 hf
      refine lv_aload_n hx hb dX2_isOver_17 rfl (lv_at hl 0 rfl) ?_
      refine lv_iconst (v := 0) hx hb dX2_isOver_18 (by decide) ?_
      obtain ⟨r3, q4, hf⟩ := bd_use hf
      have hfo : Foc (WDay z a1 m1) (WDay z a1 m1) (WDay z a1 m1) (WDay z a1 m1) := foc_all
      refine z_goI (ws1 := (WDay z a1 m1)) (va_runV (As := [.int 0]) (rest := []) ⟨hx, hb, hml, hown, hts⟩ (tX2_comersWith l D z tt a1 m1 0 fu r3 q4 _) (cwV 1 hts (gV4 aw426 aw427 aw428 aw46 aw429) rfl rfl rfl (by decide +kernel) ⟨Nat.le_of_ble_eq_true rfl, Nat.le_of_ble_eq_true rfl⟩) (z_preV hK hP hD hS hA hT hN hfo (va_recv hK hP (ci := 2) (q0 := 0) rfl rfl)) rfl rfl hl.1 rfl (lv_room (Nat.le_of_ble_eq_true rfl)) dX2_isOver_19 ⟨Nat.zero_le _, Nat.zero_le _⟩) hP hD hS hA hfo (fun H locs hP hD hS => ?_)
      refine lv_if_ne (tgt := 36) hx hb dX2_isOver_22 (by decide) (fun c5 => ?_) (fun c5 => ?_)
      · have hf := if_f c5 hf
        refine lv_iconst (v := 0) hx hb dX2_isOver_36 (by decide) ?_
        obtain rfl := so1 hf
        exact ret_z hx hb hr hlocks hK hP hD hS (by decide) dX2_isOver_37
      · have hf := if_t c5 hf
        refine lv_aload_n hx hb dX2_isOver_25 rfl (lv_at hl 0 rfl) ?_
        obtain ⟨r6, q7, hf⟩ := bd_use hf
        have hfo : Foc (WDay z a1 m1) (WDay z a1 m1) (WDay z a1 m1) (WDay z a1 m1) := foc_all
        refine z_goI (ws1 := (WDay z a1 m1)) (va_runV (As := []) (rest := []) ⟨hx, hb, hml, hown, hts⟩ (tX2_allFree l D z tt a1 m1  fu r6 q7 _) (cwV 0 hts (gV4 aw430 aw431 aw432 aw46 aw433) rfl rfl rfl (by decide +kernel) ⟨Nat.le_of_ble_eq_true rfl, Nat.le_of_ble_eq_true rfl⟩) (z_preV hK hP hD hS hA hT hN hfo (va_recv hK hP (ci := 2) (q0 := 0) rfl rfl)) rfl rfl hl.1 rfl (lv_room (Nat.le_of_ble_eq_true rfl)) dX2_isOver_26 ⟨Nat.zero_le _, Nat.zero_le _⟩) hP hD hS hA hfo (fun H locs hP hD hS => ?_)
        refine lv_if_eq (tgt := 36) hx hb dX2_isOver_29 (by decide) (fun c8 => ?_) (fun c8 => ?_)
        · have hf := if_t c8 hf
          refine lv_iconst (v := 0) hx hb dX2_isOver_36 (by decide) ?_
          obtain rfl := so1 hf
          exact ret_z hx hb hr hlocks hK hP hD hS (by decide) dX2_isOver_37
        · have hf := if_f c8 hf
          refine lv_iconst (v := 1) hx hb dX2_isOver_32 (by decide) ?_
          refine lv_goto (tgt := 37) hx hb dX2_isOver_33 (by decide) ?_
          obtain rfl := so1 hf
          exact ret_z hx hb hr hlocks hK hP hD hS (by decide) dX2_isOver_37
def pX2_lineUp (fu : Nat) (m1 : Mem) : Option Mem :=
  zl2 (fun g4 (x1 : Int32) (y2 : Mem) =>
    if (y2 0 4) ≤ x1 then
      some y2
    else
      ck x1 8 <|
      if (y2 (5 + x1.toNatClampNeg) 5) = 0 then
        ck x1 8 <|
        if (y2 (5 + x1.toNatClampNeg) 2) = (y2 0 6) then
          if 8 ≤ (y2 0 5) then
            lt' (x1 + 1) fun x14 =>
            g4 x14 y2
          else
            ck x1 8 <|
            lt' (up2 y2 (5 + x1.toNatClampNeg) 5 1) fun y16 =>
            ck (y16 0 5) 8 <|
            lt' (up2 y16 2 (y16 0 5).toNatClampNeg x1) fun y17 =>
            lt' (up2 y17 0 5 ((y17 0 5) + 1)) fun y19 =>
            lt' (x1 + 1) fun x20 =>
            g4 x20 y19
        else
          lt' (x1 + 1) fun x12 =>
          g4 x12 y2
      else
        lt' (x1 + 1) fun x9 =>
        g4 x9 y2) fu 0 m1
set_option maxHeartbeats 4000000 in
set_option maxRecDepth 100000 in
theorem tX2_lineUp (l : Launch) (D : va_G) (z tt : Nat → Nat) (a1 : Nat → Nat) (m1 : Mem)  (fu : Nat) (m1' : Mem) (hf : pX2_lineUp fu m1 = some m1') : MetV l yX2_lineUp wsX2_lineUp ({ frames := 0, cells := 0, slots := 0, locals := 0 } : Room) D z tt ([.ref (a1 0)] : List Value) (WDay z a1 m1) (WDay z a1 m1') := by
  intro sz
  refine Met.ofW (cc := cX2_lineUp) (maxL := 2) (ret := none) (by decide) rfl ?_
  intro p e s m args below meth c s₁ B hml hv
  obtain ⟨rfl, hsz, hP, hK, hD0, hT, hN⟩ := hv
  have hx := B.exec
  have hb := B.bytes
  have hr := B.returns
  have hts : ∀ w ∈ wsA, w.before ([.ref (a1 0)] : List Value).toArray s = true := fun w h => atoms_spec (ws := wsX2_lineUp) B.pre w (List.mem_cons_of_mem _ h)
  have hown : s.vm.findClass RX2 = some m.cls := findClass_of_methodNamed B.named
  have hlocks := B.notSynchronized
  subst hsz
  have hD := hD0.self (sz := s.heap.size)
  generalize hAe : va_A (WDay z a1 m1) s.heap.size = A at hD hT ⊢
  have hA : ∀ q : Nat, s.heap.size ≤ q → A q := fun q h => by rw [← hAe]; exact Or.inr h
  have hS : va_S A s.heap s.heap [] := va_S.rf
  have hl := lv_entry ([.ref (a1 0)] : List Value) (n := 2) (Nat.le_of_ble_eq_true rfl)
  rw [lg_entry_eq]
  generalize (lg_sl ([.ref (a1 0)] : List Value) ++ List.replicate (2 - (lg_sl ([.ref (a1 0)] : List Value)).length) Slot.unset).toArray = ls at hl ⊢
  have hl : lv_has ls 2 [(0, .ref (a1 0))] := hl
  unfold pX2_lineUp at hf
  refine lv_iconst (v := 0) hx hb dX2_lineUp_0 (by decide) ?_
  refine lv_istore_n (lv' := [(1, .int 0), (0, .ref (a1 0))]) hx hb dX2_lineUp_1 rfl hl (by decide) rfl (fun ls hl => ?_)
  obtain ⟨F3, eF3, hf⟩ := zl2_use hf
  have L2_F3 : ∀ (n : Nat) (x1 : Int32) (y2 : Mem) (H : Heap) (locs : List Loc), va_P D vwCl (WDay z a1 y2) H → va_D A (WDay z a1 y2) → va_S A s.heap H locs → ∀ (ls : Array Slot), lv_has ls 2 [(0, .ref (a1 0)), (1, .int x1)] → zl2 F3 n x1 y2 = some m1' → GV p l e (headSpec wsX2_lineUp ({ frames := 0, cells := 0, slots := 0, locals := 0 } : Room)).room s m ([.ref (a1 0)] : List Value).toArray below meth c A D z (WDay z a1 m1') H locs (F0 m 2 ls []) := by
    intro n
    induction n with
    | zero =>
      intro x1 y2 H locs hP hD hS ls hl hf
      exact no_none hf
    | succ n ih5 =>
      intro x1 y2 H locs hP hD hS ls hl hf
      have hf := zl2_s eF3 hf
      refine lv_iload_n hx hb dX2_lineUp_2 rfl (lv_at hl 1 rfl) ?_
      refine lv_aload_n hx hb dX2_lineUp_3 rfl (lv_at hl 0 rfl) ?_
      refine va_get (D := D) (ci := 2) (v := .int (y2 0 4)) (C := RX2) (T := TX2) (N := 8) hx hb hts iX2 hown hK hP 0 rfl rfl 4 (by decide) (hts _ aw165) (fun _ h9 => h9) rfl dX2_lineUp_4 ?_
      refine lv_icmp_ge (tgt := 86) hx hb dX2_lineUp_7 (by decide) (fun c6 => ?_) (fun c6 => ?_)
      · have hf := if_t c6 hf
        obtain rfl := so1 hf
        exact ret_v hx hb hr hlocks hK hP hD hS dX2_lineUp_86
      · have hf := if_f c6 hf
        refine lv_aload_n hx hb dX2_lineUp_10 rfl (lv_at hl 0 rfl) ?_
        refine va_get (D := D) (ci := 2) (v := .ref (a1 13)) (C := RX2) (T := TX2) (N := 8) hx hb hts iX2 hown hK hP 0 rfl rfl 1 (by decide) (hts _ aw154) (fun _ h9 => h9) rfl dX2_lineUp_11 ?_
        refine lv_iload_n hx hb dX2_lineUp_14 rfl (lv_at hl 1 rfl) ?_
        obtain ⟨h7, hf⟩ := ck_use hf
        refine z_ald hx hb hK hP 13 1 (C := "FilledForOne$Comer") (g := (fun j => a1 (5 + j))) rfl rfl h7 dX2_lineUp_15 ?_
        refine va_get (D := D) (ci := 1) (v := .int (y2 (5 + x1.toNatClampNeg) 5)) (C := RX1) (T := TX1) (N := 7) hx hb hts iX1 hown hK hP (5 + x1.toNatClampNeg) (WDay_c z a1 y2 (vp_lt h7)) rfl 5 (by decide) (hts _ aw103) (fun _ h9 => h9) rfl dX2_lineUp_16 ?_
        refine lv_if_ne (tgt := 80) hx hb dX2_lineUp_19 (by decide) (fun c8 => ?_) (fun c8 => ?_)
        · have hf := if_f c8 hf
          obtain ⟨x9, ex9⟩ : ∃ y : Int32, y = x1 + 1 := ⟨_, rfl⟩
          have hf := lt_use ex9 hf
          refine lv_iinc (v := x9) (lv' := [(1, .int x9), (0, .ref (a1 0))]) hx hb dX2_lineUp_80 hl (k := 1) rfl (by rw [ex9]; rfl) (by decide) rfl (fun ls hl => ?_)
          refine lv_goto (tgt := 2) hx hb dX2_lineUp_83 (by decide) ?_
          exact ih5 _ _ _ _ hP hD hS _ (lv_sub hl [1, 0] rfl) hf
        · have hf := if_t c8 hf
          refine lv_aload_n hx hb dX2_lineUp_22 rfl (lv_at hl 0 rfl) ?_
          refine va_get (D := D) (ci := 2) (v := .ref (a1 13)) (C := RX2) (T := TX2) (N := 8) hx hb hts iX2 hown hK hP 0 rfl rfl 1 (by decide) (hts _ aw154) (fun _ h9 => h9) rfl dX2_lineUp_23 ?_
          refine lv_iload_n hx hb dX2_lineUp_26 rfl (lv_at hl 1 rfl) ?_
          obtain ⟨h10, hf⟩ := ck_use hf
          refine z_ald hx hb hK hP 13 1 (C := "FilledForOne$Comer") (g := (fun j => a1 (5 + j))) rfl rfl h10 dX2_lineUp_27 ?_
          refine va_get (D := D) (ci := 1) (v := .int (y2 (5 + x1.toNatClampNeg) 2)) (C := RX1) (T := TX1) (N := 7) hx hb hts iX1 hown hK hP (5 + x1.toNatClampNeg) (WDay_c z a1 y2 (vp_lt h10)) rfl 2 (by decide) (hts _ aw95) (fun _ h9 => h9) rfl dX2_lineUp_28 ?_
          refine lv_aload_n hx hb dX2_lineUp_31 rfl (lv_at hl 0 rfl) ?_
          refine va_get (D := D) (ci := 2) (v := .int (y2 0 6)) (C := RX2) (T := TX2) (N := 8) hx hb hts iX2 hown hK hP 0 rfl rfl 6 (by decide) (hts _ aw170) (fun _ h9 => h9) rfl dX2_lineUp_32 ?_
          refine lv_icmp_ne (tgt := 80) hx hb dX2_lineUp_35 (by decide) (fun c11 => ?_) (fun c11 => ?_)
          · have hf := if_f c11 hf
            obtain ⟨x12, ex12⟩ : ∃ y : Int32, y = x1 + 1 := ⟨_, rfl⟩
            have hf := lt_use ex12 hf
            refine lv_iinc (v := x12) (lv' := [(1, .int x12), (0, .ref (a1 0))]) hx hb dX2_lineUp_80 hl (k := 1) rfl (by rw [ex12]; rfl) (by decide) rfl (fun ls hl => ?_)
            refine lv_goto (tgt := 2) hx hb dX2_lineUp_83 (by decide) ?_
            exact ih5 _ _ _ _ hP hD hS _ (lv_sub hl [1, 0] rfl) hf
          · have hf := if_t c11 hf
            refine lv_aload_n hx hb dX2_lineUp_38 rfl (lv_at hl 0 rfl) ?_
            refine va_get (D := D) (ci := 2) (v := .int (y2 0 5)) (C := RX2) (T := TX2) (N := 8) hx hb hts iX2 hown hK hP 0 rfl rfl 5 (by decide) (hts _ aw168) (fun _ h9 => h9) rfl dX2_lineUp_39 ?_
            refine lv_aload_n hx hb dX2_lineUp_42 rfl (lv_at hl 0 rfl) ?_
            refine va_get (D := D) (ci := 2) (v := .ref (a1 2)) (C := RX2) (T := TX2) (N := 8) hx hb hts iX2 hown hK hP 0 rfl rfl 3 (by decide) (hts _ aw162) (fun _ h9 => h9) rfl dX2_lineUp_43 ?_
            refine z_alen hx hb hK hP 2 0 rfl rfl (v := 8) rfl dX2_lineUp_46 ?_
            refine lv_icmp_ge (tgt := 80) hx hb dX2_lineUp_47 (by decide) (fun c13 => ?_) (fun c13 => ?_)
            · have hf := if_t c13 hf
              obtain ⟨x14, ex14⟩ : ∃ y : Int32, y = x1 + 1 := ⟨_, rfl⟩
              have hf := lt_use ex14 hf
              refine lv_iinc (v := x14) (lv' := [(1, .int x14), (0, .ref (a1 0))]) hx hb dX2_lineUp_80 hl (k := 1) rfl (by rw [ex14]; rfl) (by decide) rfl (fun ls hl => ?_)
              refine lv_goto (tgt := 2) hx hb dX2_lineUp_83 (by decide) ?_
              exact ih5 _ _ _ _ hP hD hS _ (lv_sub hl [1, 0] rfl) hf
            · have hf := if_f c13 hf
              refine lv_aload_n hx hb dX2_lineUp_50 rfl (lv_at hl 0 rfl) ?_
              refine va_get (D := D) (ci := 2) (v := .ref (a1 13)) (C := RX2) (T := TX2) (N := 8) hx hb hts iX2 hown hK hP 0 rfl rfl 1 (by decide) (hts _ aw154) (fun _ h9 => h9) rfl dX2_lineUp_51 ?_
              refine lv_iload_n hx hb dX2_lineUp_54 rfl (lv_at hl 1 rfl) ?_
              obtain ⟨h15, hf⟩ := ck_use hf
              refine z_ald hx hb hK hP 13 1 (C := "FilledForOne$Comer") (g := (fun j => a1 (5 + j))) rfl rfl h15 dX2_lineUp_55 ?_
              refine lv_iconst (v := 1) hx hb dX2_lineUp_56 (by decide) ?_
              refine z_put (ci := 1) (v := .int 1) (ty := .int) (C := RX1) (T := TX1) (N := 7) hx hb hts iX1 tyX1 tyX1_ok nmX1 hown hK hP hD hS (5 + x1.toNatClampNeg) (WDay_c z a1 y2 (vp_lt h15)) rfl 5 (by decide) (hts _ aw103) (fun _ h9 => h9) rfl (by decide +kernel) rfl rfl (Nat.le_of_ble_eq_true rfl) dX2_lineUp_57 (fun (w9 : Mem) => (WDay z a1 w9)) (up2 y2 (5 + x1.toNatClampNeg) 5 1) (WDay_sc z a1 y2 (upd (y2 (5 + x1.toNatClampNeg)) 5 1) (vp_lt h15)) (fun y16 ey16 H locs hP hD hS => ?_)
              have hf := lt_use ey16 hf
              refine lv_aload_n hx hb dX2_lineUp_60 rfl (lv_at hl 0 rfl) ?_
              refine va_get (D := D) (ci := 2) (v := .ref (a1 2)) (C := RX2) (T := TX2) (N := 8) hx hb hts iX2 hown hK hP 0 rfl rfl 3 (by decide) (hts _ aw162) (fun _ h9 => h9) rfl dX2_lineUp_61 ?_
              refine lv_aload_n hx hb dX2_lineUp_64 rfl (lv_at hl 0 rfl) ?_
              refine va_get (D := D) (ci := 2) (v := .int (y16 0 5)) (C := RX2) (T := TX2) (N := 8) hx hb hts iX2 hown hK hP 0 rfl rfl 5 (by decide) (hts _ aw168) (fun _ h9 => h9) rfl dX2_lineUp_65 ?_
              refine lv_iload_n hx hb dX2_lineUp_68 rfl (lv_at hl 1 rfl) ?_
              obtain ⟨h18, hf⟩ := ck_use hf
              refine z_iast hx hb hK hP hD hS 2 rfl h18 dX2_lineUp_69 (fun (w9 : Mem) => (WDay z a1 w9)) (up2 y16 2 (y16 0 5).toNatClampNeg x1) rfl (fun y17 ey17 H locs hP hD hS => ?_)
              have hf := lt_use ey17 hf
              refine lv_aload_n hx hb dX2_lineUp_70 rfl (lv_at hl 0 rfl) ?_
              refine lv_dup hx hb dX2_lineUp_71 rfl ?_
              refine va_get (D := D) (ci := 2) (v := .int (y17 0 5)) (C := RX2) (T := TX2) (N := 8) hx hb hts iX2 hown hK hP 0 rfl rfl 5 (by decide) (hts _ aw168) (fun _ h9 => h9) rfl dX2_lineUp_72 ?_
              refine lv_iconst (v := 1) hx hb dX2_lineUp_75 (by decide) ?_
              refine lv_iadd hx hb dX2_lineUp_76 ?_
              refine z_put (ci := 2) (v := .int ((y17 0 5) + 1)) (ty := .int) (C := RX2) (T := TX2) (N := 8) hx hb hts iX2 tyX2 tyX2_ok nmX2 hown hK hP hD hS 0 rfl rfl 5 (by decide) (hts _ aw168) (fun _ h9 => h9) rfl (by decide +kernel) rfl rfl (Nat.le_of_ble_eq_true rfl) dX2_lineUp_77 (fun (w9 : Mem) => (WDay z a1 w9)) (up2 y17 0 5 ((y17 0 5) + 1)) rfl (fun y19 ey19 H locs hP hD hS => ?_)
              have hf := lt_use ey19 hf
              obtain ⟨x20, ex20⟩ : ∃ y : Int32, y = x1 + 1 := ⟨_, rfl⟩
              have hf := lt_use ex20 hf
              refine lv_iinc (v := x20) (lv' := [(1, .int x20), (0, .ref (a1 0))]) hx hb dX2_lineUp_80 hl (k := 1) rfl (by rw [ex20]; rfl) (by decide) rfl (fun ls hl => ?_)
              refine lv_goto (tgt := 2) hx hb dX2_lineUp_83 (by decide) ?_
              exact ih5 _ _ _ _ hP hD hS _ (lv_sub hl [1, 0] rfl) hf
  exact L2_F3 fu _ _ _ _ hP hD hS _ (lv_sub hl [1, 0] rfl) hf
def pX2_closeUp (fu : Nat) (m1 : Mem) : Option Mem :=
  zl3 (fun g5 (x1 : Int32) (x2 : Int32) (y3 : Mem) =>
    if (y3 0 5) ≤ x2 then
      lt' (up2 y3 0 5 x1) fun y8 =>
      some y8
    else
      ck x2 8 <|
      ck (y3 2 x2.toNatClampNeg) 8 <|
      if (y3 (5 + (y3 2 x2.toNatClampNeg).toNatClampNeg) 5) = 1 then
        ck x2 8 <|
        ck x1 8 <|
        lt' (up2 y3 2 x1.toNatClampNeg (y3 2 x2.toNatClampNeg)) fun y14 =>
        lt' (x1 + 1) fun x16 =>
        lt' (x2 + 1) fun x17 =>
        g5 x16 x17 y14
      else
        lt' (x2 + 1) fun x12 =>
        g5 x1 x12 y3) fu 0 0 m1
set_option maxHeartbeats 4000000 in
set_option maxRecDepth 100000 in
theorem tX2_closeUp (l : Launch) (D : va_G) (z tt : Nat → Nat) (a1 : Nat → Nat) (m1 : Mem)  (fu : Nat) (m1' : Mem) (hf : pX2_closeUp fu m1 = some m1') : MetV l yX2_closeUp wsX2_closeUp ({ frames := 0, cells := 0, slots := 0, locals := 0 } : Room) D z tt ([.ref (a1 0)] : List Value) (WDay z a1 m1) (WDay z a1 m1') := by
  intro sz
  refine Met.ofW (cc := cX2_closeUp) (maxL := 3) (ret := none) (by decide) rfl ?_
  intro p e s m args below meth c s₁ B hml hv
  obtain ⟨rfl, hsz, hP, hK, hD0, hT, hN⟩ := hv
  have hx := B.exec
  have hb := B.bytes
  have hr := B.returns
  have hts : ∀ w ∈ wsA, w.before ([.ref (a1 0)] : List Value).toArray s = true := fun w h => atoms_spec (ws := wsX2_closeUp) B.pre w (List.mem_cons_of_mem _ h)
  have hown : s.vm.findClass RX2 = some m.cls := findClass_of_methodNamed B.named
  have hlocks := B.notSynchronized
  subst hsz
  have hD := hD0.self (sz := s.heap.size)
  generalize hAe : va_A (WDay z a1 m1) s.heap.size = A at hD hT ⊢
  have hA : ∀ q : Nat, s.heap.size ≤ q → A q := fun q h => by rw [← hAe]; exact Or.inr h
  have hS : va_S A s.heap s.heap [] := va_S.rf
  have hl := lv_entry ([.ref (a1 0)] : List Value) (n := 3) (Nat.le_of_ble_eq_true rfl)
  rw [lg_entry_eq]
  generalize (lg_sl ([.ref (a1 0)] : List Value) ++ List.replicate (3 - (lg_sl ([.ref (a1 0)] : List Value)).length) Slot.unset).toArray = ls at hl ⊢
  have hl : lv_has ls 3 [(0, .ref (a1 0))] := hl
  unfold pX2_closeUp at hf
  refine lv_iconst (v := 0) hx hb dX2_closeUp_0 (by decide) ?_
  refine lv_istore_n (lv' := [(1, .int 0), (0, .ref (a1 0))]) hx hb dX2_closeUp_1 rfl hl (by decide) rfl (fun ls hl => ?_)
  refine lv_iconst (v := 0) hx hb dX2_closeUp_2 (by decide) ?_
  refine lv_istore_n (lv' := [(2, .int 0), (1, .int 0), (0, .ref (a1 0))]) hx hb dX2_closeUp_3 rfl hl (by decide) rfl (fun ls hl => ?_)
  obtain ⟨F4, eF4, hf⟩ := zl3_use hf
  have L4_F4 : ∀ (n : Nat) (x1 : Int32) (x2 : Int32) (y3 : Mem) (H : Heap) (locs : List Loc), va_P D vwCl (WDay z a1 y3) H → va_D A (WDay z a1 y3) → va_S A s.heap H locs → ∀ (ls : Array Slot), lv_has ls 3 [(0, .ref (a1 0)), (1, .int x1), (2, .int x2)] → zl3 F4 n x1 x2 y3 = some m1' → GV p l e (headSpec wsX2_closeUp ({ frames := 0, cells := 0, slots := 0, locals := 0 } : Room)).room s m ([.ref (a1 0)] : List Value).toArray below meth c A D z (WDay z a1 m1') H locs (F0 m 4 ls []) := by
    intro n
    induction n with
    | zero =>
      intro x1 x2 y3 H locs hP hD hS ls hl hf
      exact no_none hf
    | succ n ih6 =>
      intro x1 x2 y3 H locs hP hD hS ls hl hf
      have hf := zl3_s eF4 hf
      refine lv_iload_n hx hb dX2_closeUp_4 rfl (lv_at hl 2 rfl) ?_
      refine lv_aload_n hx hb dX2_closeUp_5 rfl (lv_at hl 0 rfl) ?_
      refine va_get (D := D) (ci := 2) (v := .int (y3 0 5)) (C := RX2) (T := TX2) (N := 8) hx hb hts iX2 hown hK hP 0 rfl rfl 5 (by decide) (hts _ aw168) (fun _ h9 => h9) rfl dX2_closeUp_6 ?_
      refine lv_icmp_ge (tgt := 51) hx hb dX2_closeUp_9 (by decide) (fun c7 => ?_) (fun c7 => ?_)
      · have hf := if_t c7 hf
        refine lv_aload_n hx hb dX2_closeUp_51 rfl (lv_at hl 0 rfl) ?_
        refine lv_iload_n hx hb dX2_closeUp_52 rfl (lv_at hl 1 rfl) ?_
        refine z_put (ci := 2) (v := .int x1) (ty := .int) (C := RX2) (T := TX2) (N := 8) hx hb hts iX2 tyX2 tyX2_ok nmX2 hown hK hP hD hS 0 rfl rfl 5 (by decide) (hts _ aw168) (fun _ h9 => h9) rfl (by decide +kernel) rfl rfl (Nat.le_of_ble_eq_true rfl) dX2_closeUp_53 (fun (w9 : Mem) => (WDay z a1 w9)) (up2 y3 0 5 x1) rfl (fun y8 ey8 H locs hP hD hS => ?_)
        have hf := lt_use ey8 hf
        obtain rfl := so1 hf
        exact ret_v hx hb hr hlocks hK hP hD hS dX2_closeUp_56
      · have hf := if_f c7 hf
        refine lv_aload_n hx hb dX2_closeUp_12 rfl (lv_at hl 0 rfl) ?_
        refine va_get (D := D) (ci := 2) (v := .ref (a1 13)) (C := RX2) (T := TX2) (N := 8) hx hb hts iX2 hown hK hP 0 rfl rfl 1 (by decide) (hts _ aw154) (fun _ h9 => h9) rfl dX2_closeUp_13 ?_
        refine lv_aload_n hx hb dX2_closeUp_16 rfl (lv_at hl 0 rfl) ?_
        refine va_get (D := D) (ci := 2) (v := .ref (a1 2)) (C := RX2) (T := TX2) (N := 8) hx hb hts iX2 hown hK hP 0 rfl rfl 3 (by decide) (hts _ aw162) (fun _ h9 => h9) rfl dX2_closeUp_17 ?_
        refine lv_iload_n hx hb dX2_closeUp_20 rfl (lv_at hl 2 rfl) ?_
        obtain ⟨h9, hf⟩ := ck_use hf
        refine z_iald hx hb hK hP 2 rfl h9 dX2_closeUp_21 ?_
        obtain ⟨h10, hf⟩ := ck_use hf
        refine z_ald hx hb hK hP 13 1 (C := "FilledForOne$Comer") (g := (fun j => a1 (5 + j))) rfl rfl h10 dX2_closeUp_22 ?_
        refine va_get (D := D) (ci := 1) (v := .int (y3 (5 + (y3 2 x2.toNatClampNeg).toNatClampNeg) 5)) (C := RX1) (T := TX1) (N := 7) hx hb hts iX1 hown hK hP (5 + (y3 2 x2.toNatClampNeg).toNatClampNeg) (WDay_c z a1 y3 (vp_lt h10)) rfl 5 (by decide) (hts _ aw103) (fun _ h9 => h9) rfl dX2_closeUp_23 ?_
        refine lv_iconst (v := 1) hx hb dX2_closeUp_26 (by decide) ?_
        refine lv_icmp_ne (tgt := 45) hx hb dX2_closeUp_27 (by decide) (fun c11 => ?_) (fun c11 => ?_)
        · have hf := if_f c11 hf
          obtain ⟨x12, ex12⟩ : ∃ y : Int32, y = x2 + 1 := ⟨_, rfl⟩
          have hf := lt_use ex12 hf
          refine lv_iinc (v := x12) (lv' := [(2, .int x12), (0, .ref (a1 0)), (1, .int x1)]) hx hb dX2_closeUp_45 hl (k := 2) rfl (by rw [ex12]; rfl) (by decide) rfl (fun ls hl => ?_)
          refine lv_goto (tgt := 4) hx hb dX2_closeUp_48 (by decide) ?_
          exact ih6 _ _ _ _ _ hP hD hS _ (lv_sub hl [1, 2, 0] rfl) hf
        · have hf := if_t c11 hf
          refine lv_aload_n hx hb dX2_closeUp_30 rfl (lv_at hl 0 rfl) ?_
          refine va_get (D := D) (ci := 2) (v := .ref (a1 2)) (C := RX2) (T := TX2) (N := 8) hx hb hts iX2 hown hK hP 0 rfl rfl 3 (by decide) (hts _ aw162) (fun _ h9 => h9) rfl dX2_closeUp_31 ?_
          refine lv_iload_n hx hb dX2_closeUp_34 rfl (lv_at hl 1 rfl) ?_
          refine lv_aload_n hx hb dX2_closeUp_35 rfl (lv_at hl 0 rfl) ?_
          refine va_get (D := D) (ci := 2) (v := .ref (a1 2)) (C := RX2) (T := TX2) (N := 8) hx hb hts iX2 hown hK hP 0 rfl rfl 3 (by decide) (hts _ aw162) (fun _ h9 => h9) rfl dX2_closeUp_36 ?_
          refine lv_iload_n hx hb dX2_closeUp_39 rfl (lv_at hl 2 rfl) ?_
          obtain ⟨h13, hf⟩ := ck_use hf
          refine z_iald hx hb hK hP 2 rfl h13 dX2_closeUp_40 ?_
          obtain ⟨h15, hf⟩ := ck_use hf
          refine z_iast hx hb hK hP hD hS 2 rfl h15 dX2_closeUp_41 (fun (w9 : Mem) => (WDay z a1 w9)) (up2 y3 2 x1.toNatClampNeg (y3 2 x2.toNatClampNeg)) rfl (fun y14 ey14 H locs hP hD hS => ?_)
          have hf := lt_use ey14 hf
          obtain ⟨x16, ex16⟩ : ∃ y : Int32, y = x1 + 1 := ⟨_, rfl⟩
          have hf := lt_use ex16 hf
          refine lv_iinc (v := x16) (lv' := [(1, .int x16), (0, .ref (a1 0)), (2, .int x2)]) hx hb dX2_closeUp_42 hl (k := 1) rfl (by rw [ex16]; rfl) (by decide) rfl (fun ls hl => ?_)
          obtain ⟨x17, ex17⟩ : ∃ y : Int32, y = x2 + 1 := ⟨_, rfl⟩
          have hf := lt_use ex17 hf
          refine lv_iinc (v := x17) (lv' := [(2, .int x17), (1, .int x16), (0, .ref (a1 0))]) hx hb dX2_closeUp_45 hl (k := 2) rfl (by rw [ex17]; rfl) (by decide) rfl (fun ls hl => ?_)
          refine lv_goto (tgt := 4) hx hb dX2_closeUp_48 (by decide) ?_
          exact ih6 _ _ _ _ _ hP hD hS _ (lv_sub hl [2, 1, 0] rfl) hf
  exact L4_F4 fu _ _ _ _ _ hP hD hS _ (lv_sub hl [2, 1, 0] rfl) hf
