def pX5_drawnDays (fu : Nat) (m1 : Mem) (m2 : Mem) (p1 : Int32) (p2 : Int32) (p3 : Int32) : Option (Int32 × Mem × Mem) :=
  lt' (up2 m1 0 1 p2) fun y1 =>
  zl5 (fun g8 (x2 : Int32) (x3 : Int32) (x4 : Int32) (y5 : Mem) (y6 : Mem) =>
    if p1 ≤ x4 then
      if p3 = 0 then
        some (x3, y5, y6)
      else
        some (x2, y5, y6)
    else
      zl3 (fun g16 (x12 : Int32) (y13 : Mem) (y14 : Mem) =>
        if (y14 0 4) ≤ x12 then
          bd2 (pX5_costAnew fu y14) fun r19 y20 =>
          lt' ((x2 + r19) : Int32) fun x22 =>
          bd (pX2_comersWith fu y20 3) fun r23 =>
          lt' ((x3 + r23) : Int32) fun x25 =>
          lt' (x4 + 1) fun x26 =>
          g8 x22 x25 x26 y13 y20
        else
          ck x12 8 <|
          bd2 (pX5_draw fu y13 120) fun r28 y29 =>
          lt' (up2 y14 (5 + x12.toNatClampNeg) 2 r28) fun y31 =>
          lt' (x12 + 1) fun x32 =>
          g16 x32 y29 y31) fu 0 y5 y6) fu 0 0 0 y1 m2
set_option maxHeartbeats 4000000 in
set_option maxRecDepth 100000 in
theorem tX5_drawnDays (l : Launch) (D : va_G) (z tt : Nat → Nat) (a1 : Nat) (a2 : Nat → Nat) (m1 : Mem) (m2 : Mem) (p1 : Int32) (p2 : Int32) (p3 : Int32) (fu : Nat) (rr : Int32) (m1' : Mem) (m2' : Mem) (hf : pX5_drawnDays fu m1 m2 p1 p2 p3 = some (rr, m1', m2')) : MetI l yX5_drawnDays wsX5_drawnDays ({ frames := 5, cells := 0, slots := 0, locals := 112 } : Room) D z tt ([.ref a1, .int p1, .int p2, .int p3] : List Value) (WMin a1 (a2 0) m1 ++ (WDay z a2 m2)) rr (WMin a1 (a2 0) m1' ++ (WDay z a2 m2')) := by
  intro sz
  refine Met.ofW (cc := cX5_drawnDays) (maxL := 8) (ret := (some .int)) (by decide) rfl ?_
  intro p e s m args below meth c s₁ B hml hv
  obtain ⟨rfl, hsz, hP, hK, hD0, hT, hN⟩ := hv
  have hx := B.exec
  have hb := B.bytes
  have hr := B.returns
  have hts : ∀ w ∈ wsA, w.before ([.ref a1, .int p1, .int p2, .int p3] : List Value).toArray s = true := fun w h => atoms_spec (ws := wsX5_drawnDays) B.pre w (List.mem_cons_of_mem _ h)
  have hown : s.vm.findClass RX5 = some m.cls := findClass_of_methodNamed B.named
  have hlocks := B.notSynchronized
  subst hsz
  have hD := hD0.self (sz := s.heap.size)
  generalize hAe : va_A (WMin a1 (a2 0) m1 ++ (WDay z a2 m2)) s.heap.size = A at hD hT ⊢
  have hA : ∀ q : Nat, s.heap.size ≤ q → A q := fun q h => by rw [← hAe]; exact Or.inr h
  have hS : va_S A s.heap s.heap [] := va_S.rf
  have hl := lv_entry ([.ref a1, .int p1, .int p2, .int p3] : List Value) (n := 8) (Nat.le_of_ble_eq_true rfl)
  rw [lg_entry_eq]
  generalize (lg_sl ([.ref a1, .int p1, .int p2, .int p3] : List Value) ++ List.replicate (8 - (lg_sl ([.ref a1, .int p1, .int p2, .int p3] : List Value)).length) Slot.unset).toArray = ls at hl ⊢
  have hl : lv_has ls 8 [(0, .ref a1), (1, .int p1), (2, .int p2), (3, .int p3)] := hl
  unfold pX5_drawnDays at hf
  refine lv_aload_n hx hb dX5_drawnDays_0 rfl (lv_at hl 0 rfl) ?_
  refine lv_iload_n hx hb dX5_drawnDays_1 rfl (lv_at hl 2 rfl) ?_
  refine z_put (ci := 5) (v := .int p2) (ty := .int) (C := RX5) (T := TX5) (N := 2) hx hb hts iX5 tyX5 tyX5_ok nmX5 hown hK hP hD hS 0 rfl rfl 1 (by decide) (hts _ aw201) (fun _ h9 => h9) rfl (by decide +kernel) rfl rfl (Nat.le_of_ble_eq_true rfl) dX5_drawnDays_2 (fun (w9 : Mem) => (WMin a1 (a2 0) w9 ++ (WDay z a2 m2))) (up2 m1 0 1 p2) rfl (fun y1 ey1 H locs hP hD hS => ?_)
  have hf := lt_use ey1 hf
  refine lv_iconst (v := 0) hx hb dX5_drawnDays_5 (by decide) ?_
  refine lv_istore (lv' := [(4, .int 0), (0, .ref a1), (1, .int p1), (2, .int p2), (3, .int p3)]) hx hb dX5_drawnDays_6 hl (by decide) rfl (fun ls hl => ?_)
  refine lv_iconst (v := 0) hx hb dX5_drawnDays_8 (by decide) ?_
  refine lv_istore (lv' := [(5, .int 0), (4, .int 0), (0, .ref a1), (1, .int p1), (2, .int p2), (3, .int p3)]) hx hb dX5_drawnDays_9 hl (by decide) rfl (fun ls hl => ?_)
  refine lv_iconst (v := 0) hx hb dX5_drawnDays_11 (by decide) ?_
  refine lv_istore (lv' := [(6, .int 0), (5, .int 0), (4, .int 0), (0, .ref a1), (1, .int p1), (2, .int p2), (3, .int p3)]) hx hb dX5_drawnDays_12 hl (by decide) rfl (fun ls hl => ?_)
  obtain ⟨F7, eF7, hf⟩ := zl5_use hf
  have L14_F7 : ∀ (n : Nat) (x2 : Int32) (x3 : Int32) (x4 : Int32) (y5 : Mem) (y6 : Mem) (H : Heap) (locs : List Loc), va_P D vwCl (WMin a1 (a2 0) y5 ++ (WDay z a2 y6)) H → va_D A (WMin a1 (a2 0) y5 ++ (WDay z a2 y6)) → va_S A s.heap H locs → ∀ (ls : Array Slot), lv_has ls 8 [(0, .ref a1), (1, .int p1), (3, .int p3), (4, .int x2), (5, .int x3), (6, .int x4)] → zl5 F7 n x2 x3 x4 y5 y6 = some (rr, m1', m2') → GI p l e (headSpec wsX5_drawnDays ({ frames := 5, cells := 0, slots := 0, locals := 112 } : Room)).room s m ([.ref a1, .int p1, .int p2, .int p3] : List Value).toArray below meth c A D z rr (WMin a1 (a2 0) m1' ++ (WDay z a2 m2')) H locs (F0 m 14 ls []) := by
    intro n
    induction n with
    | zero =>
      intro x2 x3 x4 y5 y6 H locs hP hD hS ls hl hf
      exact no_none hf
    | succ n ih9 =>
      intro x2 x3 x4 y5 y6 H locs hP hD hS ls hl hf
      have hf := zl5_s eF7 hf
      refine lv_iload hx hb dX5_drawnDays_14 (lv_at hl 5 rfl) ?_
      refine lv_iload_n hx hb dX5_drawnDays_16 rfl (lv_at hl 1 rfl) ?_
      refine lv_icmp_ge (tgt := 88) hx hb dX5_drawnDays_17 (by decide) (fun c10 => ?_) (fun c10 => ?_)
      · have hf := if_t c10 hf
        refine lv_iload_n hx hb dX5_drawnDays_88 rfl (lv_at hl 2 rfl) ?_
        refine lv_if_eq (tgt := 97) hx hb dX5_drawnDays_89 (by decide) (fun c11 => ?_) (fun c11 => ?_)
        · have hf := if_t c11 hf
          refine lv_iload hx hb dX5_drawnDays_97 (lv_at hl 4 rfl) ?_
          obtain ⟨rfl, rfl, rfl⟩ := so3 hf
          exact ret_i hx hb hr hlocks hK hP hD hS dX5_drawnDays_99
        · have hf := if_f c11 hf
          refine lv_iload hx hb dX5_drawnDays_92 (lv_at hl 3 rfl) ?_
          refine lv_goto (tgt := 99) hx hb dX5_drawnDays_94 (by decide) ?_
          obtain ⟨rfl, rfl, rfl⟩ := so3 hf
          exact ret_i hx hb hr hlocks hK hP hD hS dX5_drawnDays_99
      · have hf := if_f c10 hf
        refine lv_iconst (v := 0) hx hb dX5_drawnDays_20 (by decide) ?_
        refine lv_istore (lv' := [(7, .int 0), (0, .ref a1), (1, .int p1), (3, .int p3), (4, .int x2), (5, .int x3), (6, .int x4)]) hx hb dX5_drawnDays_21 hl (by decide) rfl (fun ls hl => ?_)
        obtain ⟨F15, eF15, hf⟩ := zl3_use hf
        have L23_F15 : ∀ (n : Nat) (x12 : Int32) (y13 : Mem) (y14 : Mem) (H : Heap) (locs : List Loc), va_P D vwCl (WMin a1 (a2 0) y13 ++ (WDay z a2 y14)) H → va_D A (WMin a1 (a2 0) y13 ++ (WDay z a2 y14)) → va_S A s.heap H locs → ∀ (ls : Array Slot), lv_has ls 8 [(0, .ref a1), (1, .int p1), (3, .int p3), (4, .int x2), (5, .int x3), (6, .int x4), (7, .int x12)] → zl3 F15 n x12 y13 y14 = some (rr, m1', m2') → GI p l e (headSpec wsX5_drawnDays ({ frames := 5, cells := 0, slots := 0, locals := 112 } : Room)).room s m ([.ref a1, .int p1, .int p2, .int p3] : List Value).toArray below meth c A D z rr (WMin a1 (a2 0) m1' ++ (WDay z a2 m2')) H locs (F0 m 23 ls []) := by
          intro n
          induction n with
          | zero =>
            intro x12 y13 y14 H locs hP hD hS ls hl hf
            exact no_none hf
          | succ n ih17 =>
            intro x12 y13 y14 H locs hP hD hS ls hl hf
            have hf := zl3_s eF15 hf
            refine lv_iload hx hb dX5_drawnDays_23 (lv_at hl 6 rfl) ?_
            refine lv_aload_n hx hb dX5_drawnDays_25 rfl (lv_at hl 0 rfl) ?_
            refine va_get (D := D) (ci := 5) (v := .ref (a2 0)) (C := RX5) (T := TX5) (N := 2) hx hb hts iX5 hown hK hP 0 rfl rfl 0 (by decide) (hts _ aw199) (fun _ h9 => h9) rfl dX5_drawnDays_26 ?_
            refine va_get (D := D) (ci := 2) (v := .int (y14 0 4)) (C := RX2) (T := TX2) (N := 8) hx hb hts iX2 hown hK hP 1 rfl rfl 4 (by decide) (hts _ aw166) (fun _ h9 => h9) rfl dX5_drawnDays_29 ?_
            refine lv_icmp_ge (tgt := 60) hx hb dX5_drawnDays_32 (by decide) (fun c18 => ?_) (fun c18 => ?_)
            · have hf := if_t c18 hf
              refine lv_iload hx hb dX5_drawnDays_60 (lv_at hl 3 rfl) ?_
              refine lv_aload_n hx hb dX5_drawnDays_62 rfl (lv_at hl 0 rfl) ?_
              obtain ⟨r19, y20, q21, hf⟩ := bd2_use hf
              have hfo : Foc (WMin a1 (a2 0) y13 ++ (WDay z a2 y14)) (WMin a1 (a2 0) y13 ++ (WDay z a2 y14)) (WMin a1 (a2 0) y13 ++ (WDay z a2 y20)) (WMin a1 (a2 0) y13 ++ (WDay z a2 y20)) := (foc_app foc_all foc_all)
              refine z_goI (ws1 := (WMin a1 (a2 0) y13 ++ (WDay z a2 y20))) (va_runV (As := []) (rest := [.int x2]) ⟨hx, hb, hml, hown, hts⟩ (tX5_costAnew l D z tt a1 a2 y13 y14  fu r19 y20 q21 _) (cwV 0 hts (gV4 aw561 aw562 aw563 aw49 aw564) rfl rfl rfl (by decide +kernel) ⟨Nat.le_of_ble_eq_true rfl, Nat.le_of_ble_eq_true rfl⟩) (z_preV hK hP hD hS hA hT hN hfo (va_recv hK hP (ci := 5) (q0 := 0) rfl rfl)) rfl rfl hl.1 rfl (lv_room (Nat.le_of_ble_eq_true rfl)) dX5_drawnDays_63 ⟨Nat.zero_le _, Nat.zero_le _⟩) hP hD hS hA hfo (fun H locs hP hD hS => ?_)
              refine lv_iadd hx hb dX5_drawnDays_66 ?_
              refine lv_topi (fun x22 ex22 => ?_)
              have hf := lt_use ex22 hf
              refine lv_istore (lv' := [(4, .int x22), (0, .ref a1), (1, .int p1), (3, .int p3), (5, .int x3), (6, .int x4), (7, .int x12)]) hx hb dX5_drawnDays_67 hl (by decide) rfl (fun ls hl => ?_)
              refine lv_iload hx hb dX5_drawnDays_69 (lv_at hl 4 rfl) ?_
              refine lv_aload_n hx hb dX5_drawnDays_71 rfl (lv_at hl 1 rfl) ?_
              refine va_get (D := D) (ci := 5) (v := .ref (a2 0)) (C := RX5) (T := TX5) (N := 2) hx hb hts iX5 hown hK hP 0 rfl rfl 0 (by decide) (hts _ aw199) (fun _ h9 => h9) rfl dX5_drawnDays_72 ?_
              refine lv_iconst (v := 3) hx hb dX5_drawnDays_75 (by decide) ?_
              obtain ⟨r23, q24, hf⟩ := bd_use hf
              have hfo : Foc (WMin a1 (a2 0) y13 ++ (WDay z a2 y20)) (WDay z a2 y20) (WMin a1 (a2 0) y13 ++ (WDay z a2 y20)) (WDay z a2 y20) := (foc_r foc_all)
              refine z_goI (ws1 := (WMin a1 (a2 0) y13 ++ (WDay z a2 y20))) (va_runV (As := [.int 3]) (rest := [.int x3]) ⟨hx, hb, hml, hown, hts⟩ (tX2_comersWith l D z tt a2 y20 3 fu r23 q24 _) (cwV 1 hts (gV4 aw533 aw427 aw428 aw46 aw429) rfl rfl rfl (by decide +kernel) ⟨Nat.le_of_ble_eq_true rfl, Nat.le_of_ble_eq_true rfl⟩) (z_preV hK hP hD hS hA hT hN hfo (va_recv hK hP (ci := 2) (q0 := 1) rfl rfl)) rfl rfl hl.1 rfl (lv_room (Nat.le_of_ble_eq_true rfl)) dX5_drawnDays_76 ⟨Nat.zero_le _, Nat.zero_le _⟩) hP hD hS hA hfo (fun H locs hP hD hS => ?_)
              refine lv_iadd hx hb dX5_drawnDays_79 ?_
              refine lv_topi (fun x25 ex25 => ?_)
              have hf := lt_use ex25 hf
              refine lv_istore (lv' := [(5, .int x25), (4, .int x22), (0, .ref a1), (1, .int p1), (3, .int p3), (6, .int x4), (7, .int x12)]) hx hb dX5_drawnDays_80 hl (by decide) rfl (fun ls hl => ?_)
              obtain ⟨x26, ex26⟩ : ∃ y : Int32, y = x4 + 1 := ⟨_, rfl⟩
              have hf := lt_use ex26 hf
              refine lv_iinc (v := x26) (lv' := [(6, .int x26), (5, .int x25), (4, .int x22), (0, .ref a1), (1, .int p1), (3, .int p3), (7, .int x12)]) hx hb dX5_drawnDays_82 hl (k := 5) rfl (by rw [ex26]; rfl) (by decide) rfl (fun ls hl => ?_)
              refine lv_goto (tgt := 14) hx hb dX5_drawnDays_85 (by decide) ?_
              exact ih9 _ _ _ _ _ _ _ hP hD hS _ (lv_sub hl [3, 4, 5, 2, 1, 0] rfl) hf
            · have hf := if_f c18 hf
              refine lv_aload_n hx hb dX5_drawnDays_35 rfl (lv_at hl 0 rfl) ?_
              refine va_get (D := D) (ci := 5) (v := .ref (a2 0)) (C := RX5) (T := TX5) (N := 2) hx hb hts iX5 hown hK hP 0 rfl rfl 0 (by decide) (hts _ aw199) (fun _ h9 => h9) rfl dX5_drawnDays_36 ?_
              refine va_get (D := D) (ci := 2) (v := .ref (a2 13)) (C := RX2) (T := TX2) (N := 8) hx hb hts iX2 hown hK hP 1 rfl rfl 1 (by decide) (hts _ aw156) (fun _ h9 => h9) rfl dX5_drawnDays_39 ?_
              refine lv_iload hx hb dX5_drawnDays_42 (lv_at hl 6 rfl) ?_
              obtain ⟨h27, hf⟩ := ck_use hf
              refine z_ald hx hb hK hP 14 1 (C := "FilledForOne$Comer") (g := (fun j => a2 (5 + j))) rfl rfl h27 dX5_drawnDays_44 ?_
              refine lv_aload_n hx hb dX5_drawnDays_45 rfl (lv_at hl 0 rfl) ?_
              refine lv_bipush (v := 120) hx hb dX5_drawnDays_46 (by decide) ?_
              obtain ⟨r28, y29, q30, hf⟩ := bd2_use hf
              have hfo : Foc (WMin a1 (a2 0) y13 ++ (WDay z a2 y14)) (WMin a1 (a2 0) y13) (WMin a1 (a2 0) y29 ++ (WDay z a2 y14)) (WMin a1 (a2 0) y29) := (foc_l foc_all)
              refine z_goI (ws1 := (WMin a1 (a2 0) y29 ++ (WDay z a2 y14))) (va_runV (As := [.int 120]) (rest := [.ref (a2 (5 + x12.toNatClampNeg))]) ⟨hx, hb, hml, hown, hts⟩ (tX5_draw l D z tt (a2 0) a1 y13 120 fu r28 y29 q30 _) (cwV 1 hts (gV4 aw710 aw711 aw712 aw49 aw713) rfl rfl rfl (by decide +kernel) ⟨Nat.le_of_ble_eq_true rfl, Nat.le_of_ble_eq_true rfl⟩) (z_preV hK hP hD hS hA hT hN hfo (va_recv hK hP (ci := 5) (q0 := 0) rfl rfl)) rfl rfl hl.1 rfl (lv_room (Nat.le_of_ble_eq_true rfl)) dX5_drawnDays_48 ⟨Nat.zero_le _, Nat.zero_le _⟩) hP hD hS hA hfo (fun H locs hP hD hS => ?_)
              refine z_put (ci := 1) (v := .int r28) (ty := .int) (C := RX1) (T := TX1) (N := 7) hx hb hts iX1 tyX1 tyX1_ok nmX1 hown hK hP hD hS (1 + (5 + x12.toNatClampNeg)) (w_skip (n := 1) rfl (WDay_c z a2 y14 (vp_lt h27))) rfl 2 (by decide) (hts _ aw96) (fun _ h9 => h9) rfl (by decide +kernel) rfl rfl (Nat.le_of_ble_eq_true rfl) dX5_drawnDays_51 (fun (w9 : Mem) => (WMin a1 (a2 0) y29 ++ (WDay z a2 w9))) (up2 y14 (5 + x12.toNatClampNeg) 2 r28) (s_skip (n := 1) rfl (WDay_sc z a2 y14 (upd (y14 (5 + x12.toNatClampNeg)) 2 r28) (vp_lt h27))) (fun y31 ey31 H locs hP hD hS => ?_)
              have hf := lt_use ey31 hf
              obtain ⟨x32, ex32⟩ : ∃ y : Int32, y = x12 + 1 := ⟨_, rfl⟩
              have hf := lt_use ex32 hf
              refine lv_iinc (v := x32) (lv' := [(7, .int x32), (0, .ref a1), (1, .int p1), (3, .int p3), (4, .int x2), (5, .int x3), (6, .int x4)]) hx hb dX5_drawnDays_54 hl (k := 6) rfl (by rw [ex32]; rfl) (by decide) rfl (fun ls hl => ?_)
              refine lv_goto (tgt := 23) hx hb dX5_drawnDays_57 (by decide) ?_
              exact ih17 _ _ _ _ _ hP hD hS _ (lv_sub hl [1, 2, 3, 4, 5, 6, 0] rfl) hf
        exact L23_F15 fu _ _ _ _ _ hP hD hS _ (lv_sub hl [1, 2, 3, 4, 5, 6, 0] rfl) hf
  exact L14_F7 fu _ _ _ _ _ _ _ hP hD hS _ (lv_sub hl [3, 4, 6, 2, 1, 0] rfl) hf
