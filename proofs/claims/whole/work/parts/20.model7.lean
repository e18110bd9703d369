def pX7_costOfRows (fu : Nat) (m1 : Mem) (p1 : Int32) : Option Int32 :=
  zl5 (fun g7 (x1 : Int32) (x2 : Int32) (x3 : Int32) (x4 : Int32) (x5 : Int32) =>
    if (m1 0 15) ≤ x5 then
      some x1
    else
      ck x5 8 <|
      ck (m1 21 x5.toNatClampNeg) 8 <|
      lt' ((x4 + (m1 6 (m1 21 x5.toNatClampNeg).toNatClampNeg)) : Int32) fun x12 =>
      if ((p1 >>> (x5 &&& 31)) &&& 1) = 0 then
        lt' (x5 + 1) fun x38 =>
        g7 x1 x2 x3 x12 x38
      else
        if x12 ≤ (m1 2 0) then
          ck x5 8 <|
          ck (m1 21 x5.toNatClampNeg) 8 <|
          jn1 (fun (x17 : Int32) =>
            bd (pX7_boilTime fu m1 x12 10) fun r19 =>
            lt' (((x17 + (m1 2 1)) + r19) : Int32) fun x21 =>
            lt' (x1 + 3) fun x22 =>
            zl2 (fun g26 (x23 : Int32) (x24 : Int32) =>
              if x5 < x24 then
                lt' ((x5 + 1) : Int32) fun x29 =>
                lt' (x5 + 1) fun x30 =>
                g7 x23 x21 x29 0 x30
              else
                ck x24 8 <|
                ck (m1 21 x24.toNatClampNeg) 8 <|
                lt' ((x23 + ((x21 - (m1 5 (m1 21 x24.toNatClampNeg).toNatClampNeg)) * (m1 2 4))) : Int32) fun x33 =>
                lt' (x24 + 1) fun x34 =>
                g26 x33 x34) fu x22 x3) fun k18 =>
          if (m1 5 (m1 21 x5.toNatClampNeg).toNatClampNeg) ≤ x2 then
            k18 x2
          else
            ck x5 8 <|
            ck (m1 21 x5.toNatClampNeg) 8 <|
            k18 (m1 5 (m1 21 x5.toNatClampNeg).toNatClampNeg)
        else
          some 1000000000) fu 0 0 0 0 0
set_option maxHeartbeats 4000000 in
set_option maxRecDepth 100000 in
theorem tX7_costOfRows (l : Launch) (D : va_G) (z tt : Nat → Nat) (a1 : Nat → Nat) (m1 : Mem) (p1 : Int32) (fu : Nat) (rr : Int32) (hf : pX7_costOfRows fu m1 p1 = some rr) : MetI l yX7_costOfRows wsX7_costOfRows ({ frames := 1, cells := 0, slots := 0, locals := 23 } : Room) D z tt ([.ref (a1 0), .int p1] : List Value) (WMod z a1 m1) rr (WMod z a1 m1) := by
  intro sz
  refine Met.ofW (cc := cX7_costOfRows) (maxL := 9) (ret := (some .int)) (by decide) rfl ?_
  intro p e s m args below meth c s₁ B hml hv
  obtain ⟨rfl, hsz, hP, hK, hD0, hT, hN⟩ := hv
  have hx := B.exec
  have hb := B.bytes
  have hr := B.returns
  have hts : ∀ w ∈ wsA, w.before ([.ref (a1 0), .int p1] : List Value).toArray s = true := fun w h => atoms_spec (ws := wsX7_costOfRows) B.pre w (List.mem_cons_of_mem _ h)
  have hown : s.vm.findClass RX7 = some m.cls := findClass_of_methodNamed B.named
  have hlocks := B.notSynchronized
  subst hsz
  have hD := hD0.self (sz := s.heap.size)
  generalize hAe : va_A (WMod z a1 m1) s.heap.size = A at hD hT ⊢
  have hA : ∀ q : Nat, s.heap.size ≤ q → A q := fun q h => by rw [← hAe]; exact Or.inr h
  have hS : va_S A s.heap s.heap [] := va_S.rf
  have hl := lv_entry ([.ref (a1 0), .int p1] : List Value) (n := 9) (Nat.le_of_ble_eq_true rfl)
  rw [lg_entry_eq]
  generalize (lg_sl ([.ref (a1 0), .int p1] : List Value) ++ List.replicate (9 - (lg_sl ([.ref (a1 0), .int p1] : List Value)).length) Slot.unset).toArray = ls at hl ⊢
  have hl : lv_has ls 9 [(0, .ref (a1 0)), (1, .int p1)] := hl
  unfold pX7_costOfRows at hf
  refine lv_iconst (v := 0) hx hb dX7_costOfRows_0 (by decide) ?_
  refine lv_istore_n (lv' := [(2, .int 0), (0, .ref (a1 0)), (1, .int p1)]) hx hb dX7_costOfRows_1 rfl hl (by decide) rfl (fun ls hl => ?_)
  refine lv_iconst (v := 0) hx hb dX7_costOfRows_2 (by decide) ?_
  refine lv_istore_n (lv' := [(3, .int 0), (2, .int 0), (0, .ref (a1 0)), (1, .int p1)]) hx hb dX7_costOfRows_3 rfl hl (by decide) rfl (fun ls hl => ?_)
  refine lv_iconst (v := 0) hx hb dX7_costOfRows_4 (by decide) ?_
  refine lv_istore (lv' := [(4, .int 0), (3, .int 0), (2, .int 0), (0, .ref (a1 0)), (1, .int p1)]) hx hb dX7_costOfRows_5 hl (by decide) rfl (fun ls hl => ?_)
  refine lv_iconst (v := 0) hx hb dX7_costOfRows_7 (by decide) ?_
  refine lv_istore (lv' := [(5, .int 0), (4, .int 0), (3, .int 0), (2, .int 0), (0, .ref (a1 0)), (1, .int p1)]) hx hb dX7_costOfRows_8 hl (by decide) rfl (fun ls hl => ?_)
  refine lv_iconst (v := 0) hx hb dX7_costOfRows_10 (by decide) ?_
  refine lv_istore (lv' := [(6, .int 0), (5, .int 0), (4, .int 0), (3, .int 0), (2, .int 0), (0, .ref (a1 0)), (1, .int p1)]) hx hb dX7_costOfRows_11 hl (by decide) rfl (fun ls hl => ?_)
  obtain ⟨F6, eF6, hf⟩ := zl5_use hf
  have L13_F6 : ∀ (n : Nat) (x1 : Int32) (x2 : Int32) (x3 : Int32) (x4 : Int32) (x5 : Int32) (H : Heap) (locs : List Loc), va_P D vwCl (WMod z a1 m1) H → va_D A (WMod z a1 m1) → va_S A s.heap H locs → ∀ (ls : Array Slot), lv_has ls 9 [(0, .ref (a1 0)), (1, .int p1), (2, .int x1), (3, .int x2), (4, .int x3), (5, .int x4), (6, .int x5)] → zl5 F6 n x1 x2 x3 x4 x5 = some rr → GI p l e (headSpec wsX7_costOfRows ({ frames := 1, cells := 0, slots := 0, locals := 23 } : Room)).room s m ([.ref (a1 0), .int p1] : List Value).toArray below meth c A D z rr (WMod z a1 m1) H locs (F0 m 13 ls []) := by
    intro n
    induction n with
    | zero =>
      intro x1 x2 x3 x4 x5 H locs hP hD hS ls hl hf
      exact no_none hf
    | succ n ih8 =>
      intro x1 x2 x3 x4 x5 H locs hP hD hS ls hl hf
      have hf := zl5_s eF6 hf
      refine lv_iload hx hb dX7_costOfRows_13 (lv_at hl 6 rfl) ?_
      refine lv_aload_n hx hb dX7_costOfRows_15 rfl (lv_at hl 0 rfl) ?_
      refine va_get (D := D) (ci := 7) (v := .int (m1 0 15)) (C := RX7) (T := TX7) (N := 33) hx hb hts iX7 hown hK hP 0 rfl rfl 15 (by decide) (hts _ aw751) (fun _ h9 => h9) rfl dX7_costOfRows_16 ?_
      refine lv_icmp_ge (tgt := 177) hx hb dX7_costOfRows_19 (by decide) (fun c9 => ?_) (fun c9 => ?_)
      · have hf := if_t c9 hf
        refine lv_iload_n hx hb dX7_costOfRows_177 rfl (lv_at hl 2 rfl) ?_
        obtain rfl := so1 hf
        exact ret_i hx hb hr hlocks hK hP hD hS dX7_costOfRows_178
      · have hf := if_f c9 hf
        refine lv_iload hx hb dX7_costOfRows_22 (lv_at hl 5 rfl) ?_
        refine lv_aload_n hx hb dX7_costOfRows_24 rfl (lv_at hl 0 rfl) ?_
        refine va_get (D := D) (ci := 7) (v := .ref (a1 6)) (C := RX7) (T := TX7) (N := 33) hx hb hts iX7 hown hK hP 0 rfl rfl 5 (by decide) (hts _ aw741) (fun _ h9 => h9) rfl dX7_costOfRows_25 ?_
        refine lv_aload_n hx hb dX7_costOfRows_28 rfl (lv_at hl 0 rfl) ?_
        refine va_get (D := D) (ci := 7) (v := .ref (a1 21)) (C := RX7) (T := TX7) (N := 33) hx hb hts iX7 hown hK hP 0 rfl rfl 30 (by decide) (hts _ aw766) (fun _ h9 => h9) rfl dX7_costOfRows_29 ?_
        refine lv_iload hx hb dX7_costOfRows_32 (lv_at hl 6 rfl) ?_
        obtain ⟨h10, hf⟩ := ck_use hf
        refine z_iald hx hb hK hP 21 rfl h10 dX7_costOfRows_34 ?_
        obtain ⟨h11, hf⟩ := ck_use hf
        refine z_iald hx hb hK hP 6 rfl h11 dX7_costOfRows_35 ?_
        refine lv_iadd hx hb dX7_costOfRows_36 ?_
        refine lv_topi (fun x12 ex12 => ?_)
        have hf := lt_use ex12 hf
        refine lv_istore (lv' := [(5, .int x12), (0, .ref (a1 0)), (1, .int p1), (2, .int x1), (3, .int x2), (4, .int x3), (6, .int x5)]) hx hb dX7_costOfRows_37 hl (by decide) rfl (fun ls hl => ?_)
        refine lv_iload_n hx hb dX7_costOfRows_39 rfl (lv_at hl 2 rfl) ?_
        refine lv_iload hx hb dX7_costOfRows_40 (lv_at hl 6 rfl) ?_
        refine lv_ishr hx hb dX7_costOfRows_42 ?_
        refine lv_iconst (v := 1) hx hb dX7_costOfRows_43 (by decide) ?_
        refine lv_iand hx hb dX7_costOfRows_44 ?_
        refine lv_if_ne (tgt := 51) hx hb dX7_costOfRows_45 (by decide) (fun c13 => ?_) (fun c13 => ?_)
        · have hf := if_f c13 hf
          refine lv_iload hx hb dX7_costOfRows_51 (lv_at hl 0 rfl) ?_
          refine lv_aload_n hx hb dX7_costOfRows_53 rfl (lv_at hl 1 rfl) ?_
          refine va_get (D := D) (ci := 7) (v := .ref (a1 2)) (C := RX7) (T := TX7) (N := 33) hx hb hts iX7 hown hK hP 0 rfl rfl 1 (by decide) (hts _ aw737) (fun _ h9 => h9) rfl dX7_costOfRows_54 ?_
          refine lv_iconst (v := 0) hx hb dX7_costOfRows_57 (by decide) ?_
          refine z_ialdc hx hb hK hP 2 rfl (i := 0) (k := 0) (by decide) (Nat.le_of_ble_eq_true rfl) dX7_costOfRows_58 ?_
          refine lv_icmp_le (tgt := 65) hx hb dX7_costOfRows_59 (by decide) (fun c14 => ?_) (fun c14 => ?_)
          · have hf := if_t c14 hf
            refine lv_aload_n hx hb dX7_costOfRows_65 rfl (lv_at hl 1 rfl) ?_
            refine va_get (D := D) (ci := 7) (v := .ref (a1 5)) (C := RX7) (T := TX7) (N := 33) hx hb hts iX7 hown hK hP 0 rfl rfl 4 (by decide) (hts _ aw740) (fun _ h9 => h9) rfl dX7_costOfRows_66 ?_
            refine lv_aload_n hx hb dX7_costOfRows_69 rfl (lv_at hl 1 rfl) ?_
            refine va_get (D := D) (ci := 7) (v := .ref (a1 21)) (C := RX7) (T := TX7) (N := 33) hx hb hts iX7 hown hK hP 0 rfl rfl 30 (by decide) (hts _ aw766) (fun _ h9 => h9) rfl dX7_costOfRows_70 ?_
            refine lv_iload hx hb dX7_costOfRows_73 (lv_at hl 6 rfl) ?_
            obtain ⟨h15, hf⟩ := ck_use hf
            refine z_iald hx hb hK hP 21 rfl h15 dX7_costOfRows_75 ?_
            obtain ⟨h16, hf⟩ := ck_use hf
            refine z_iald hx hb hK hP 5 rfl h16 dX7_costOfRows_76 ?_
            refine lv_iload_n hx hb dX7_costOfRows_77 rfl (lv_at hl 4 rfl) ?_
            obtain ⟨k18, ek18, hf⟩ := jn1_use hf
            have B97_k18 : ∀ (x17 : Int32) (H : Heap) (locs : List Loc), va_P D vwCl (WMod z a1 m1) H → va_D A (WMod z a1 m1) → va_S A s.heap H locs → ∀ (ls : Array Slot), lv_has ls 9 [(0, .ref (a1 0)), (1, .int p1), (2, .int x1), (4, .int x3), (5, .int x12), (6, .int x5)] → k18 x17 = some rr → GI p l e (headSpec wsX7_costOfRows ({ frames := 1, cells := 0, slots := 0, locals := 23 } : Room)).room s m ([.ref (a1 0), .int p1] : List Value).toArray below meth c A D z rr (WMod z a1 m1) H locs (F0 m 97 ls [.int x17]) := by
              intro x17 H locs hP hD hS ls hl hf
              have hf := jn1_ap ek18 hf
              refine lv_istore (lv' := [(7, .int x17), (0, .ref (a1 0)), (1, .int p1), (2, .int x1), (4, .int x3), (5, .int x12), (6, .int x5)]) hx hb dX7_costOfRows_97 hl (by decide) rfl (fun ls hl => ?_)
              refine lv_iload hx hb dX7_costOfRows_99 (lv_at hl 0 rfl) ?_
              refine lv_aload_n hx hb dX7_costOfRows_101 rfl (lv_at hl 1 rfl) ?_
              refine va_get (D := D) (ci := 7) (v := .ref (a1 2)) (C := RX7) (T := TX7) (N := 33) hx hb hts iX7 hown hK hP 0 rfl rfl 1 (by decide) (hts _ aw737) (fun _ h9 => h9) rfl dX7_costOfRows_102 ?_
              refine lv_iconst (v := 1) hx hb dX7_costOfRows_105 (by decide) ?_
              refine z_ialdc hx hb hK hP 2 rfl (i := 1) (k := 1) (by decide) (Nat.le_of_ble_eq_true rfl) dX7_costOfRows_106 ?_
              refine lv_iadd hx hb dX7_costOfRows_107 ?_
              refine lv_aload_n hx hb dX7_costOfRows_108 rfl (lv_at hl 1 rfl) ?_
              refine lv_iload hx hb dX7_costOfRows_109 (lv_at hl 5 rfl) ?_
              refine lv_bipush (v := 10) hx hb dX7_costOfRows_111 (by decide) ?_
              obtain ⟨r19, q20, hf⟩ := bd_use hf
              have hfo : Foc (WMod z a1 m1) (WMod z a1 m1) (WMod z a1 m1) (WMod z a1 m1) := foc_all
              refine z_goI (ws1 := (WMod z a1 m1)) (va_runV (As := [.int x12, .int 10]) (rest := [.int (x17 + (m1 2 1))]) ⟨hx, hb, hml, hown, hts⟩ (tX7_boilTime l D z tt a1 m1 x12 10 fu r19 q20 _) (cwV 2 hts (gV4 aw984 aw986 aw26 aw52 aw987) rfl rfl rfl (by decide +kernel) ⟨Nat.le_of_ble_eq_true rfl, Nat.le_of_ble_eq_true rfl⟩) (z_preV hK hP hD hS hA hT hN hfo (va_recv hK hP (ci := 7) (q0 := 0) rfl rfl)) rfl rfl hl.1 rfl (lv_room (Nat.le_of_ble_eq_true rfl)) dX7_costOfRows_113 ⟨Nat.zero_le _, Nat.zero_le _⟩) hP hD hS hA hfo (fun H locs hP hD hS => ?_)
              refine lv_iadd hx hb dX7_costOfRows_116 ?_
              refine lv_topi (fun x21 ex21 => ?_)
              have hf := lt_use ex21 hf
              refine lv_istore_n (lv' := [(3, .int x21), (7, .int x17), (0, .ref (a1 0)), (1, .int p1), (2, .int x1), (4, .int x3), (5, .int x12), (6, .int x5)]) hx hb dX7_costOfRows_117 rfl hl (by decide) rfl (fun ls hl => ?_)
              obtain ⟨x22, ex22⟩ : ∃ y : Int32, y = x1 + 3 := ⟨_, rfl⟩
              have hf := lt_use ex22 hf
              refine lv_iinc (v := x22) (lv' := [(2, .int x22), (3, .int x21), (7, .int x17), (0, .ref (a1 0)), (1, .int p1), (4, .int x3), (5, .int x12), (6, .int x5)]) hx hb dX7_costOfRows_118 hl (k := 4) rfl (by rw [ex22]; rfl) (by decide) rfl (fun ls hl => ?_)
              refine lv_iload hx hb dX7_costOfRows_121 (lv_at hl 5 rfl) ?_
              refine lv_istore (lv' := [(8, .int x3), (2, .int x22), (3, .int x21), (7, .int x17), (0, .ref (a1 0)), (1, .int p1), (4, .int x3), (5, .int x12), (6, .int x5)]) hx hb dX7_costOfRows_123 hl (by decide) rfl (fun ls hl => ?_)
              obtain ⟨F25, eF25, hf⟩ := zl2_use hf
              have L125_F25 : ∀ (n : Nat) (x23 : Int32) (x24 : Int32) (H : Heap) (locs : List Loc), va_P D vwCl (WMod z a1 m1) H → va_D A (WMod z a1 m1) → va_S A s.heap H locs → ∀ (ls : Array Slot), lv_has ls 9 [(0, .ref (a1 0)), (1, .int p1), (2, .int x23), (3, .int x21), (6, .int x5), (8, .int x24)] → zl2 F25 n x23 x24 = some rr → GI p l e (headSpec wsX7_costOfRows ({ frames := 1, cells := 0, slots := 0, locals := 23 } : Room)).room s m ([.ref (a1 0), .int p1] : List Value).toArray below meth c A D z rr (WMod z a1 m1) H locs (F0 m 125 ls []) := by
                intro n
                induction n with
                | zero =>
                  intro x23 x24 H locs hP hD hS ls hl hf
                  exact no_none hf
                | succ n ih27 =>
                  intro x23 x24 H locs hP hD hS ls hl hf
                  have hf := zl2_s eF25 hf
                  refine lv_iload hx hb dX7_costOfRows_125 (lv_at hl 5 rfl) ?_
                  refine lv_iload hx hb dX7_costOfRows_127 (lv_at hl 4 rfl) ?_
                  refine lv_icmp_gt (tgt := 162) hx hb dX7_costOfRows_129 (by decide) (fun c28 => ?_) (fun c28 => ?_)
                  · have hf := if_t c28 hf
                    refine lv_iload hx hb dX7_costOfRows_162 (lv_at hl 4 rfl) ?_
                    refine lv_iconst (v := 1) hx hb dX7_costOfRows_164 (by decide) ?_
                    refine lv_iadd hx hb dX7_costOfRows_165 ?_
                    refine lv_topi (fun x29 ex29 => ?_)
                    have hf := lt_use ex29 hf
                    refine lv_istore (lv' := [(4, .int x29), (0, .ref (a1 0)), (1, .int p1), (2, .int x23), (3, .int x21), (6, .int x5), (8, .int x24)]) hx hb dX7_costOfRows_166 hl (by decide) rfl (fun ls hl => ?_)
                    refine lv_iconst (v := 0) hx hb dX7_costOfRows_168 (by decide) ?_
                    refine lv_istore (lv' := [(5, .int 0), (4, .int x29), (0, .ref (a1 0)), (1, .int p1), (2, .int x23), (3, .int x21), (6, .int x5), (8, .int x24)]) hx hb dX7_costOfRows_169 hl (by decide) rfl (fun ls hl => ?_)
                    obtain ⟨x30, ex30⟩ : ∃ y : Int32, y = x5 + 1 := ⟨_, rfl⟩
                    have hf := lt_use ex30 hf
                    refine lv_iinc (v := x30) (lv' := [(6, .int x30), (5, .int 0), (4, .int x29), (0, .ref (a1 0)), (1, .int p1), (2, .int x23), (3, .int x21), (8, .int x24)]) hx hb dX7_costOfRows_171 hl (k := 6) rfl (by rw [ex30]; rfl) (by decide) rfl (fun ls hl => ?_)
                    refine lv_goto (tgt := 13) hx hb dX7_costOfRows_174 (by decide) ?_
                    exact ih8 _ _ _ _ _ _ _ hP hD hS _ (lv_sub hl [3, 4, 5, 6, 2, 1, 0] rfl) hf
                  · have hf := if_f c28 hf
                    refine lv_iload_n hx hb dX7_costOfRows_132 rfl (lv_at hl 2 rfl) ?_
                    refine lv_iload_n hx hb dX7_costOfRows_133 rfl (lv_at hl 3 rfl) ?_
                    refine lv_aload_n hx hb dX7_costOfRows_134 rfl (lv_at hl 0 rfl) ?_
                    refine va_get (D := D) (ci := 7) (v := .ref (a1 5)) (C := RX7) (T := TX7) (N := 33) hx hb hts iX7 hown hK hP 0 rfl rfl 4 (by decide) (hts _ aw740) (fun _ h9 => h9) rfl dX7_costOfRows_135 ?_
                    refine lv_aload_n hx hb dX7_costOfRows_138 rfl (lv_at hl 0 rfl) ?_
                    refine va_get (D := D) (ci := 7) (v := .ref (a1 21)) (C := RX7) (T := TX7) (N := 33) hx hb hts iX7 hown hK hP 0 rfl rfl 30 (by decide) (hts _ aw766) (fun _ h9 => h9) rfl dX7_costOfRows_139 ?_
                    refine lv_iload hx hb dX7_costOfRows_142 (lv_at hl 5 rfl) ?_
                    obtain ⟨h31, hf⟩ := ck_use hf
                    refine z_iald hx hb hK hP 21 rfl h31 dX7_costOfRows_144 ?_
                    obtain ⟨h32, hf⟩ := ck_use hf
                    refine z_iald hx hb hK hP 5 rfl h32 dX7_costOfRows_145 ?_
                    refine lv_isub hx hb dX7_costOfRows_146 ?_
                    refine lv_aload_n hx hb dX7_costOfRows_147 rfl (lv_at hl 0 rfl) ?_
                    refine va_get (D := D) (ci := 7) (v := .ref (a1 2)) (C := RX7) (T := TX7) (N := 33) hx hb hts iX7 hown hK hP 0 rfl rfl 1 (by decide) (hts _ aw737) (fun _ h9 => h9) rfl dX7_costOfRows_148 ?_
                    refine lv_iconst (v := 4) hx hb dX7_costOfRows_151 (by decide) ?_
                    refine z_ialdc hx hb hK hP 2 rfl (i := 4) (k := 4) (by decide) (Nat.le_of_ble_eq_true rfl) dX7_costOfRows_152 ?_
                    refine lv_imul hx hb dX7_costOfRows_153 ?_
                    refine lv_iadd hx hb dX7_costOfRows_154 ?_
                    refine lv_topi (fun x33 ex33 => ?_)
                    have hf := lt_use ex33 hf
                    refine lv_istore_n (lv' := [(2, .int x33), (0, .ref (a1 0)), (1, .int p1), (3, .int x21), (6, .int x5), (8, .int x24)]) hx hb dX7_costOfRows_155 rfl hl (by decide) rfl (fun ls hl => ?_)
                    obtain ⟨x34, ex34⟩ : ∃ y : Int32, y = x24 + 1 := ⟨_, rfl⟩
                    have hf := lt_use ex34 hf
                    refine lv_iinc (v := x34) (lv' := [(8, .int x34), (2, .int x33), (0, .ref (a1 0)), (1, .int p1), (3, .int x21), (6, .int x5)]) hx hb dX7_costOfRows_156 hl (k := 5) rfl (by rw [ex34]; rfl) (by decide) rfl (fun ls hl => ?_)
                    refine lv_goto (tgt := 125) hx hb dX7_costOfRows_159 (by decide) ?_
                    exact ih27 _ _ _ _ hP hD hS _ (lv_sub hl [2, 3, 1, 4, 5, 0] rfl) hf
              exact L125_F25 fu _ _ _ _ hP hD hS _ (lv_sub hl [4, 5, 1, 2, 8, 0] rfl) hf
            refine lv_icmp_le (tgt := 96) hx hb dX7_costOfRows_78 (by decide) (fun c35 => ?_) (fun c35 => ?_)
            · have hf := if_t c35 hf
              refine lv_iload_n hx hb dX7_costOfRows_96 rfl (lv_at hl 4 rfl) ?_
              exact B97_k18 _ _ _ hP hD hS _ (lv_sub hl [1, 2, 3, 5, 0, 6] rfl) hf
            · have hf := if_f c35 hf
              refine lv_aload_n hx hb dX7_costOfRows_81 rfl (lv_at hl 1 rfl) ?_
              refine va_get (D := D) (ci := 7) (v := .ref (a1 5)) (C := RX7) (T := TX7) (N := 33) hx hb hts iX7 hown hK hP 0 rfl rfl 4 (by decide) (hts _ aw740) (fun _ h9 => h9) rfl dX7_costOfRows_82 ?_
              refine lv_aload_n hx hb dX7_costOfRows_85 rfl (lv_at hl 1 rfl) ?_
              refine va_get (D := D) (ci := 7) (v := .ref (a1 21)) (C := RX7) (T := TX7) (N := 33) hx hb hts iX7 hown hK hP 0 rfl rfl 30 (by decide) (hts _ aw766) (fun _ h9 => h9) rfl dX7_costOfRows_86 ?_
              refine lv_iload hx hb dX7_costOfRows_89 (lv_at hl 6 rfl) ?_
              obtain ⟨h36, hf⟩ := ck_use hf
              refine z_iald hx hb hK hP 21 rfl h36 dX7_costOfRows_91 ?_
              obtain ⟨h37, hf⟩ := ck_use hf
              refine z_iald hx hb hK hP 5 rfl h37 dX7_costOfRows_92 ?_
              refine lv_goto (tgt := 97) hx hb dX7_costOfRows_93 (by decide) ?_
              exact B97_k18 _ _ _ hP hD hS _ (lv_sub hl [1, 2, 3, 5, 0, 6] rfl) hf
          · have hf := if_f c14 hf
            refine lv_ldc (v := 1000000000) hx hb hown (hts _ aw1036) dX7_costOfRows_62 ?_
            obtain rfl := so1 hf
            exact ret_i hx hb hr hlocks hK hP hD hS dX7_costOfRows_64
        · have hf := if_t c13 hf
          refine lv_goto (tgt := 171) hx hb dX7_costOfRows_48 (by decide) ?_
          obtain ⟨x38, ex38⟩ : ∃ y : Int32, y = x5 + 1 := ⟨_, rfl⟩
          have hf := lt_use ex38 hf
          refine lv_iinc (v := x38) (lv' := [(6, .int x38), (5, .int x12), (0, .ref (a1 0)), (1, .int p1), (2, .int x1), (3, .int x2), (4, .int x3)]) hx hb dX7_costOfRows_171 hl (k := 6) rfl (by rw [ex38]; rfl) (by decide) rfl (fun ls hl => ?_)
          refine lv_goto (tgt := 13) hx hb dX7_costOfRows_174 (by decide) ?_
          exact ih8 _ _ _ _ _ _ _ hP hD hS _ (lv_sub hl [2, 3, 4, 5, 6, 1, 0] rfl) hf
  exact L13_F6 fu _ _ _ _ _ _ _ hP hD hS _ (lv_sub hl [5, 6, 4, 3, 2, 1, 0] rfl) hf
def pX7_least (fu : Nat) (m1 : Mem) (p1 : Int32) : Option (Int32 × Mem) :=
  bd (pX7_isIn fu p1 0 1) fun r1 =>
  if r1 = 0 then
    bd2 (pX7_no fu m1 (-2)) fun r32 y33 =>
    some (r32, y33)
  else
    zl1 (fun g6 (x4 : Int32) =>
      if (m1 0 15) ≤ x4 then
        if (m1 0 15) = 0 then
          some (0, m1)
        else
          bd (pX7_sorts fu m1) fun y10 =>
          lt' ((1 <<< (((y10 0 15) - 1) &&& 31)) : Int32) fun x12 =>
          zl3 (fun g17 (x13 : Int32) (x14 : Int32) (x15 : Int32) =>
            if (1 <<< ((y10 0 15) &&& 31)) ≤ x15 then
              if p1 = 0 then
                some (x14, y10)
              else
                some (x13, y10)
            else
              bd (pX7_costOfRows fu y10 x15) fun r21 =>
              if r21 < x14 then
                lt' (x15 + 1) fun x24 =>
                g17 x15 r21 x24
              else
                lt' (x15 + 1) fun x25 =>
                g17 x13 x14 x25) fu 0 1000000000 x12
      else
        ck x4 8 <|
        if (m1 6 x4.toNatClampNeg) ≤ (m1 2 0) then
          lt' (x4 + 1) fun x28 =>
          g6 x28
        else
          bd2 (pX7_no fu m1 (-3)) fun r29 y30 =>
          some (r29, y30)) fu 0
set_option maxHeartbeats 4000000 in
set_option maxRecDepth 100000 in
theorem tX7_least (l : Launch) (D : va_G) (z tt : Nat → Nat) (a1 : Nat → Nat) (m1 : Mem) (p1 : Int32) (fu : Nat) (rr : Int32) (m1' : Mem) (hf : pX7_least fu m1 p1 = some (rr, m1')) : MetI l yX7_least wsX7_least ({ frames := 2, cells := 0, slots := 0, locals := 51 } : Room) D z tt ([.ref (a1 0), .int p1] : List Value) (WMod z a1 m1) rr (WMod z a1 m1') := by
  intro sz
  refine Met.ofW (cc := cX7_least) (maxL := 6) (ret := (some .int)) (by decide) rfl ?_
  intro p e s m args below meth c s₁ B hml hv
  obtain ⟨rfl, hsz, hP, hK, hD0, hT, hN⟩ := hv
  have hx := B.exec
  have hb := B.bytes
  have hr := B.returns
  have hts : ∀ w ∈ wsA, w.before ([.ref (a1 0), .int p1] : List Value).toArray s = true := fun w h => atoms_spec (ws := wsX7_least) B.pre w (List.mem_cons_of_mem _ h)
  have hown : s.vm.findClass RX7 = some m.cls := findClass_of_methodNamed B.named
  have hlocks := B.notSynchronized
  subst hsz
  have hD := hD0.self (sz := s.heap.size)
  generalize hAe : va_A (WMod z a1 m1) s.heap.size = A at hD hT ⊢
  have hA : ∀ q : Nat, s.heap.size ≤ q → A q := fun q h => by rw [← hAe]; exact Or.inr h
  have hS : va_S A s.heap s.heap [] := va_S.rf
  have hl := lv_entry ([.ref (a1 0), .int p1] : List Value) (n := 6) (Nat.le_of_ble_eq_true rfl)
  rw [lg_entry_eq]
  generalize (lg_sl ([.ref (a1 0), .int p1] : List Value) ++ List.replicate (6 - (lg_sl ([.ref (a1 0), .int p1] : List Value)).length) Slot.unset).toArray = ls at hl ⊢
  have hl : lv_has ls 6 [(0, .ref (a1 0)), (1, .int p1)] := hl
  unfold pX7_least at hf
  refine lv_iload_n hx hb dX7_least_0 rfl (lv_at hl 1 rfl) ?_
  refine lv_iconst (v := 0) hx hb dX7_least_1 (by decide) ?_
  refine lv_iconst (v := 1) hx hb dX7_least_2 (by decide) ?_
  obtain ⟨r1, q2, hf⟩ := bd_use hf
  have hfo : Foc (WMod z a1 m1) ([] : va_W) (WMod z a1 m1) ([] : va_W) := foc_nil
  refine z_goI (ws1 := (WMod z a1 m1)) (va_runS (As := [.int p1, .int 0, .int 1]) (rest := []) ⟨hx, hb, hml, hown, hts⟩ (tX7_isIn l D z tt  p1 0 1 fu r1 q2 _) (va_cwS 3 hts (gS3 aw867 aw868 aw52 aw869) rfl rfl rfl (by decide +kernel) ⟨Nat.le_of_ble_eq_true rfl, Nat.le_of_ble_eq_true rfl⟩) (z_preS hK hP hD hS hA hT hN hfo) rfl rfl hl.1 rfl (lv_room (Nat.le_of_ble_eq_true rfl)) dX7_least_3 ⟨Nat.zero_le _, Nat.zero_le _⟩) hP hD hS hA hfo (fun H locs hP hD hS => ?_)
  refine lv_if_ne (tgt := 16) hx hb dX7_least_6 (by decide) (fun c3 => ?_) (fun c3 => ?_)
  · have hf := if_f c3 hf
    refine lv_iconst (v := 0) hx hb dX7_least_16 (by decide) ?_
    refine lv_istore_n (lv' := [(2, .int 0), (0, .ref (a1 0)), (1, .int p1)]) hx hb dX7_least_17 rfl hl (by decide) rfl (fun ls hl => ?_)
    obtain ⟨F5, eF5, hf⟩ := zl1_use hf
    have L18_F5 : ∀ (n : Nat) (x4 : Int32) (H : Heap) (locs : List Loc), va_P D vwCl (WMod z a1 m1) H → va_D A (WMod z a1 m1) → va_S A s.heap H locs → ∀ (ls : Array Slot), lv_has ls 6 [(0, .ref (a1 0)), (1, .int p1), (2, .int x4)] → zl1 F5 n x4 = some (rr, m1') → GI p l e (headSpec wsX7_least ({ frames := 2, cells := 0, slots := 0, locals := 51 } : Room)).room s m ([.ref (a1 0), .int p1] : List Value).toArray below meth c A D z rr (WMod z a1 m1') H locs (F0 m 18 ls []) := by
      intro n
      induction n with
      | zero =>
        intro x4 H locs hP hD hS ls hl hf
        exact no_none hf
      | succ n ih7 =>
        intro x4 H locs hP hD hS ls hl hf
        have hf := zl1_s eF5 hf
        refine lv_iload_n hx hb dX7_least_18 rfl (lv_at hl 2 rfl) ?_
        refine lv_aload_n hx hb dX7_least_19 rfl (lv_at hl 0 rfl) ?_
        refine va_get (D := D) (ci := 7) (v := .int (m1 0 15)) (C := RX7) (T := TX7) (N := 33) hx hb hts iX7 hown hK hP 0 rfl rfl 15 (by decide) (hts _ aw751) (fun _ h9 => h9) rfl dX7_least_20 ?_
        refine lv_icmp_ge (tgt := 54) hx hb dX7_least_23 (by decide) (fun c8 => ?_) (fun c8 => ?_)
        · have hf := if_t c8 hf
          refine lv_aload_n hx hb dX7_least_54 rfl (lv_at hl 0 rfl) ?_
          refine va_get (D := D) (ci := 7) (v := .int (m1 0 15)) (C := RX7) (T := TX7) (N := 33) hx hb hts iX7 hown hK hP 0 rfl rfl 15 (by decide) (hts _ aw751) (fun _ h9 => h9) rfl dX7_least_55 ?_
          refine lv_if_ne (tgt := 63) hx hb dX7_least_58 (by decide) (fun c9 => ?_) (fun c9 => ?_)
          · have hf := if_f c9 hf
            refine lv_aload_n hx hb dX7_least_63 rfl (lv_at hl 0 rfl) ?_
            obtain ⟨y10, q11, hf⟩ := bd_use hf
            have hfo : Foc (WMod z a1 m1) (WMod z a1 m1) (WMod z a1 y10) (WMod z a1 y10) := foc_all
            refine z_goV (ws1 := (WMod z a1 y10)) (va_runV (As := []) (rest := []) ⟨hx, hb, hml, hown, hts⟩ (tX7_sorts l D z tt a1 m1  fu y10 q11 _) (cwV 0 hts (gV4 aw1081 aw1083 aw40 aw52 aw1084) rfl rfl rfl (by decide +kernel) ⟨Nat.le_of_ble_eq_true rfl, Nat.le_of_ble_eq_true rfl⟩) (z_preV hK hP hD hS hA hT hN hfo (va_recv hK hP (ci := 7) (q0 := 0) rfl rfl)) rfl rfl hl.1 rfl (lv_room (Nat.le_of_ble_eq_true rfl)) dX7_least_64 ⟨Nat.zero_le _, Nat.zero_le _⟩) hP hD hS hA hfo (fun H locs hP hD hS => ?_)
            refine lv_iconst (v := 0) hx hb dX7_least_67 (by decide) ?_
            refine lv_istore_n (lv' := [(2, .int 0), (0, .ref (a1 0)), (1, .int p1)]) hx hb dX7_least_68 rfl hl (by decide) rfl (fun ls hl => ?_)
            refine lv_ldc (v := 1000000000) hx hb hown (hts _ aw1036) dX7_least_69 ?_
            refine lv_istore_n (lv' := [(3, .int 1000000000), (2, .int 0), (0, .ref (a1 0)), (1, .int p1)]) hx hb dX7_least_71 rfl hl (by decide) rfl (fun ls hl => ?_)
            refine lv_iconst (v := 1) hx hb dX7_least_72 (by decide) ?_
            refine lv_aload_n hx hb dX7_least_73 rfl (lv_at hl 2 rfl) ?_
            refine va_get (D := D) (ci := 7) (v := .int (y10 0 15)) (C := RX7) (T := TX7) (N := 33) hx hb hts iX7 hown hK hP 0 rfl rfl 15 (by decide) (hts _ aw751) (fun _ h9 => h9) rfl dX7_least_74 ?_
            refine lv_iconst (v := 1) hx hb dX7_least_77 (by decide) ?_
            refine lv_isub hx hb dX7_least_78 ?_
            refine lv_ishl hx hb dX7_least_79 ?_
            refine lv_topi (fun x12 ex12 => ?_)
            have hf := lt_use ex12 hf
            refine lv_istore (lv' := [(4, .int x12), (3, .int 1000000000), (2, .int 0), (0, .ref (a1 0)), (1, .int p1)]) hx hb dX7_least_80 hl (by decide) rfl (fun ls hl => ?_)
            obtain ⟨F16, eF16, hf⟩ := zl3_use hf
            have L82_F16 : ∀ (n : Nat) (x13 : Int32) (x14 : Int32) (x15 : Int32) (H : Heap) (locs : List Loc), va_P D vwCl (WMod z a1 y10) H → va_D A (WMod z a1 y10) → va_S A s.heap H locs → ∀ (ls : Array Slot), lv_has ls 6 [(0, .ref (a1 0)), (1, .int p1), (2, .int x13), (3, .int x14), (4, .int x15)] → zl3 F16 n x13 x14 x15 = some (rr, m1') → GI p l e (headSpec wsX7_least ({ frames := 2, cells := 0, slots := 0, locals := 51 } : Room)).room s m ([.ref (a1 0), .int p1] : List Value).toArray below meth c A D z rr (WMod z a1 m1') H locs (F0 m 82 ls []) := by
              intro n
              induction n with
              | zero =>
                intro x13 x14 x15 H locs hP hD hS ls hl hf
                exact no_none hf
              | succ n ih18 =>
                intro x13 x14 x15 H locs hP hD hS ls hl hf
                have hf := zl3_s eF16 hf
                refine lv_iload hx hb dX7_least_82 (lv_at hl 4 rfl) ?_
                refine lv_iconst (v := 1) hx hb dX7_least_84 (by decide) ?_
                refine lv_aload_n hx hb dX7_least_85 rfl (lv_at hl 0 rfl) ?_
                refine va_get (D := D) (ci := 7) (v := .int (y10 0 15)) (C := RX7) (T := TX7) (N := 33) hx hb hts iX7 hown hK hP 0 rfl rfl 15 (by decide) (hts _ aw751) (fun _ h9 => h9) rfl dX7_least_86 ?_
                refine lv_ishl hx hb dX7_least_89 ?_
                refine lv_icmp_ge (tgt := 122) hx hb dX7_least_90 (by decide) (fun c19 => ?_) (fun c19 => ?_)
                · have hf := if_t c19 hf
                  refine lv_iload_n hx hb dX7_least_122 rfl (lv_at hl 1 rfl) ?_
                  refine lv_if_ne (tgt := 130) hx hb dX7_least_123 (by decide) (fun c20 => ?_) (fun c20 => ?_)
                  · have hf := if_f c20 hf
                    refine lv_iload_n hx hb dX7_least_130 rfl (lv_at hl 2 rfl) ?_
                    obtain ⟨rfl, rfl⟩ := so2 hf
                    exact ret_i hx hb hr hlocks hK hP hD hS dX7_least_131
                  · have hf := if_t c20 hf
                    refine lv_iload_n hx hb dX7_least_126 rfl (lv_at hl 3 rfl) ?_
                    refine lv_goto (tgt := 131) hx hb dX7_least_127 (by decide) ?_
                    obtain ⟨rfl, rfl⟩ := so2 hf
                    exact ret_i hx hb hr hlocks hK hP hD hS dX7_least_131
                · have hf := if_f c19 hf
                  refine lv_aload_n hx hb dX7_least_93 rfl (lv_at hl 0 rfl) ?_
                  refine lv_iload hx hb dX7_least_94 (lv_at hl 4 rfl) ?_
                  obtain ⟨r21, q22, hf⟩ := bd_use hf
                  have hfo : Foc (WMod z a1 y10) (WMod z a1 y10) (WMod z a1 y10) (WMod z a1 y10) := foc_all
                  refine z_goI (ws1 := (WMod z a1 y10)) (va_runV (As := [.int x15]) (rest := []) ⟨hx, hb, hml, hown, hts⟩ (tX7_costOfRows l D z tt a1 y10 x15 fu r21 q22 _) (cwV 1 hts (gV4 aw1085 aw1087 aw41 aw52 aw1088) rfl rfl rfl (by decide +kernel) ⟨Nat.le_of_ble_eq_true rfl, Nat.le_of_ble_eq_true rfl⟩) (z_preV hK hP hD hS hA hT hN hfo (va_recv hK hP (ci := 7) (q0 := 0) rfl rfl)) rfl rfl hl.1 rfl (lv_room (Nat.le_of_ble_eq_true rfl)) dX7_least_96 ⟨Nat.zero_le _, Nat.zero_le _⟩) hP hD hS hA hfo (fun H locs hP hD hS => ?_)
                  refine lv_istore (lv' := [(5, .int r21), (0, .ref (a1 0)), (1, .int p1), (2, .int x13), (3, .int x14), (4, .int x15)]) hx hb dX7_least_99 hl (by decide) rfl (fun ls hl => ?_)
                  refine lv_iload hx hb dX7_least_101 (lv_at hl 0 rfl) ?_
                  refine lv_iload_n hx hb dX7_least_103 rfl (lv_at hl 4 rfl) ?_
                  refine lv_icmp_lt (tgt := 110) hx hb dX7_least_104 (by decide) (fun c23 => ?_) (fun c23 => ?_)
                  · have hf := if_t c23 hf
                    refine lv_iload hx hb dX7_least_110 (lv_at hl 5 rfl) ?_
                    refine lv_istore_n (lv' := [(2, .int x15), (5, .int r21), (0, .ref (a1 0)), (1, .int p1), (3, .int x14), (4, .int x15)]) hx hb dX7_least_112 rfl hl (by decide) rfl (fun ls hl => ?_)
                    refine lv_iload hx hb dX7_least_113 (lv_at hl 1 rfl) ?_
                    refine lv_istore_n (lv' := [(3, .int r21), (2, .int x15), (5, .int r21), (0, .ref (a1 0)), (1, .int p1), (4, .int x15)]) hx hb dX7_least_115 rfl hl (by decide) rfl (fun ls hl => ?_)
                    obtain ⟨x24, ex24⟩ : ∃ y : Int32, y = x15 + 1 := ⟨_, rfl⟩
                    have hf := lt_use ex24 hf
                    refine lv_iinc (v := x24) (lv' := [(4, .int x24), (3, .int r21), (2, .int x15), (5, .int r21), (0, .ref (a1 0)), (1, .int p1)]) hx hb dX7_least_116 hl (k := 5) rfl (by rw [ex24]; rfl) (by decide) rfl (fun ls hl => ?_)
                    refine lv_goto (tgt := 82) hx hb dX7_least_119 (by decide) ?_
                    exact ih18 _ _ _ _ _ hP hD hS _ (lv_sub hl [4, 5, 2, 1, 0] rfl) hf
                  · have hf := if_f c23 hf
                    refine lv_goto (tgt := 116) hx hb dX7_least_107 (by decide) ?_
                    obtain ⟨x25, ex25⟩ : ∃ y : Int32, y = x15 + 1 := ⟨_, rfl⟩
                    have hf := lt_use ex25 hf
                    refine lv_iinc (v := x25) (lv' := [(4, .int x25), (5, .int r21), (0, .ref (a1 0)), (1, .int p1), (2, .int x13), (3, .int x14)]) hx hb dX7_least_116 hl (k := 5) rfl (by rw [ex25]; rfl) (by decide) rfl (fun ls hl => ?_)
                    refine lv_goto (tgt := 82) hx hb dX7_least_119 (by decide) ?_
                    exact ih18 _ _ _ _ _ hP hD hS _ (lv_sub hl [2, 3, 4, 5, 0] rfl) hf
            exact L82_F16 fu _ _ _ _ _ hP hD hS _ (lv_sub hl [3, 4, 2, 1, 0] rfl) hf
          · have hf := if_t c9 hf
            refine lv_iconst (v := 0) hx hb dX7_least_61 (by decide) ?_
            obtain ⟨rfl, rfl⟩ := so2 hf
            exact ret_i hx hb hr hlocks hK hP hD hS dX7_least_62
        · have hf := if_f c8 hf
          refine lv_aload_n hx hb dX7_least_26 rfl (lv_at hl 0 rfl) ?_
          refine va_get (D := D) (ci := 7) (v := .ref (a1 6)) (C := RX7) (T := TX7) (N := 33) hx hb hts iX7 hown hK hP 0 rfl rfl 5 (by decide) (hts _ aw741) (fun _ h9 => h9) rfl dX7_least_27 ?_
          refine lv_iload_n hx hb dX7_least_30 rfl (lv_at hl 2 rfl) ?_
          obtain ⟨h26, hf⟩ := ck_use hf
          refine z_iald hx hb hK hP 6 rfl h26 dX7_least_31 ?_
          refine lv_aload_n hx hb dX7_least_32 rfl (lv_at hl 0 rfl) ?_
          refine va_get (D := D) (ci := 7) (v := .ref (a1 2)) (C := RX7) (T := TX7) (N := 33) hx hb hts iX7 hown hK hP 0 rfl rfl 1 (by decide) (hts _ aw737) (fun _ h9 => h9) rfl dX7_least_33 ?_
          refine lv_iconst (v := 0) hx hb dX7_least_36 (by decide) ?_
          refine z_ialdc hx hb hK hP 2 rfl (i := 0) (k := 0) (by decide) (Nat.le_of_ble_eq_true rfl) dX7_least_37 ?_
          refine lv_icmp_le (tgt := 48) hx hb dX7_least_38 (by decide) (fun c27 => ?_) (fun c27 => ?_)
          · have hf := if_t c27 hf
            obtain ⟨x28, ex28⟩ : ∃ y : Int32, y = x4 + 1 := ⟨_, rfl⟩
            have hf := lt_use ex28 hf
            refine lv_iinc (v := x28) (lv' := [(2, .int x28), (0, .ref (a1 0)), (1, .int p1)]) hx hb dX7_least_48 hl (k := 2) rfl (by rw [ex28]; rfl) (by decide) rfl (fun ls hl => ?_)
            refine lv_goto (tgt := 18) hx hb dX7_least_51 (by decide) ?_
            exact ih7 _ _ _ hP hD hS _ (lv_sub hl [1, 2, 0] rfl) hf
          · have hf := if_f c27 hf
            refine lv_aload_n hx hb dX7_least_41 rfl (lv_at hl 0 rfl) ?_
            refine lv_bipush (v := (-3)) hx hb dX7_least_42 (by decide) ?_
            obtain ⟨r29, y30, q31, hf⟩ := bd2_use hf
            have hfo : Foc (WMod z a1 m1) (WMod z a1 m1) (WMod z a1 y30) (WMod z a1 y30) := foc_all
            refine z_goI (ws1 := (WMod z a1 y30)) (va_runV (As := [.int (-3)]) (rest := []) ⟨hx, hb, hml, hown, hts⟩ (tX7_no l D z tt a1 m1 (-3) fu r29 y30 q31 _) (cwV 1 hts (gV4 aw843 aw845 aw1 aw52 aw846) rfl rfl rfl (by decide +kernel) ⟨Nat.le_of_ble_eq_true rfl, Nat.le_of_ble_eq_true rfl⟩) (z_preV hK hP hD hS hA hT hN hfo (va_recv hK hP (ci := 7) (q0 := 0) rfl rfl)) rfl rfl hl.1 rfl (lv_room (Nat.le_of_ble_eq_true rfl)) dX7_least_44 ⟨Nat.zero_le _, Nat.zero_le _⟩) hP hD hS hA hfo (fun H locs hP hD hS => ?_)
            obtain ⟨rfl, rfl⟩ := so2 hf
            exact ret_i hx hb hr hlocks hK hP hD hS dX7_least_47
    exact L18_F5 fu _ _ _ hP hD hS _ (lv_sub hl [1, 2, 0] rfl) hf
  · have hf := if_t c3 hf
    refine lv_aload_n hx hb dX7_least_9 rfl (lv_at hl 0 rfl) ?_
    refine lv_bipush (v := (-2)) hx hb dX7_least_10 (by decide) ?_
    obtain ⟨r32, y33, q34, hf⟩ := bd2_use hf
    have hfo : Foc (WMod z a1 m1) (WMod z a1 m1) (WMod z a1 y33) (WMod z a1 y33) := foc_all
    refine z_goI (ws1 := (WMod z a1 y33)) (va_runV (As := [.int (-2)]) (rest := []) ⟨hx, hb, hml, hown, hts⟩ (tX7_no l D z tt a1 m1 (-2) fu r32 y33 q34 _) (cwV 1 hts (gV4 aw843 aw845 aw1 aw52 aw846) rfl rfl rfl (by decide +kernel) ⟨Nat.le_of_ble_eq_true rfl, Nat.le_of_ble_eq_true rfl⟩) (z_preV hK hP hD hS hA hT hN hfo (va_recv hK hP (ci := 7) (q0 := 0) rfl rfl)) rfl rfl hl.1 rfl (lv_room (Nat.le_of_ble_eq_true rfl)) dX7_least_12 ⟨Nat.zero_le _, Nat.zero_le _⟩) hP hD hS hA hfo (fun H locs hP hD hS => ?_)
    obtain ⟨rfl, rfl⟩ := so2 hf
    exact ret_i hx hb hr hlocks hK hP hD hS dX7_least_15
def pX7_ferryBy (fu : Nat) (m1 : Mem) (p1 : Int32) (p2 : Int32) : Option (Int32 × Mem) :=
  bd (pX7_sorts fu m1) fun y1 =>
  zl2 (fun g6 (x3 : Int32) (x4 : Int32) =>
    if (y1 0 15) ≤ x4 then
      some (x3, y1)
    else
      ckn p1 <|
      lt' (((((x4 / p1) * p1) + p1) - 1) : Int32) fun x10 =>
      jn1 (fun (x11 : Int32) =>
        ck x4 8 <|
        ck (y1 21 x4.toNatClampNeg) 8 <|
        lt' ((x3 + (x11 - (y1 5 (y1 21 x4.toNatClampNeg).toNatClampNeg))) : Int32) fun x15 =>
        lt' (x4 + 1) fun x16 =>
        g6 x15 x16) fun k12 =>
      if (y1 0 15) ≤ x10 then
        ck ((y1 0 15) - 1) 8 <|
        ck (y1 21 ((y1 0 15) - 1).toNatClampNeg) 8 <|
        k12 ((y1 5 (y1 21 ((y1 0 15) - 1).toNatClampNeg).toNatClampNeg) + p2)
      else
        ck x10 8 <|
        ck (y1 21 x10.toNatClampNeg) 8 <|
        k12 (y1 5 (y1 21 x10.toNatClampNeg).toNatClampNeg)) fu 0 0
set_option maxHeartbeats 4000000 in
set_option maxRecDepth 100000 in
theorem tX7_ferryBy (l : Launch) (D : va_G) (z tt : Nat → Nat) (a1 : Nat → Nat) (m1 : Mem) (p1 : Int32) (p2 : Int32) (fu : Nat) (rr : Int32) (m1' : Mem) (hf : pX7_ferryBy fu m1 p1 p2 = some (rr, m1')) : MetI l yX7_ferryBy wsX7_ferryBy ({ frames := 1, cells := 0, slots := 0, locals := 22 } : Room) D z tt ([.ref (a1 0), .int p1, .int p2] : List Value) (WMod z a1 m1) rr (WMod z a1 m1') := by
  intro sz
  refine Met.ofW (cc := cX7_ferryBy) (maxL := 7) (ret := (some .int)) (by decide) rfl ?_
  intro p e s m args below meth c s₁ B hml hv
  obtain ⟨rfl, hsz, hP, hK, hD0, hT, hN⟩ := hv
  have hx := B.exec
  have hb := B.bytes
  have hr := B.returns
  have hts : ∀ w ∈ wsA, w.before ([.ref (a1 0), .int p1, .int p2] : List Value).toArray s = true := fun w h => atoms_spec (ws := wsX7_ferryBy) B.pre w (List.mem_cons_of_mem _ h)
  have hown : s.vm.findClass RX7 = some m.cls := findClass_of_methodNamed B.named
  have hlocks := B.notSynchronized
  subst hsz
  have hD := hD0.self (sz := s.heap.size)
  generalize hAe : va_A (WMod z a1 m1) s.heap.size = A at hD hT ⊢
  have hA : ∀ q : Nat, s.heap.size ≤ q → A q := fun q h => by rw [← hAe]; exact Or.inr h
  have hS : va_S A s.heap s.heap [] := va_S.rf
  have hl := lv_entry ([.ref (a1 0), .int p1, .int p2] : List Value) (n := 7) (Nat.le_of_ble_eq_true rfl)
  rw [lg_entry_eq]
  generalize (lg_sl ([.ref (a1 0), .int p1, .int p2] : List Value) ++ List.replicate (7 - (lg_sl ([.ref (a1 0), .int p1, .int p2] : List Value)).length) Slot.unset).toArray = ls at hl ⊢
  have hl : lv_has ls 7 [(0, .ref (a1 0)), (1, .int p1), (2, .int p2)] := hl
  unfold pX7_ferryBy at hf
  refine lv_aload_n hx hb dX7_ferryBy_0 rfl (lv_at hl 0 rfl) ?_
  obtain ⟨y1, q2, hf⟩ := bd_use hf
  have hfo : Foc (WMod z a1 m1) (WMod z a1 m1) (WMod z a1 y1) (WMod z a1 y1) := foc_all
  refine z_goV (ws1 := (WMod z a1 y1)) (va_runV (As := []) (rest := []) ⟨hx, hb, hml, hown, hts⟩ (tX7_sorts l D z tt a1 m1  fu y1 q2 _) (cwV 0 hts (gV4 aw1081 aw1083 aw40 aw52 aw1084) rfl rfl rfl (by decide +kernel) ⟨Nat.le_of_ble_eq_true rfl, Nat.le_of_ble_eq_true rfl⟩) (z_preV hK hP hD hS hA hT hN hfo (va_recv hK hP (ci := 7) (q0 := 0) rfl rfl)) rfl rfl hl.1 rfl (lv_room (Nat.le_of_ble_eq_true rfl)) dX7_ferryBy_1 ⟨Nat.zero_le _, Nat.zero_le _⟩) hP hD hS hA hfo (fun H locs hP hD hS => ?_)
  refine lv_iconst (v := 0) hx hb dX7_ferryBy_4 (by decide) ?_
  refine lv_istore_n (lv' := [(3, .int 0), (0, .ref (a1 0)), (1, .int p1), (2, .int p2)]) hx hb dX7_ferryBy_5 rfl hl (by decide) rfl (fun ls hl => ?_)
  refine lv_iconst (v := 0) hx hb dX7_ferryBy_6 (by decide) ?_
  refine lv_istore (lv' := [(4, .int 0), (3, .int 0), (0, .ref (a1 0)), (1, .int p1), (2, .int p2)]) hx hb dX7_ferryBy_7 hl (by decide) rfl (fun ls hl => ?_)
  obtain ⟨F5, eF5, hf⟩ := zl2_use hf
  have L9_F5 : ∀ (n : Nat) (x3 : Int32) (x4 : Int32) (H : Heap) (locs : List Loc), va_P D vwCl (WMod z a1 y1) H → va_D A (WMod z a1 y1) → va_S A s.heap H locs → ∀ (ls : Array Slot), lv_has ls 7 [(0, .ref (a1 0)), (1, .int p1), (2, .int p2), (3, .int x3), (4, .int x4)] → zl2 F5 n x3 x4 = some (rr, m1') → GI p l e (headSpec wsX7_ferryBy ({ frames := 1, cells := 0, slots := 0, locals := 22 } : Room)).room s m ([.ref (a1 0), .int p1, .int p2] : List Value).toArray below meth c A D z rr (WMod z a1 m1') H locs (F0 m 9 ls []) := by
    intro n
    induction n with
    | zero =>
      intro x3 x4 H locs hP hD hS ls hl hf
      exact no_none hf
    | succ n ih7 =>
      intro x3 x4 H locs hP hD hS ls hl hf
      have hf := zl2_s eF5 hf
      refine lv_iload hx hb dX7_ferryBy_9 (lv_at hl 4 rfl) ?_
      refine lv_aload_n hx hb dX7_ferryBy_11 rfl (lv_at hl 0 rfl) ?_
      refine va_get (D := D) (ci := 7) (v := .int (y1 0 15)) (C := RX7) (T := TX7) (N := 33) hx hb hts iX7 hown hK hP 0 rfl rfl 15 (by decide) (hts _ aw751) (fun _ h9 => h9) rfl dX7_ferryBy_12 ?_
      refine lv_icmp_ge (tgt := 98) hx hb dX7_ferryBy_15 (by decide) (fun c8 => ?_) (fun c8 => ?_)
      · have hf := if_t c8 hf
        refine lv_iload_n hx hb dX7_ferryBy_98 rfl (lv_at hl 3 rfl) ?_
        obtain ⟨rfl, rfl⟩ := so2 hf
        exact ret_i hx hb hr hlocks hK hP hD hS dX7_ferryBy_99
      · have hf := if_f c8 hf
        refine lv_iload hx hb dX7_ferryBy_18 (lv_at hl 4 rfl) ?_
        refine lv_iload_n hx hb dX7_ferryBy_20 rfl (lv_at hl 1 rfl) ?_
        obtain ⟨h9, hf⟩ := ckn_use hf
        refine lv_idiv hx hb dX7_ferryBy_21 h9 ?_
        refine lv_iload_n hx hb dX7_ferryBy_22 rfl (lv_at hl 1 rfl) ?_
        refine lv_imul hx hb dX7_ferryBy_23 ?_
        refine lv_iload_n hx hb dX7_ferryBy_24 rfl (lv_at hl 1 rfl) ?_
        refine lv_iadd hx hb dX7_ferryBy_25 ?_
        refine lv_iconst (v := 1) hx hb dX7_ferryBy_26 (by decide) ?_
        refine lv_isub hx hb dX7_ferryBy_27 ?_
        refine lv_topi (fun x10 ex10 => ?_)
        have hf := lt_use ex10 hf
        refine lv_istore (lv' := [(5, .int x10), (0, .ref (a1 0)), (1, .int p1), (2, .int p2), (3, .int x3), (4, .int x4)]) hx hb dX7_ferryBy_28 hl (by decide) rfl (fun ls hl => ?_)
        refine lv_iload hx hb dX7_ferryBy_30 (lv_at hl 0 rfl) ?_
        refine lv_aload_n hx hb dX7_ferryBy_32 rfl (lv_at hl 1 rfl) ?_
        refine va_get (D := D) (ci := 7) (v := .int (y1 0 15)) (C := RX7) (T := TX7) (N := 33) hx hb hts iX7 hown hK hP 0 rfl rfl 15 (by decide) (hts _ aw751) (fun _ h9 => h9) rfl dX7_ferryBy_33 ?_
        obtain ⟨k12, ek12, hf⟩ := jn1_use hf
        have B72_k12 : ∀ (x11 : Int32) (H : Heap) (locs : List Loc), va_P D vwCl (WMod z a1 y1) H → va_D A (WMod z a1 y1) → va_S A s.heap H locs → ∀ (ls : Array Slot), lv_has ls 7 [(0, .ref (a1 0)), (1, .int p1), (2, .int p2), (3, .int x3), (4, .int x4)] → k12 x11 = some (rr, m1') → GI p l e (headSpec wsX7_ferryBy ({ frames := 1, cells := 0, slots := 0, locals := 22 } : Room)).room s m ([.ref (a1 0), .int p1, .int p2] : List Value).toArray below meth c A D z rr (WMod z a1 m1') H locs (F0 m 72 ls [.int x11]) := by
          intro x11 H locs hP hD hS ls hl hf
          have hf := jn1_ap ek12 hf
          refine lv_istore (lv' := [(6, .int x11), (0, .ref (a1 0)), (1, .int p1), (2, .int p2), (3, .int x3), (4, .int x4)]) hx hb dX7_ferryBy_72 hl (by decide) rfl (fun ls hl => ?_)
          refine lv_iload_n hx hb dX7_ferryBy_74 rfl (lv_at hl 4 rfl) ?_
          refine lv_iload hx hb dX7_ferryBy_75 (lv_at hl 0 rfl) ?_
          refine lv_aload_n hx hb dX7_ferryBy_77 rfl (lv_at hl 1 rfl) ?_
          refine va_get (D := D) (ci := 7) (v := .ref (a1 5)) (C := RX7) (T := TX7) (N := 33) hx hb hts iX7 hown hK hP 0 rfl rfl 4 (by decide) (hts _ aw740) (fun _ h9 => h9) rfl dX7_ferryBy_78 ?_
          refine lv_aload_n hx hb dX7_ferryBy_81 rfl (lv_at hl 1 rfl) ?_
          refine va_get (D := D) (ci := 7) (v := .ref (a1 21)) (C := RX7) (T := TX7) (N := 33) hx hb hts iX7 hown hK hP 0 rfl rfl 30 (by decide) (hts _ aw766) (fun _ h9 => h9) rfl dX7_ferryBy_82 ?_
          refine lv_iload hx hb dX7_ferryBy_85 (lv_at hl 5 rfl) ?_
          obtain ⟨h13, hf⟩ := ck_use hf
          refine z_iald hx hb hK hP 21 rfl h13 dX7_ferryBy_87 ?_
          obtain ⟨h14, hf⟩ := ck_use hf
          refine z_iald hx hb hK hP 5 rfl h14 dX7_ferryBy_88 ?_
          refine lv_isub hx hb dX7_ferryBy_89 ?_
          refine lv_iadd hx hb dX7_ferryBy_90 ?_
          refine lv_topi (fun x15 ex15 => ?_)
          have hf := lt_use ex15 hf
          refine lv_istore_n (lv' := [(3, .int x15), (6, .int x11), (0, .ref (a1 0)), (1, .int p1), (2, .int p2), (4, .int x4)]) hx hb dX7_ferryBy_91 rfl hl (by decide) rfl (fun ls hl => ?_)
          obtain ⟨x16, ex16⟩ : ∃ y : Int32, y = x4 + 1 := ⟨_, rfl⟩
          have hf := lt_use ex16 hf
          refine lv_iinc (v := x16) (lv' := [(4, .int x16), (3, .int x15), (6, .int x11), (0, .ref (a1 0)), (1, .int p1), (2, .int p2)]) hx hb dX7_ferryBy_92 hl (k := 5) rfl (by rw [ex16]; rfl) (by decide) rfl (fun ls hl => ?_)
          refine lv_goto (tgt := 9) hx hb dX7_ferryBy_95 (by decide) ?_
          exact ih7 _ _ _ _ hP hD hS _ (lv_sub hl [3, 4, 5, 1, 0] rfl) hf
        refine lv_icmp_ge (tgt := 54) hx hb dX7_ferryBy_36 (by decide) (fun c17 => ?_) (fun c17 => ?_)
        · have hf := if_t c17 hf
          refine lv_aload_n hx hb dX7_ferryBy_54 rfl (lv_at hl 1 rfl) ?_
          refine va_get (D := D) (ci := 7) (v := .ref (a1 5)) (C := RX7) (T := TX7) (N := 33) hx hb hts iX7 hown hK hP 0 rfl rfl 4 (by decide) (hts _ aw740) (fun _ h9 => h9) rfl dX7_ferryBy_55 ?_
          refine lv_aload_n hx hb dX7_ferryBy_58 rfl (lv_at hl 1 rfl) ?_
          refine va_get (D := D) (ci := 7) (v := .ref (a1 21)) (C := RX7) (T := TX7) (N := 33) hx hb hts iX7 hown hK hP 0 rfl rfl 30 (by decide) (hts _ aw766) (fun _ h9 => h9) rfl dX7_ferryBy_59 ?_
          refine lv_aload_n hx hb dX7_ferryBy_62 rfl (lv_at hl 1 rfl) ?_
          refine va_get (D := D) (ci := 7) (v := .int (y1 0 15)) (C := RX7) (T := TX7) (N := 33) hx hb hts iX7 hown hK hP 0 rfl rfl 15 (by decide) (hts _ aw751) (fun _ h9 => h9) rfl dX7_ferryBy_63 ?_
          refine lv_iconst (v := 1) hx hb dX7_ferryBy_66 (by decide) ?_
          refine lv_isub hx hb dX7_ferryBy_67 ?_
          obtain ⟨h18, hf⟩ := ck_use hf
          refine z_iald hx hb hK hP 21 rfl h18 dX7_ferryBy_68 ?_
          obtain ⟨h19, hf⟩ := ck_use hf
          refine z_iald hx hb hK hP 5 rfl h19 dX7_ferryBy_69 ?_
          refine lv_iload_n hx hb dX7_ferryBy_70 rfl (lv_at hl 3 rfl) ?_
          refine lv_iadd hx hb dX7_ferryBy_71 ?_
          exact B72_k12 _ _ _ hP hD hS _ (lv_sub hl [1, 2, 3, 4, 5] rfl) hf
        · have hf := if_f c17 hf
          refine lv_aload_n hx hb dX7_ferryBy_39 rfl (lv_at hl 1 rfl) ?_
          refine va_get (D := D) (ci := 7) (v := .ref (a1 5)) (C := RX7) (T := TX7) (N := 33) hx hb hts iX7 hown hK hP 0 rfl rfl 4 (by decide) (hts _ aw740) (fun _ h9 => h9) rfl dX7_ferryBy_40 ?_
          refine lv_aload_n hx hb dX7_ferryBy_43 rfl (lv_at hl 1 rfl) ?_
          refine va_get (D := D) (ci := 7) (v := .ref (a1 21)) (C := RX7) (T := TX7) (N := 33) hx hb hts iX7 hown hK hP 0 rfl rfl 30 (by decide) (hts _ aw766) (fun _ h9 => h9) rfl dX7_ferryBy_44 ?_
          refine lv_iload hx hb dX7_ferryBy_47 (lv_at hl 0 rfl) ?_
          obtain ⟨h20, hf⟩ := ck_use hf
          refine z_iald hx hb hK hP 21 rfl h20 dX7_ferryBy_49 ?_
          obtain ⟨h21, hf⟩ := ck_use hf
          refine z_iald hx hb hK hP 5 rfl h21 dX7_ferryBy_50 ?_
          refine lv_goto (tgt := 72) hx hb dX7_ferryBy_51 (by decide) ?_
          exact B72_k12 _ _ _ hP hD hS _ (lv_sub hl [1, 2, 3, 4, 5] rfl) hf
  exact L9_F5 fu _ _ _ _ hP hD hS _ (lv_sub hl [2, 3, 4, 1, 0] rfl) hf
def pX7_timesBy (fu : Nat) (m1 : Mem) (p1 : Int32) : Option Int32 :=
  zl2 (fun g4 (x1 : Int32) (x2 : Int32) =>
    if (m1 0 15) ≤ x2 then
      some x1
    else
      ck x2 8 <|
      ckn p1 <|
      ckn p1 <|
      lt' ((x1 + ((p1 - ((m1 5 x2.toNatClampNeg) - (m1 5 x2.toNatClampNeg) / p1 * p1)) - (p1 - ((m1 5 x2.toNatClampNeg) - (m1 5 x2.toNatClampNeg) / p1 * p1)) / p1 * p1)) : Int32) fun x10 =>
      lt' (x2 + 1) fun x11 =>
      g4 x10 x11) fu 0 0
set_option maxHeartbeats 4000000 in
set_option maxRecDepth 100000 in
theorem tX7_timesBy (l : Launch) (D : va_G) (z tt : Nat → Nat) (a1 : Nat → Nat) (m1 : Mem) (p1 : Int32) (fu : Nat) (rr : Int32) (hf : pX7_timesBy fu m1 p1 = some rr) : MetI l yX7_timesBy wsX7_timesBy ({ frames := 0, cells := 0, slots := 0, locals := 0 } : Room) D z tt ([.ref (a1 0), .int p1] : List Value) (WMod z a1 m1) rr (WMod z a1 m1) := by
  intro sz
  refine Met.ofW (cc := cX7_timesBy) (maxL := 4) (ret := (some .int)) (by decide) rfl ?_
  intro p e s m args below meth c s₁ B hml hv
  obtain ⟨rfl, hsz, hP, hK, hD0, hT, hN⟩ := hv
  have hx := B.exec
  have hb := B.bytes
  have hr := B.returns
  have hts : ∀ w ∈ wsA, w.before ([.ref (a1 0), .int p1] : List Value).toArray s = true := fun w h => atoms_spec (ws := wsX7_timesBy) B.pre w (List.mem_cons_of_mem _ h)
  have hown : s.vm.findClass RX7 = some m.cls := findClass_of_methodNamed B.named
  have hlocks := B.notSynchronized
  subst hsz
  have hD := hD0.self (sz := s.heap.size)
  generalize hAe : va_A (WMod z a1 m1) s.heap.size = A at hD hT ⊢
  have hA : ∀ q : Nat, s.heap.size ≤ q → A q := fun q h => by rw [← hAe]; exact Or.inr h
  have hS : va_S A s.heap s.heap [] := va_S.rf
  have hl := lv_entry ([.ref (a1 0), .int p1] : List Value) (n := 4) (Nat.le_of_ble_eq_true rfl)
  rw [lg_entry_eq]
  generalize (lg_sl ([.ref (a1 0), .int p1] : List Value) ++ List.replicate (4 - (lg_sl ([.ref (a1 0), .int p1] : List Value)).length) Slot.unset).toArray = ls at hl ⊢
  have hl : lv_has ls 4 [(0, .ref (a1 0)), (1, .int p1)] := hl
  unfold pX7_timesBy at hf
  refine lv_iconst (v := 0) hx hb dX7_timesBy_0 (by decide) ?_
  refine lv_istore_n (lv' := [(2, .int 0), (0, .ref (a1 0)), (1, .int p1)]) hx hb dX7_timesBy_1 rfl hl (by decide) rfl (fun ls hl => ?_)
  refine lv_iconst (v := 0) hx hb dX7_timesBy_2 (by decide) ?_
  refine lv_istore_n (lv' := [(3, .int 0), (2, .int 0), (0, .ref (a1 0)), (1, .int p1)]) hx hb dX7_timesBy_3 rfl hl (by decide) rfl (fun ls hl => ?_)
  obtain ⟨F3, eF3, hf⟩ := zl2_use hf
  have L4_F3 : ∀ (n : Nat) (x1 : Int32) (x2 : Int32) (H : Heap) (locs : List Loc), va_P D vwCl (WMod z a1 m1) H → va_D A (WMod z a1 m1) → va_S A s.heap H locs → ∀ (ls : Array Slot), lv_has ls 4 [(0, .ref (a1 0)), (1, .int p1), (2, .int x1), (3, .int x2)] → zl2 F3 n x1 x2 = some rr → GI p l e (headSpec wsX7_timesBy ({ frames := 0, cells := 0, slots := 0, locals := 0 } : Room)).room s m ([.ref (a1 0), .int p1] : List Value).toArray below meth c A D z rr (WMod z a1 m1) H locs (F0 m 4 ls []) := by
    intro n
    induction n with
    | zero =>
      intro x1 x2 H locs hP hD hS ls hl hf
      exact no_none hf
    | succ n ih5 =>
      intro x1 x2 H locs hP hD hS ls hl hf
      have hf := zl2_s eF3 hf
      refine lv_iload_n hx hb dX7_timesBy_4 rfl (lv_at hl 3 rfl) ?_
      refine lv_aload_n hx hb dX7_timesBy_5 rfl (lv_at hl 0 rfl) ?_
      refine va_get (D := D) (ci := 7) (v := .int (m1 0 15)) (C := RX7) (T := TX7) (N := 33) hx hb hts iX7 hown hK hP 0 rfl rfl 15 (by decide) (hts _ aw751) (fun _ h9 => h9) rfl dX7_timesBy_6 ?_
      refine lv_icmp_ge (tgt := 33) hx hb dX7_timesBy_9 (by decide) (fun c6 => ?_) (fun c6 => ?_)
      · have hf := if_t c6 hf
        refine lv_iload_n hx hb dX7_timesBy_33 rfl (lv_at hl 2 rfl) ?_
        obtain rfl := so1 hf
        exact ret_i hx hb hr hlocks hK hP hD hS dX7_timesBy_34
      · have hf := if_f c6 hf
        refine lv_iload_n hx hb dX7_timesBy_12 rfl (lv_at hl 2 rfl) ?_
        refine lv_iload_n hx hb dX7_timesBy_13 rfl (lv_at hl 1 rfl) ?_
        refine lv_aload_n hx hb dX7_timesBy_14 rfl (lv_at hl 0 rfl) ?_
        refine va_get (D := D) (ci := 7) (v := .ref (a1 5)) (C := RX7) (T := TX7) (N := 33) hx hb hts iX7 hown hK hP 0 rfl rfl 4 (by decide) (hts _ aw740) (fun _ h9 => h9) rfl dX7_timesBy_15 ?_
        refine lv_iload_n hx hb dX7_timesBy_18 rfl (lv_at hl 3 rfl) ?_
        obtain ⟨h7, hf⟩ := ck_use hf
        refine z_iald hx hb hK hP 5 rfl h7 dX7_timesBy_19 ?_
        refine lv_iload_n hx hb dX7_timesBy_20 rfl (lv_at hl 1 rfl) ?_
        obtain ⟨h8, hf⟩ := ckn_use hf
        refine lv_irem hx hb dX7_timesBy_21 h8 ?_
        refine lv_isub hx hb dX7_timesBy_22 ?_
        refine lv_iload_n hx hb dX7_timesBy_23 rfl (lv_at hl 1 rfl) ?_
        obtain ⟨h9, hf⟩ := ckn_use hf
        refine lv_irem hx hb dX7_timesBy_24 h9 ?_
        refine lv_iadd hx hb dX7_timesBy_25 ?_
        refine lv_topi (fun x10 ex10 => ?_)
        have hf := lt_use ex10 hf
        refine lv_istore_n (lv' := [(2, .int x10), (0, .ref (a1 0)), (1, .int p1), (3, .int x2)]) hx hb dX7_timesBy_26 rfl hl (by decide) rfl (fun ls hl => ?_)
        obtain ⟨x11, ex11⟩ : ∃ y : Int32, y = x2 + 1 := ⟨_, rfl⟩
        have hf := lt_use ex11 hf
        refine lv_iinc (v := x11) (lv' := [(3, .int x11), (2, .int x10), (0, .ref (a1 0)), (1, .int p1)]) hx hb dX7_timesBy_27 hl (k := 3) rfl (by rw [ex11]; rfl) (by decide) rfl (fun ls hl => ?_)
        refine lv_goto (tgt := 4) hx hb dX7_timesBy_30 (by decide) ?_
        exact ih5 _ _ _ _ hP hD hS _ (lv_sub hl [2, 3, 1, 0] rfl) hf
  exact L4_F3 fu _ _ _ _ hP hD hS _ (lv_sub hl [2, 3, 1, 0] rfl) hf
def pX7_ferry (fu : Nat) (m1 : Mem) (p1 : Int32) (p2 : Int32) : Option (Int32 × Mem) :=
  jn1 (fun (x1 : Int32) =>
    if x1 = 0 then
      bd2 (pX7_ferryBy fu m1 p1 p2) fun r4 y5 =>
      some (r4, y5)
    else
      bd2 (pX7_no fu m1 x1) fun r7 y8 =>
      some (r7, y8)) fun k2 =>
  if p1 < 1 then
    k2 (-4)
  else
    if 0 ≤ p2 then
      if 8 < p1 then
        k2 (-6)
      else
        if p2 ≤ 60 then
          k2 0
        else
          k2 (-6)
    else
      k2 (-4)
set_option maxHeartbeats 4000000 in
set_option maxRecDepth 100000 in
theorem tX7_ferry (l : Launch) (D : va_G) (z tt : Nat → Nat) (a1 : Nat → Nat) (m1 : Mem) (p1 : Int32) (p2 : Int32) (fu : Nat) (rr : Int32) (m1' : Mem) (hf : pX7_ferry fu m1 p1 p2 = some (rr, m1')) : MetI l yX7_ferry wsX7_ferry ({ frames := 2, cells := 0, slots := 0, locals := 48 } : Room) D z tt ([.ref (a1 0), .int p1, .int p2] : List Value) (WMod z a1 m1) rr (WMod z a1 m1') := by
  intro sz
  refine Met.ofW (cc := cX7_ferry) (maxL := 4) (ret := (some .int)) (by decide) rfl ?_
  intro p e s m args below meth c s₁ B hml hv
  obtain ⟨rfl, hsz, hP, hK, hD0, hT, hN⟩ := hv
  have hx := B.exec
  have hb := B.bytes
  have hr := B.returns
  have hts : ∀ w ∈ wsA, w.before ([.ref (a1 0), .int p1, .int p2] : List Value).toArray s = true := fun w h => atoms_spec (ws := wsX7_ferry) B.pre w (List.mem_cons_of_mem _ h)
  have hown : s.vm.findClass RX7 = some m.cls := findClass_of_methodNamed B.named
  have hlocks := B.notSynchronized
  subst hsz
  have hD := hD0.self (sz := s.heap.size)
  generalize hAe : va_A (WMod z a1 m1) s.heap.size = A at hD hT ⊢
  have hA : ∀ q : Nat, s.heap.size ≤ q → A q := fun q h => by rw [← hAe]; exact Or.inr h
  have hS : va_S A s.heap s.heap [] := va_S.rf
  have hl := lv_entry ([.ref (a1 0), .int p1, .int p2] : List Value) (n := 4) (Nat.le_of_ble_eq_true rfl)
  rw [lg_entry_eq]
  generalize (lg_sl ([.ref (a1 0), .int p1, .int p2] : List Value) ++ List.replicate (4 - (lg_sl ([.ref (a1 0), .int p1, .int p2] : List Value)).length) Slot.unset).toArray = ls at hl ⊢
  have hl : lv_has ls 4 [(0, .ref (a1 0)), (1, .int p1), (2, .int p2)] := hl
  unfold pX7_ferry at hf
  refine lv_iload_n hx hb dX7_ferry_0 rfl (lv_at hl 1 rfl) ?_
  refine lv_iconst (v := 1) hx hb dX7_ferry_1 (by decide) ?_
  obtain ⟨k2, ek2, hf⟩ := jn1_use hf
  have B32_k2 : ∀ (x1 : Int32) (H : Heap) (locs : List Loc), va_P D vwCl (WMod z a1 m1) H → va_D A (WMod z a1 m1) → va_S A s.heap H locs → ∀ (ls : Array Slot), lv_has ls 4 [(0, .ref (a1 0)), (1, .int p1), (2, .int p2)] → k2 x1 = some (rr, m1') → GI p l e (headSpec wsX7_ferry ({ frames := 2, cells := 0, slots := 0, locals := 48 } : Room)).room s m ([.ref (a1 0), .int p1, .int p2] : List Value).toArray below meth c A D z rr (WMod z a1 m1') H locs (F0 m 32 ls [.int x1]) := by
    intro x1 H locs hP hD hS ls hl hf
    have hf := jn1_ap ek2 hf
    refine lv_istore_n (lv' := [(3, .int x1), (0, .ref (a1 0)), (1, .int p1), (2, .int p2)]) hx hb dX7_ferry_32 rfl hl (by decide) rfl (fun ls hl => ?_)
    refine lv_iload_n hx hb dX7_ferry_33 rfl (lv_at hl 0 rfl) ?_
    refine lv_if_eq (tgt := 45) hx hb dX7_ferry_34 (by decide) (fun c3 => ?_) (fun c3 => ?_)
    · have hf := if_t c3 hf
      refine lv_aload_n hx hb dX7_ferry_45 rfl (lv_at hl 1 rfl) ?_
      refine lv_iload_n hx hb dX7_ferry_46 rfl (lv_at hl 2 rfl) ?_
      refine lv_iload_n hx hb dX7_ferry_47 rfl (lv_at hl 3 rfl) ?_
      obtain ⟨r4, y5, q6, hf⟩ := bd2_use hf
      have hfo : Foc (WMod z a1 m1) (WMod z a1 m1) (WMod z a1 y5) (WMod z a1 y5) := foc_all
      refine z_goI (ws1 := (WMod z a1 y5)) (va_runV (As := [.int p1, .int p2]) (rest := []) ⟨hx, hb, hml, hown, hts⟩ (tX7_ferryBy l D z tt a1 m1 p1 p2 fu r4 y5 q6 _) (cwV 2 hts (gV4 aw1093 aw1095 aw42 aw52 aw1096) rfl rfl rfl (by decide +kernel) ⟨Nat.le_of_ble_eq_true rfl, Nat.le_of_ble_eq_true rfl⟩) (z_preV hK hP hD hS hA hT hN hfo (va_recv hK hP (ci := 7) (q0 := 0) rfl rfl)) rfl rfl hl.1 rfl (lv_room (Nat.le_of_ble_eq_true rfl)) dX7_ferry_48 ⟨Nat.zero_le _, Nat.zero_le _⟩) hP hD hS hA hfo (fun H locs hP hD hS => ?_)
      obtain ⟨rfl, rfl⟩ := so2 hf
      exact ret_i hx hb hr hlocks hK hP hD hS dX7_ferry_51
    · have hf := if_f c3 hf
      refine lv_aload_n hx hb dX7_ferry_37 rfl (lv_at hl 1 rfl) ?_
      refine lv_iload_n hx hb dX7_ferry_38 rfl (lv_at hl 0 rfl) ?_
      obtain ⟨r7, y8, q9, hf⟩ := bd2_use hf
      have hfo : Foc (WMod z a1 m1) (WMod z a1 m1) (WMod z a1 y8) (WMod z a1 y8) := foc_all
      refine z_goI (ws1 := (WMod z a1 y8)) (va_runV (As := [.int x1]) (rest := []) ⟨hx, hb, hml, hown, hts⟩ (tX7_no l D z tt a1 m1 x1 fu r7 y8 q9 _) (cwV 1 hts (gV4 aw843 aw845 aw1 aw52 aw846) rfl rfl rfl (by decide +kernel) ⟨Nat.le_of_ble_eq_true rfl, Nat.le_of_ble_eq_true rfl⟩) (z_preV hK hP hD hS hA hT hN hfo (va_recv hK hP (ci := 7) (q0 := 0) rfl rfl)) rfl rfl hl.1 rfl (lv_room (Nat.le_of_ble_eq_true rfl)) dX7_ferry_39 ⟨Nat.zero_le _, Nat.zero_le _⟩) hP hD hS hA hfo (fun H locs hP hD hS => ?_)
      refine lv_goto (tgt := 51) hx hb dX7_ferry_42 (by decide) ?_
      obtain ⟨rfl, rfl⟩ := so2 hf
      exact ret_i hx hb hr hlocks hK hP hD hS dX7_ferry_51
  refine lv_icmp_lt (tgt := 9) hx hb dX7_ferry_2 (by decide) (fun c10 => ?_) (fun c10 => ?_)
  · have hf := if_t c10 hf
    refine lv_bipush (v := (-4)) hx hb dX7_ferry_9 (by decide) ?_
    refine lv_goto (tgt := 32) hx hb dX7_ferry_11 (by decide) ?_
    exact B32_k2 _ _ _ hP hD hS _ (lv_sub hl [0, 1, 2] rfl) hf
  · have hf := if_f c10 hf
    refine lv_iload_n hx hb dX7_ferry_5 rfl (lv_at hl 2 rfl) ?_
    refine lv_if_ge (tgt := 14) hx hb dX7_ferry_6 (by decide) (fun c11 => ?_) (fun c11 => ?_)
    · have hf := if_t c11 hf
      refine lv_iload_n hx hb dX7_ferry_14 rfl (lv_at hl 1 rfl) ?_
      refine lv_bipush (v := 8) hx hb dX7_ferry_15 (by decide) ?_
      refine lv_icmp_gt (tgt := 26) hx hb dX7_ferry_17 (by decide) (fun c12 => ?_) (fun c12 => ?_)
      · have hf := if_t c12 hf
        refine lv_bipush (v := (-6)) hx hb dX7_ferry_26 (by decide) ?_
        refine lv_goto (tgt := 32) hx hb dX7_ferry_28 (by decide) ?_
        exact B32_k2 _ _ _ hP hD hS _ (lv_sub hl [0, 1, 2] rfl) hf
      · have hf := if_f c12 hf
        refine lv_iload_n hx hb dX7_ferry_20 rfl (lv_at hl 2 rfl) ?_
        refine lv_bipush (v := 60) hx hb dX7_ferry_21 (by decide) ?_
        refine lv_icmp_le (tgt := 31) hx hb dX7_ferry_23 (by decide) (fun c13 => ?_) (fun c13 => ?_)
        · have hf := if_t c13 hf
          refine lv_iconst (v := 0) hx hb dX7_ferry_31 (by decide) ?_
          exact B32_k2 _ _ _ hP hD hS _ (lv_sub hl [0, 1, 2] rfl) hf
        · have hf := if_f c13 hf
          refine lv_bipush (v := (-6)) hx hb dX7_ferry_26 (by decide) ?_
          refine lv_goto (tgt := 32) hx hb dX7_ferry_28 (by decide) ?_
          exact B32_k2 _ _ _ hP hD hS _ (lv_sub hl [0, 1, 2] rfl) hf
    · have hf := if_f c11 hf
      refine lv_bipush (v := (-4)) hx hb dX7_ferry_9 (by decide) ?_
      refine lv_goto (tgt := 32) hx hb dX7_ferry_11 (by decide) ?_
      exact B32_k2 _ _ _ hP hD hS _ (lv_sub hl [0, 1, 2] rfl) hf
def pX7_times (fu : Nat) (m1 : Mem) (p1 : Int32) : Option (Int32 × Mem) :=
  bd (pX7_bound fu p1 1 60) fun r1 =>
  if r1 = 0 then
    bd (pX7_timesBy fu m1 p1) fun r4 =>
    some (r4, m1)
  else
    bd2 (pX7_no fu m1 r1) fun r6 y7 =>
    some (r6, y7)
set_option maxHeartbeats 4000000 in
set_option maxRecDepth 100000 in
theorem tX7_times (l : Launch) (D : va_G) (z tt : Nat → Nat) (a1 : Nat → Nat) (m1 : Mem) (p1 : Int32) (fu : Nat) (rr : Int32) (m1' : Mem) (hf : pX7_times fu m1 p1 = some (rr, m1')) : MetI l yX7_times wsX7_times ({ frames := 1, cells := 0, slots := 0, locals := 23 } : Room) D z tt ([.ref (a1 0), .int p1] : List Value) (WMod z a1 m1) rr (WMod z a1 m1') := by
  intro sz
  refine Met.ofW (cc := cX7_times) (maxL := 3) (ret := (some .int)) (by decide) rfl ?_
  intro p e s m args below meth c s₁ B hml hv
  obtain ⟨rfl, hsz, hP, hK, hD0, hT, hN⟩ := hv
  have hx := B.exec
  have hb := B.bytes
  have hr := B.returns
  have hts : ∀ w ∈ wsA, w.before ([.ref (a1 0), .int p1] : List Value).toArray s = true := fun w h => atoms_spec (ws := wsX7_times) B.pre w (List.mem_cons_of_mem _ h)
  have hown : s.vm.findClass RX7 = some m.cls := findClass_of_methodNamed B.named
  have hlocks := B.notSynchronized
  subst hsz
  have hD := hD0.self (sz := s.heap.size)
  generalize hAe : va_A (WMod z a1 m1) s.heap.size = A at hD hT ⊢
  have hA : ∀ q : Nat, s.heap.size ≤ q → A q := fun q h => by rw [← hAe]; exact Or.inr h
  have hS : va_S A s.heap s.heap [] := va_S.rf
  have hl := lv_entry ([.ref (a1 0), .int p1] : List Value) (n := 3) (Nat.le_of_ble_eq_true rfl)
  rw [lg_entry_eq]
  generalize (lg_sl ([.ref (a1 0), .int p1] : List Value) ++ List.replicate (3 - (lg_sl ([.ref (a1 0), .int p1] : List Value)).length) Slot.unset).toArray = ls at hl ⊢
  have hl : lv_has ls 3 [(0, .ref (a1 0)), (1, .int p1)] := hl
  unfold pX7_times at hf
  refine lv_iload_n hx hb dX7_times_0 rfl (lv_at hl 1 rfl) ?_
  refine lv_iconst (v := 1) hx hb dX7_times_1 (by decide) ?_
  refine lv_bipush (v := 60) hx hb dX7_times_2 (by decide) ?_
  obtain ⟨r1, q2, hf⟩ := bd_use hf
  have hfo : Foc (WMod z a1 m1) ([] : va_W) (WMod z a1 m1) ([] : va_W) := foc_nil
  refine z_goI (ws1 := (WMod z a1 m1)) (va_runS (As := [.int p1, .int 1, .int 60]) (rest := []) ⟨hx, hb, hml, hown, hts⟩ (tX7_bound l D z tt  p1 1 60 fu r1 q2 _) (va_cwS 3 hts (gS3 aw840 aw841 aw52 aw842) rfl rfl rfl (by decide +kernel) ⟨Nat.le_of_ble_eq_true rfl, Nat.le_of_ble_eq_true rfl⟩) (z_preS hK hP hD hS hA hT hN hfo) rfl rfl hl.1 rfl (lv_room (Nat.le_of_ble_eq_true rfl)) dX7_times_4 ⟨Nat.zero_le _, Nat.zero_le _⟩) hP hD hS hA hfo (fun H locs hP hD hS => ?_)
  refine lv_istore_n (lv' := [(2, .int r1), (0, .ref (a1 0)), (1, .int p1)]) hx hb dX7_times_7 rfl hl (by decide) rfl (fun ls hl => ?_)
  refine lv_iload_n hx hb dX7_times_8 rfl (lv_at hl 0 rfl) ?_
  refine lv_if_eq (tgt := 20) hx hb dX7_times_9 (by decide) (fun c3 => ?_) (fun c3 => ?_)
  · have hf := if_t c3 hf
    refine lv_aload_n hx hb dX7_times_20 rfl (lv_at hl 1 rfl) ?_
    refine lv_iload_n hx hb dX7_times_21 rfl (lv_at hl 2 rfl) ?_
    obtain ⟨r4, q5, hf⟩ := bd_use hf
    have hfo : Foc (WMod z a1 m1) (WMod z a1 m1) (WMod z a1 m1) (WMod z a1 m1) := foc_all
    refine z_goI (ws1 := (WMod z a1 m1)) (va_runV (As := [.int p1]) (rest := []) ⟨hx, hb, hml, hown, hts⟩ (tX7_timesBy l D z tt a1 m1 p1 fu r4 q5 _) (cwV 1 hts (gV4 aw1101 aw1103 aw43 aw52 aw1104) rfl rfl rfl (by decide +kernel) ⟨Nat.le_of_ble_eq_true rfl, Nat.le_of_ble_eq_true rfl⟩) (z_preV hK hP hD hS hA hT hN hfo (va_recv hK hP (ci := 7) (q0 := 0) rfl rfl)) rfl rfl hl.1 rfl (lv_room (Nat.le_of_ble_eq_true rfl)) dX7_times_22 ⟨Nat.zero_le _, Nat.zero_le _⟩) hP hD hS hA hfo (fun H locs hP hD hS => ?_)
    obtain ⟨rfl, rfl⟩ := so2 hf
    exact ret_i hx hb hr hlocks hK hP hD hS dX7_times_25
  · have hf := if_f c3 hf
    refine lv_aload_n hx hb dX7_times_12 rfl (lv_at hl 1 rfl) ?_
    refine lv_iload_n hx hb dX7_times_13 rfl (lv_at hl 0 rfl) ?_
    obtain ⟨r6, y7, q8, hf⟩ := bd2_use hf
    have hfo : Foc (WMod z a1 m1) (WMod z a1 m1) (WMod z a1 y7) (WMod z a1 y7) := foc_all
    refine z_goI (ws1 := (WMod z a1 y7)) (va_runV (As := [.int r1]) (rest := []) ⟨hx, hb, hml, hown, hts⟩ (tX7_no l D z tt a1 m1 r1 fu r6 y7 q8 _) (cwV 1 hts (gV4 aw843 aw845 aw1 aw52 aw846) rfl rfl rfl (by decide +kernel) ⟨Nat.le_of_ble_eq_true rfl, Nat.le_of_ble_eq_true rfl⟩) (z_preV hK hP hD hS hA hT hN hfo (va_recv hK hP (ci := 7) (q0 := 0) rfl rfl)) rfl rfl hl.1 rfl (lv_room (Nat.le_of_ble_eq_true rfl)) dX7_times_14 ⟨Nat.zero_le _, Nat.zero_le _⟩) hP hD hS hA hfo (fun H locs hP hD hS => ?_)
    refine lv_goto (tgt := 25) hx hb dX7_times_17 (by decide) ?_
    obtain ⟨rfl, rfl⟩ := so2 hf
    exact ret_i hx hb hr hlocks hK hP hD hS dX7_times_25
def pX7_better (fu : Nat) (m1 : Mem) (p1 : Int32) : Option (Int32 × Mem) :=
  bd (pX7_bound fu p1 1 60) fun r1 =>
  if r1 = 0 then
    bd (pX7_timesBy fu m1 p1) fun r4 =>
    zl4 (fun g11 (x6 : Int32) (x7 : Int32) (x8 : Int32) (y9 : Mem) =>
      if 9 ≤ x8 then
        some (x6, y9)
      else
        bd2 (pX7_ferryBy fu y9 x8 p1) fun r14 y15 =>
        if r14 < x7 then
          lt' (x8 + 1) fun x18 =>
          g11 x8 r14 x18 y15
        else
          lt' (x8 + 1) fun x19 =>
          g11 x6 x7 x19 y15) fu (-9) r4 1 m1
  else
    bd2 (pX7_no fu m1 r1) fun r20 y21 =>
    some (r20, y21)
set_option maxHeartbeats 4000000 in
set_option maxRecDepth 100000 in
theorem tX7_better (l : Launch) (D : va_G) (z tt : Nat → Nat) (a1 : Nat → Nat) (m1 : Mem) (p1 : Int32) (fu : Nat) (rr : Int32) (m1' : Mem) (hf : pX7_better fu m1 p1 = some (rr, m1')) : MetI l yX7_better wsX7_better ({ frames := 2, cells := 0, slots := 0, locals := 48 } : Room) D z tt ([.ref (a1 0), .int p1] : List Value) (WMod z a1 m1) rr (WMod z a1 m1') := by
  intro sz
  refine Met.ofW (cc := cX7_better) (maxL := 7) (ret := (some .int)) (by decide) rfl ?_
  intro p e s m args below meth c s₁ B hml hv
  obtain ⟨rfl, hsz, hP, hK, hD0, hT, hN⟩ := hv
  have hx := B.exec
  have hb := B.bytes
  have hr := B.returns
  have hts : ∀ w ∈ wsA, w.before ([.ref (a1 0), .int p1] : List Value).toArray s = true := fun w h => atoms_spec (ws := wsX7_better) B.pre w (List.mem_cons_of_mem _ h)
  have hown : s.vm.findClass RX7 = some m.cls := findClass_of_methodNamed B.named
  have hlocks := B.notSynchronized
  subst hsz
  have hD := hD0.self (sz := s.heap.size)
  generalize hAe : va_A (WMod z a1 m1) s.heap.size = A at hD hT ⊢
  have hA : ∀ q : Nat, s.heap.size ≤ q → A q := fun q h => by rw [← hAe]; exact Or.inr h
  have hS : va_S A s.heap s.heap [] := va_S.rf
  have hl := lv_entry ([.ref (a1 0), .int p1] : List Value) (n := 7) (Nat.le_of_ble_eq_true rfl)
  rw [lg_entry_eq]
  generalize (lg_sl ([.ref (a1 0), .int p1] : List Value) ++ List.replicate (7 - (lg_sl ([.ref (a1 0), .int p1] : List Value)).length) Slot.unset).toArray = ls at hl ⊢
  have hl : lv_has ls 7 [(0, .ref (a1 0)), (1, .int p1)] := hl
  unfold pX7_better at hf
  refine lv_iload_n hx hb dX7_better_0 rfl (lv_at hl 1 rfl) ?_
  refine lv_iconst (v := 1) hx hb dX7_better_1 (by decide) ?_
  refine lv_bipush (v := 60) hx hb dX7_better_2 (by decide) ?_
  obtain ⟨r1, q2, hf⟩ := bd_use hf
  have hfo : Foc (WMod z a1 m1) ([] : va_W) (WMod z a1 m1) ([] : va_W) := foc_nil
  refine z_goI (ws1 := (WMod z a1 m1)) (va_runS (As := [.int p1, .int 1, .int 60]) (rest := []) ⟨hx, hb, hml, hown, hts⟩ (tX7_bound l D z tt  p1 1 60 fu r1 q2 _) (va_cwS 3 hts (gS3 aw840 aw841 aw52 aw842) rfl rfl rfl (by decide +kernel) ⟨Nat.le_of_ble_eq_true rfl, Nat.le_of_ble_eq_true rfl⟩) (z_preS hK hP hD hS hA hT hN hfo) rfl rfl hl.1 rfl (lv_room (Nat.le_of_ble_eq_true rfl)) dX7_better_4 ⟨Nat.zero_le _, Nat.zero_le _⟩) hP hD hS hA hfo (fun H locs hP hD hS => ?_)
  refine lv_istore_n (lv' := [(2, .int r1), (0, .ref (a1 0)), (1, .int p1)]) hx hb dX7_better_7 rfl hl (by decide) rfl (fun ls hl => ?_)
  refine lv_iload_n hx hb dX7_better_8 rfl (lv_at hl 0 rfl) ?_
  refine lv_if_eq (tgt := 18) hx hb dX7_better_9 (by decide) (fun c3 => ?_) (fun c3 => ?_)
  · have hf := if_t c3 hf
    refine lv_bipush (v := (-9)) hx hb dX7_better_18 (by decide) ?_
    refine lv_istore_n (lv' := [(3, .int (-9)), (2, .int r1), (0, .ref (a1 0)), (1, .int p1)]) hx hb dX7_better_20 rfl hl (by decide) rfl (fun ls hl => ?_)
    refine lv_aload_n hx hb dX7_better_21 rfl (lv_at hl 2 rfl) ?_
    refine lv_iload_n hx hb dX7_better_22 rfl (lv_at hl 3 rfl) ?_
    obtain ⟨r4, q5, hf⟩ := bd_use hf
    have hfo : Foc (WMod z a1 m1) (WMod z a1 m1) (WMod z a1 m1) (WMod z a1 m1) := foc_all
    refine z_goI (ws1 := (WMod z a1 m1)) (va_runV (As := [.int p1]) (rest := []) ⟨hx, hb, hml, hown, hts⟩ (tX7_timesBy l D z tt a1 m1 p1 fu r4 q5 _) (cwV 1 hts (gV4 aw1101 aw1103 aw43 aw52 aw1104) rfl rfl rfl (by decide +kernel) ⟨Nat.le_of_ble_eq_true rfl, Nat.le_of_ble_eq_true rfl⟩) (z_preV hK hP hD hS hA hT hN hfo (va_recv hK hP (ci := 7) (q0 := 0) rfl rfl)) rfl rfl hl.1 rfl (lv_room (Nat.le_of_ble_eq_true rfl)) dX7_better_23 ⟨Nat.zero_le _, Nat.zero_le _⟩) hP hD hS hA hfo (fun H locs hP hD hS => ?_)
    refine lv_istore (lv' := [(4, .int r4), (3, .int (-9)), (2, .int r1), (0, .ref (a1 0)), (1, .int p1)]) hx hb dX7_better_26 hl (by decide) rfl (fun ls hl => ?_)
    refine lv_iconst (v := 1) hx hb dX7_better_28 (by decide) ?_
    refine lv_istore (lv' := [(5, .int 1), (4, .int r4), (3, .int (-9)), (2, .int r1), (0, .ref (a1 0)), (1, .int p1)]) hx hb dX7_better_29 hl (by decide) rfl (fun ls hl => ?_)
    obtain ⟨F10, eF10, hf⟩ := zl4_use hf
    have L31_F10 : ∀ (n : Nat) (x6 : Int32) (x7 : Int32) (x8 : Int32) (y9 : Mem) (H : Heap) (locs : List Loc), va_P D vwCl (WMod z a1 y9) H → va_D A (WMod z a1 y9) → va_S A s.heap H locs → ∀ (ls : Array Slot), lv_has ls 7 [(0, .ref (a1 0)), (1, .int p1), (3, .int x6), (4, .int x7), (5, .int x8)] → zl4 F10 n x6 x7 x8 y9 = some (rr, m1') → GI p l e (headSpec wsX7_better ({ frames := 2, cells := 0, slots := 0, locals := 48 } : Room)).room s m ([.ref (a1 0), .int p1] : List Value).toArray below meth c A D z rr (WMod z a1 m1') H locs (F0 m 31 ls []) := by
      intro n
      induction n with
      | zero =>
        intro x6 x7 x8 y9 H locs hP hD hS ls hl hf
        exact no_none hf
      | succ n ih12 =>
        intro x6 x7 x8 y9 H locs hP hD hS ls hl hf
        have hf := zl4_s eF10 hf
        refine lv_iload hx hb dX7_better_31 (lv_at hl 4 rfl) ?_
        refine lv_bipush (v := 9) hx hb dX7_better_33 (by decide) ?_
        refine lv_icmp_ge (tgt := 70) hx hb dX7_better_35 (by decide) (fun c13 => ?_) (fun c13 => ?_)
        · have hf := if_t c13 hf
          refine lv_iload_n hx hb dX7_better_70 rfl (lv_at hl 2 rfl) ?_
          obtain ⟨rfl, rfl⟩ := so2 hf
          exact ret_i hx hb hr hlocks hK hP hD hS dX7_better_71
        · have hf := if_f c13 hf
          refine lv_aload_n hx hb dX7_better_38 rfl (lv_at hl 0 rfl) ?_
          refine lv_iload hx hb dX7_better_39 (lv_at hl 4 rfl) ?_
          refine lv_iload_n hx hb dX7_better_41 rfl (lv_at hl 1 rfl) ?_
          obtain ⟨r14, y15, q16, hf⟩ := bd2_use hf
          have hfo : Foc (WMod z a1 y9) (WMod z a1 y9) (WMod z a1 y15) (WMod z a1 y15) := foc_all
          refine z_goI (ws1 := (WMod z a1 y15)) (va_runV (As := [.int x8, .int p1]) (rest := []) ⟨hx, hb, hml, hown, hts⟩ (tX7_ferryBy l D z tt a1 y9 x8 p1 fu r14 y15 q16 _) (cwV 2 hts (gV4 aw1093 aw1095 aw42 aw52 aw1096) rfl rfl rfl (by decide +kernel) ⟨Nat.le_of_ble_eq_true rfl, Nat.le_of_ble_eq_true rfl⟩) (z_preV hK hP hD hS hA hT hN hfo (va_recv hK hP (ci := 7) (q0 := 0) rfl rfl)) rfl rfl hl.1 rfl (lv_room (Nat.le_of_ble_eq_true rfl)) dX7_better_42 ⟨Nat.zero_le _, Nat.zero_le _⟩) hP hD hS hA hfo (fun H locs hP hD hS => ?_)
          refine lv_istore (lv' := [(6, .int r14), (0, .ref (a1 0)), (1, .int p1), (3, .int x6), (4, .int x7), (5, .int x8)]) hx hb dX7_better_45 hl (by decide) rfl (fun ls hl => ?_)
          refine lv_iload hx hb dX7_better_47 (lv_at hl 0 rfl) ?_
          refine lv_iload hx hb dX7_better_49 (lv_at hl 4 rfl) ?_
          refine lv_icmp_lt (tgt := 57) hx hb dX7_better_51 (by decide) (fun c17 => ?_) (fun c17 => ?_)
          · have hf := if_t c17 hf
            refine lv_iload hx hb dX7_better_57 (lv_at hl 5 rfl) ?_
            refine lv_istore_n (lv' := [(3, .int x8), (6, .int r14), (0, .ref (a1 0)), (1, .int p1), (4, .int x7), (5, .int x8)]) hx hb dX7_better_59 rfl hl (by decide) rfl (fun ls hl => ?_)
            refine lv_iload hx hb dX7_better_60 (lv_at hl 1 rfl) ?_
            refine lv_istore (lv' := [(4, .int r14), (3, .int x8), (6, .int r14), (0, .ref (a1 0)), (1, .int p1), (5, .int x8)]) hx hb dX7_better_62 hl (by decide) rfl (fun ls hl => ?_)
            obtain ⟨x18, ex18⟩ : ∃ y : Int32, y = x8 + 1 := ⟨_, rfl⟩
            have hf := lt_use ex18 hf
            refine lv_iinc (v := x18) (lv' := [(5, .int x18), (4, .int r14), (3, .int x8), (6, .int r14), (0, .ref (a1 0)), (1, .int p1)]) hx hb dX7_better_64 hl (k := 5) rfl (by rw [ex18]; rfl) (by decide) rfl (fun ls hl => ?_)
            refine lv_goto (tgt := 31) hx hb dX7_better_67 (by decide) ?_
            exact ih12 _ _ _ _ _ _ hP hD hS _ (lv_sub hl [4, 5, 2, 1, 0] rfl) hf
          · have hf := if_f c17 hf
            refine lv_goto (tgt := 64) hx hb dX7_better_54 (by decide) ?_
            obtain ⟨x19, ex19⟩ : ∃ y : Int32, y = x8 + 1 := ⟨_, rfl⟩
            have hf := lt_use ex19 hf
            refine lv_iinc (v := x19) (lv' := [(5, .int x19), (6, .int r14), (0, .ref (a1 0)), (1, .int p1), (3, .int x6), (4, .int x7)]) hx hb dX7_better_64 hl (k := 5) rfl (by rw [ex19]; rfl) (by decide) rfl (fun ls hl => ?_)
            refine lv_goto (tgt := 31) hx hb dX7_better_67 (by decide) ?_
            exact ih12 _ _ _ _ _ _ hP hD hS _ (lv_sub hl [2, 3, 4, 5, 0] rfl) hf
    exact L31_F10 fu _ _ _ _ _ _ hP hD hS _ (lv_sub hl [4, 5, 2, 1, 0] rfl) hf
  · have hf := if_f c3 hf
    refine lv_aload_n hx hb dX7_better_12 rfl (lv_at hl 1 rfl) ?_
    refine lv_iload_n hx hb dX7_better_13 rfl (lv_at hl 0 rfl) ?_
    obtain ⟨r20, y21, q22, hf⟩ := bd2_use hf
    have hfo : Foc (WMod z a1 m1) (WMod z a1 m1) (WMod z a1 y21) (WMod z a1 y21) := foc_all
    refine z_goI (ws1 := (WMod z a1 y21)) (va_runV (As := [.int r1]) (rest := []) ⟨hx, hb, hml, hown, hts⟩ (tX7_no l D z tt a1 m1 r1 fu r20 y21 q22 _) (cwV 1 hts (gV4 aw843 aw845 aw1 aw52 aw846) rfl rfl rfl (by decide +kernel) ⟨Nat.le_of_ble_eq_true rfl, Nat.le_of_ble_eq_true rfl⟩) (z_preV hK hP hD hS hA hT hN hfo (va_recv hK hP (ci := 7) (q0 := 0) rfl rfl)) rfl rfl hl.1 rfl (lv_room (Nat.le_of_ble_eq_true rfl)) dX7_better_14 ⟨Nat.zero_le _, Nat.zero_le _⟩) hP hD hS hA hfo (fun H locs hP hD hS => ?_)
    obtain ⟨rfl, rfl⟩ := so2 hf
    exact ret_i hx hb hr hlocks hK hP hD hS dX7_better_17
def pX7_follow (fu : Nat) (m1 : Mem) : Option (Int32 × Mem) :=
  bd (pX7_passesAll fu m1 1 1) fun y1 =>
  zl4 (fun g8 (x3 : Int32) (x4 : Int32) (x5 : Int32) (y6 : Mem) =>
    if (y6 0 15) ≤ x5 then
      bd (pX7_passesAll fu y6 1 0) fun y11 =>
      some (x3, y11)
    else
      bd (pX7_passesAll fu y6 1 0) fun y13 =>
      ck x5 8 <|
      lt' ((y13 3 x5.toNatClampNeg) : Int32) fun x16 =>
      ck x5 8 <|
      lt' ((y13 4 x5.toNatClampNeg) : Int32) fun x18 =>
      zl2 (fun g22 (x19 : Int32) (y20 : Mem) =>
        if (y20 0 15) ≤ x19 then
          bd2 (pX7_costAnew fu y20) fun r25 y26 =>
          if r25 < x4 then
            lt' (x5 + 1) fun x29 =>
            g8 x5 r25 x29 y26
          else
            lt' (x5 + 1) fun x30 =>
            g8 x3 x4 x30 y26
        else
          ck x19 8 <|
          lt' (up2 y20 3 x19.toNatClampNeg x16) fun y31 =>
          ck x19 8 <|
          lt' (up2 y31 4 x19.toNatClampNeg x18) fun y33 =>
          lt' (x19 + 1) fun x35 =>
          g22 x35 y33) fu 0 y13) fu (-9) 1000000000 0 y1
set_option maxHeartbeats 4000000 in
set_option maxRecDepth 100000 in
theorem tX7_follow (l : Launch) (D : va_G) (z tt : Nat → Nat) (a1 : Nat → Nat) (m1 : Mem)  (fu : Nat) (rr : Int32) (m1' : Mem) (hf : pX7_follow fu m1 = some (rr, m1')) : MetI l yX7_follow wsX7_follow ({ frames := 8, cells := 0, slots := 0, locals := 176 } : Room) D z tt ([.ref (a1 0)] : List Value) (WMod z a1 m1) rr (WMod z a1 m1') := by
  intro sz
  refine Met.ofW (cc := cX7_follow) (maxL := 7) (ret := (some .int)) (by decide) rfl ?_
  intro p e s m args below meth c s₁ B hml hv
  obtain ⟨rfl, hsz, hP, hK, hD0, hT, hN⟩ := hv
  have hx := B.exec
  have hb := B.bytes
  have hr := B.returns
  have hts : ∀ w ∈ wsA, w.before ([.ref (a1 0)] : List Value).toArray s = true := fun w h => atoms_spec (ws := wsX7_follow) B.pre w (List.mem_cons_of_mem _ h)
  have hown : s.vm.findClass RX7 = some m.cls := findClass_of_methodNamed B.named
  have hlocks := B.notSynchronized
  subst hsz
  have hD := hD0.self (sz := s.heap.size)
  generalize hAe : va_A (WMod z a1 m1) s.heap.size = A at hD hT ⊢
  have hA : ∀ q : Nat, s.heap.size ≤ q → A q := fun q h => by rw [← hAe]; exact Or.inr h
  have hS : va_S A s.heap s.heap [] := va_S.rf
  have hl := lv_entry ([.ref (a1 0)] : List Value) (n := 7) (Nat.le_of_ble_eq_true rfl)
  rw [lg_entry_eq]
  generalize (lg_sl ([.ref (a1 0)] : List Value) ++ List.replicate (7 - (lg_sl ([.ref (a1 0)] : List Value)).length) Slot.unset).toArray = ls at hl ⊢
  have hl : lv_has ls 7 [(0, .ref (a1 0))] := hl
  unfold pX7_follow at hf
  refine lv_aload_n hx hb dX7_follow_0 rfl (lv_at hl 0 rfl) ?_
  refine lv_iconst (v := 1) hx hb dX7_follow_1 (by decide) ?_
  refine lv_iconst (v := 1) hx hb dX7_follow_2 (by decide) ?_
  obtain ⟨y1, q2, hf⟩ := bd_use hf
  have hfo : Foc (WMod z a1 m1) (WMod z a1 m1) (WMod z a1 y1) (WMod z a1 y1) := foc_all
  refine z_goV (ws1 := (WMod z a1 y1)) (va_runV (As := [.int 1, .int 1]) (rest := []) ⟨hx, hb, hml, hown, hts⟩ (tX7_passesAll l D z tt a1 m1 1 1 fu y1 q2 _) (cwV 2 hts (gV4 aw874 aw876 aw7 aw52 aw877) rfl rfl rfl (by decide +kernel) ⟨Nat.le_of_ble_eq_true rfl, Nat.le_of_ble_eq_true rfl⟩) (z_preV hK hP hD hS hA hT hN hfo (va_recv hK hP (ci := 7) (q0 := 0) rfl rfl)) rfl rfl hl.1 rfl (lv_room (Nat.le_of_ble_eq_true rfl)) dX7_follow_3 ⟨Nat.zero_le _, Nat.zero_le _⟩) hP hD hS hA hfo (fun H locs hP hD hS => ?_)
  refine lv_bipush (v := (-9)) hx hb dX7_follow_6 (by decide) ?_
  refine lv_istore_n (lv' := [(1, .int (-9)), (0, .ref (a1 0))]) hx hb dX7_follow_8 rfl hl (by decide) rfl (fun ls hl => ?_)
  refine lv_ldc (v := 1000000000) hx hb hown (hts _ aw1036) dX7_follow_9 ?_
  refine lv_istore_n (lv' := [(2, .int 1000000000), (1, .int (-9)), (0, .ref (a1 0))]) hx hb dX7_follow_11 rfl hl (by decide) rfl (fun ls hl => ?_)
  refine lv_iconst (v := 0) hx hb dX7_follow_12 (by decide) ?_
  refine lv_istore_n (lv' := [(3, .int 0), (2, .int 1000000000), (1, .int (-9)), (0, .ref (a1 0))]) hx hb dX7_follow_13 rfl hl (by decide) rfl (fun ls hl => ?_)
  obtain ⟨F7, eF7, hf⟩ := zl4_use hf
  have L14_F7 : ∀ (n : Nat) (x3 : Int32) (x4 : Int32) (x5 : Int32) (y6 : Mem) (H : Heap) (locs : List Loc), va_P D vwCl (WMod z a1 y6) H → va_D A (WMod z a1 y6) → va_S A s.heap H locs → ∀ (ls : Array Slot), lv_has ls 7 [(0, .ref (a1 0)), (1, .int x3), (2, .int x4), (3, .int x5)] → zl4 F7 n x3 x4 x5 y6 = some (rr, m1') → GI p l e (headSpec wsX7_follow ({ frames := 8, cells := 0, slots := 0, locals := 176 } : Room)).room s m ([.ref (a1 0)] : List Value).toArray below meth c A D z rr (WMod z a1 m1') H locs (F0 m 14 ls []) := by
    intro n
    induction n with
    | zero =>
      intro x3 x4 x5 y6 H locs hP hD hS ls hl hf
      exact no_none hf
    | succ n ih9 =>
      intro x3 x4 x5 y6 H locs hP hD hS ls hl hf
      have hf := zl4_s eF7 hf
      refine lv_iload_n hx hb dX7_follow_14 rfl (lv_at hl 3 rfl) ?_
      refine lv_aload_n hx hb dX7_follow_15 rfl (lv_at hl 0 rfl) ?_
      refine va_get (D := D) (ci := 7) (v := .int (y6 0 15)) (C := RX7) (T := TX7) (N := 33) hx hb hts iX7 hown hK hP 0 rfl rfl 15 (by decide) (hts _ aw751) (fun _ h9 => h9) rfl dX7_follow_16 ?_
      refine lv_icmp_ge (tgt := 106) hx hb dX7_follow_19 (by decide) (fun c10 => ?_) (fun c10 => ?_)
      · have hf := if_t c10 hf
        refine lv_aload_n hx hb dX7_follow_106 rfl (lv_at hl 0 rfl) ?_
        refine lv_iconst (v := 1) hx hb dX7_follow_107 (by decide) ?_
        refine lv_iconst (v := 0) hx hb dX7_follow_108 (by decide) ?_
        obtain ⟨y11, q12, hf⟩ := bd_use hf
        have hfo : Foc (WMod z a1 y6) (WMod z a1 y6) (WMod z a1 y11) (WMod z a1 y11) := foc_all
        refine z_goV (ws1 := (WMod z a1 y11)) (va_runV (As := [.int 1, .int 0]) (rest := []) ⟨hx, hb, hml, hown, hts⟩ (tX7_passesAll l D z tt a1 y6 1 0 fu y11 q12 _) (cwV 2 hts (gV4 aw874 aw876 aw7 aw52 aw877) rfl rfl rfl (by decide +kernel) ⟨Nat.le_of_ble_eq_true rfl, Nat.le_of_ble_eq_true rfl⟩) (z_preV hK hP hD hS hA hT hN hfo (va_recv hK hP (ci := 7) (q0 := 0) rfl rfl)) rfl rfl hl.1 rfl (lv_room (Nat.le_of_ble_eq_true rfl)) dX7_follow_109 ⟨Nat.zero_le _, Nat.zero_le _⟩) hP hD hS hA hfo (fun H locs hP hD hS => ?_)
        refine lv_iload_n hx hb dX7_follow_112 rfl (lv_at hl 1 rfl) ?_
        obtain ⟨rfl, rfl⟩ := so2 hf
        exact ret_i hx hb hr hlocks hK hP hD hS dX7_follow_113
      · have hf := if_f c10 hf
        refine lv_aload_n hx hb dX7_follow_22 rfl (lv_at hl 0 rfl) ?_
        refine lv_iconst (v := 1) hx hb dX7_follow_23 (by decide) ?_
        refine lv_iconst (v := 0) hx hb dX7_follow_24 (by decide) ?_
        obtain ⟨y13, q14, hf⟩ := bd_use hf
        have hfo : Foc (WMod z a1 y6) (WMod z a1 y6) (WMod z a1 y13) (WMod z a1 y13) := foc_all
        refine z_goV (ws1 := (WMod z a1 y13)) (va_runV (As := [.int 1, .int 0]) (rest := []) ⟨hx, hb, hml, hown, hts⟩ (tX7_passesAll l D z tt a1 y6 1 0 fu y13 q14 _) (cwV 2 hts (gV4 aw874 aw876 aw7 aw52 aw877) rfl rfl rfl (by decide +kernel) ⟨Nat.le_of_ble_eq_true rfl, Nat.le_of_ble_eq_true rfl⟩) (z_preV hK hP hD hS hA hT hN hfo (va_recv hK hP (ci := 7) (q0 := 0) rfl rfl)) rfl rfl hl.1 rfl (lv_room (Nat.le_of_ble_eq_true rfl)) dX7_follow_25 ⟨Nat.zero_le _, Nat.zero_le _⟩) hP hD hS hA hfo (fun H locs hP hD hS => ?_)
        refine lv_aload_n hx hb dX7_follow_28 rfl (lv_at hl 0 rfl) ?_
        refine va_get (D := D) (ci := 7) (v := .ref (a1 3)) (C := RX7) (T := TX7) (N := 33) hx hb hts iX7 hown hK hP 0 rfl rfl 2 (by decide) (hts _ aw738) (fun _ h9 => h9) rfl dX7_follow_29 ?_
        refine lv_iload_n hx hb dX7_follow_32 rfl (lv_at hl 3 rfl) ?_
        obtain ⟨h15, hf⟩ := ck_use hf
        refine z_iald hx hb hK hP 3 rfl h15 dX7_follow_33 ?_
        refine lv_topi (fun x16 ex16 => ?_)
        have hf := lt_use ex16 hf
        refine lv_istore (lv' := [(4, .int x16), (0, .ref (a1 0)), (1, .int x3), (2, .int x4), (3, .int x5)]) hx hb dX7_follow_34 hl (by decide) rfl (fun ls hl => ?_)
        refine lv_aload_n hx hb dX7_follow_36 rfl (lv_at hl 1 rfl) ?_
        refine va_get (D := D) (ci := 7) (v := .ref (a1 4)) (C := RX7) (T := TX7) (N := 33) hx hb hts iX7 hown hK hP 0 rfl rfl 3 (by decide) (hts _ aw739) (fun _ h9 => h9) rfl dX7_follow_37 ?_
        refine lv_iload_n hx hb dX7_follow_40 rfl (lv_at hl 4 rfl) ?_
        obtain ⟨h17, hf⟩ := ck_use hf
        refine z_iald hx hb hK hP 4 rfl h17 dX7_follow_41 ?_
        refine lv_topi (fun x18 ex18 => ?_)
        have hf := lt_use ex18 hf
        refine lv_istore (lv' := [(5, .int x18), (4, .int x16), (0, .ref (a1 0)), (1, .int x3), (2, .int x4), (3, .int x5)]) hx hb dX7_follow_42 hl (by decide) rfl (fun ls hl => ?_)
        refine lv_iconst (v := 0) hx hb dX7_follow_44 (by decide) ?_
        refine lv_istore (lv' := [(6, .int 0), (5, .int x18), (4, .int x16), (0, .ref (a1 0)), (1, .int x3), (2, .int x4), (3, .int x5)]) hx hb dX7_follow_45 hl (by decide) rfl (fun ls hl => ?_)
        obtain ⟨F21, eF21, hf⟩ := zl2_use hf
        have L47_F21 : ∀ (n : Nat) (x19 : Int32) (y20 : Mem) (H : Heap) (locs : List Loc), va_P D vwCl (WMod z a1 y20) H → va_D A (WMod z a1 y20) → va_S A s.heap H locs → ∀ (ls : Array Slot), lv_has ls 7 [(0, .ref (a1 0)), (1, .int x3), (2, .int x4), (3, .int x5), (4, .int x16), (5, .int x18), (6, .int x19)] → zl2 F21 n x19 y20 = some (rr, m1') → GI p l e (headSpec wsX7_follow ({ frames := 8, cells := 0, slots := 0, locals := 176 } : Room)).room s m ([.ref (a1 0)] : List Value).toArray below meth c A D z rr (WMod z a1 m1') H locs (F0 m 47 ls []) := by
          intro n
          induction n with
          | zero =>
            intro x19 y20 H locs hP hD hS ls hl hf
            exact no_none hf
          | succ n ih23 =>
            intro x19 y20 H locs hP hD hS ls hl hf
            have hf := zl2_s eF21 hf
            refine lv_iload hx hb dX7_follow_47 (lv_at hl 6 rfl) ?_
            refine lv_aload_n hx hb dX7_follow_49 rfl (lv_at hl 0 rfl) ?_
            refine va_get (D := D) (ci := 7) (v := .int (y20 0 15)) (C := RX7) (T := TX7) (N := 33) hx hb hts iX7 hown hK hP 0 rfl rfl 15 (by decide) (hts _ aw751) (fun _ h9 => h9) rfl dX7_follow_50 ?_
            refine lv_icmp_ge (tgt := 80) hx hb dX7_follow_53 (by decide) (fun c24 => ?_) (fun c24 => ?_)
            · have hf := if_t c24 hf
              refine lv_aload_n hx hb dX7_follow_80 rfl (lv_at hl 0 rfl) ?_
              obtain ⟨r25, y26, q27, hf⟩ := bd2_use hf
              have hfo : Foc (WMod z a1 y20) (WMod z a1 y20) (WMod z a1 y26) (WMod z a1 y26) := foc_all
              refine z_goI (ws1 := (WMod z a1 y26)) (va_runV (As := []) (rest := []) ⟨hx, hb, hml, hown, hts⟩ (tX7_costAnew l D z tt a1 y20  fu r25 y26 q27 _) (cwV 0 hts (gV4 aw1037 aw1039 aw34 aw52 aw1040) rfl rfl rfl (by decide +kernel) ⟨Nat.le_of_ble_eq_true rfl, Nat.le_of_ble_eq_true rfl⟩) (z_preV hK hP hD hS hA hT hN hfo (va_recv hK hP (ci := 7) (q0 := 0) rfl rfl)) rfl rfl hl.1 rfl (lv_room (Nat.le_of_ble_eq_true rfl)) dX7_follow_81 ⟨Nat.zero_le _, Nat.zero_le _⟩) hP hD hS hA hfo (fun H locs hP hD hS => ?_)
              refine lv_istore (lv' := [(6, .int r25), (0, .ref (a1 0)), (1, .int x3), (2, .int x4), (3, .int x5), (4, .int x16), (5, .int x18)]) hx hb dX7_follow_84 hl (by decide) rfl (fun ls hl => ?_)
              refine lv_iload hx hb dX7_follow_86 (lv_at hl 0 rfl) ?_
              refine lv_iload_n hx hb dX7_follow_88 rfl (lv_at hl 3 rfl) ?_
              refine lv_icmp_lt (tgt := 95) hx hb dX7_follow_89 (by decide) (fun c28 => ?_) (fun c28 => ?_)
              · have hf := if_t c28 hf
                refine lv_iload_n hx hb dX7_follow_95 rfl (lv_at hl 4 rfl) ?_
                refine lv_istore_n (lv' := [(1, .int x5), (6, .int r25), (0, .ref (a1 0)), (2, .int x4), (3, .int x5), (4, .int x16), (5, .int x18)]) hx hb dX7_follow_96 rfl hl (by decide) rfl (fun ls hl => ?_)
                refine lv_iload hx hb dX7_follow_97 (lv_at hl 1 rfl) ?_
                refine lv_istore_n (lv' := [(2, .int r25), (1, .int x5), (6, .int r25), (0, .ref (a1 0)), (3, .int x5), (4, .int x16), (5, .int x18)]) hx hb dX7_follow_99 rfl hl (by decide) rfl (fun ls hl => ?_)
                obtain ⟨x29, ex29⟩ : ∃ y : Int32, y = x5 + 1 := ⟨_, rfl⟩
                have hf := lt_use ex29 hf
                refine lv_iinc (v := x29) (lv' := [(3, .int x29), (2, .int r25), (1, .int x5), (6, .int r25), (0, .ref (a1 0)), (4, .int x16), (5, .int x18)]) hx hb dX7_follow_100 hl (k := 4) rfl (by rw [ex29]; rfl) (by decide) rfl (fun ls hl => ?_)
                refine lv_goto (tgt := 14) hx hb dX7_follow_103 (by decide) ?_
                exact ih9 _ _ _ _ _ _ hP hD hS _ (lv_sub hl [4, 2, 1, 0] rfl) hf
              · have hf := if_f c28 hf
                refine lv_goto (tgt := 100) hx hb dX7_follow_92 (by decide) ?_
                obtain ⟨x30, ex30⟩ : ∃ y : Int32, y = x5 + 1 := ⟨_, rfl⟩
                have hf := lt_use ex30 hf
                refine lv_iinc (v := x30) (lv' := [(3, .int x30), (6, .int r25), (0, .ref (a1 0)), (1, .int x3), (2, .int x4), (4, .int x16), (5, .int x18)]) hx hb dX7_follow_100 hl (k := 4) rfl (by rw [ex30]; rfl) (by decide) rfl (fun ls hl => ?_)
                refine lv_goto (tgt := 14) hx hb dX7_follow_103 (by decide) ?_
                exact ih9 _ _ _ _ _ _ hP hD hS _ (lv_sub hl [2, 3, 4, 0] rfl) hf
            · have hf := if_f c24 hf
              refine lv_aload_n hx hb dX7_follow_56 rfl (lv_at hl 0 rfl) ?_
              refine va_get (D := D) (ci := 7) (v := .ref (a1 3)) (C := RX7) (T := TX7) (N := 33) hx hb hts iX7 hown hK hP 0 rfl rfl 2 (by decide) (hts _ aw738) (fun _ h9 => h9) rfl dX7_follow_57 ?_
              refine lv_iload hx hb dX7_follow_60 (lv_at hl 6 rfl) ?_
              refine lv_iload hx hb dX7_follow_62 (lv_at hl 4 rfl) ?_
              obtain ⟨h32, hf⟩ := ck_use hf
              refine z_iast hx hb hK hP hD hS 3 rfl h32 dX7_follow_64 (fun (w9 : Mem) => (WMod z a1 w9)) (up2 y20 3 x19.toNatClampNeg x16) rfl (fun y31 ey31 H locs hP hD hS => ?_)
              have hf := lt_use ey31 hf
              refine lv_aload_n hx hb dX7_follow_65 rfl (lv_at hl 0 rfl) ?_
              refine va_get (D := D) (ci := 7) (v := .ref (a1 4)) (C := RX7) (T := TX7) (N := 33) hx hb hts iX7 hown hK hP 0 rfl rfl 3 (by decide) (hts _ aw739) (fun _ h9 => h9) rfl dX7_follow_66 ?_
              refine lv_iload hx hb dX7_follow_69 (lv_at hl 6 rfl) ?_
              refine lv_iload hx hb dX7_follow_71 (lv_at hl 5 rfl) ?_
              obtain ⟨h34, hf⟩ := ck_use hf
              refine z_iast hx hb hK hP hD hS 4 rfl h34 dX7_follow_73 (fun (w9 : Mem) => (WMod z a1 w9)) (up2 y31 4 x19.toNatClampNeg x18) rfl (fun y33 ey33 H locs hP hD hS => ?_)
              have hf := lt_use ey33 hf
              obtain ⟨x35, ex35⟩ : ∃ y : Int32, y = x19 + 1 := ⟨_, rfl⟩
              have hf := lt_use ex35 hf
              refine lv_iinc (v := x35) (lv' := [(6, .int x35), (0, .ref (a1 0)), (1, .int x3), (2, .int x4), (3, .int x5), (4, .int x16), (5, .int x18)]) hx hb dX7_follow_74 hl (k := 6) rfl (by rw [ex35]; rfl) (by decide) rfl (fun ls hl => ?_)
              refine lv_goto (tgt := 47) hx hb dX7_follow_77 (by decide) ?_
              exact ih23 _ _ _ _ hP hD hS _ (lv_sub hl [1, 2, 3, 4, 5, 6, 0] rfl) hf
        exact L47_F21 fu _ _ _ _ hP hD hS _ (lv_sub hl [3, 4, 5, 6, 2, 1, 0] rfl) hf
  exact L14_F7 fu _ _ _ _ _ _ hP hD hS _ (lv_sub hl [3, 2, 1, 0] rfl) hf
