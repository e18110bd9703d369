def pX7_row (fu : Nat) (m1 : Mem) (p1 : Int32) : Option (Int32 × Mem) :=
  bd (pX7_bound fu p1 0 99) fun r1 =>
  jn1 (fun (x3 : Int32) =>
    if x3 = 0 then
      ck (m1 0 32) 12 <|
      lt' (up2 m1 22 (m1 0 32).toNatClampNeg p1) fun y6 =>
      lt' (up2 y6 0 32 ((y6 0 32) + 1)) fun y8 =>
      some ((y8 0 32), y8)
    else
      bd2 (pX7_no fu m1 x3) fun r9 y10 =>
      some (r9, y10)) fun k4 =>
  if r1 = 0 then
    if (m1 0 32) = 12 then
      k4 (-6)
    else
      k4 r1
  else
    k4 r1
set_option maxHeartbeats 4000000 in
set_option maxRecDepth 100000 in
theorem tX7_row (l : Launch) (D : va_G) (z tt : Nat → Nat) (a1 : Nat → Nat) (m1 : Mem) (p1 : Int32) (fu : Nat) (rr : Int32) (m1' : Mem) (hf : pX7_row fu m1 p1 = some (rr, m1')) : MetI l yX7_row wsX7_row ({ frames := 1, cells := 0, slots := 0, locals := 22 } : Room) D z tt ([.ref (a1 0), .int p1] : List Value) (WMod z a1 m1) rr (WMod z a1 m1') := by
  intro sz
  refine Met.ofW (cc := cX7_row) (maxL := 3) (ret := (some .int)) (by decide) rfl ?_
  intro p e s m args below meth c s₁ B hml hv
  obtain ⟨rfl, hsz, hP, hK, hD0, hT, hN⟩ := hv
  have hx := B.exec
  have hb := B.bytes
  have hr := B.returns
  have hts : ∀ w ∈ wsA, w.before ([.ref (a1 0), .int p1] : List Value).toArray s = true := fun w h => atoms_spec (ws := wsX7_row) B.pre w (List.mem_cons_of_mem _ h)
  have hown : s.vm.findClass RX7 = some m.cls := findClass_of_methodNamed B.named
  have hlocks := B.notSynchronized
  subst hsz
  have hD := hD0.self (sz := s.heap.size)
  generalize hAe : va_A (WMod z a1 m1) s.heap.size = A at hD hT ⊢
  have hA : ∀ q : Nat, s.heap.size ≤ q → A q := fun q h => by rw [← hAe]; exact Or.inr h
  have hS : va_S A s.heap s.heap [] := va_S.rf
  have hl := lv_entry ([.ref (a1 0), .int p1] : List Value) (n := 3) (Nat.le_of_ble_eq_true rfl)
  rw [lg_entry_eq]
  generalize (lg_sl ([.ref (a1 0), .int p1] : List Value) ++ List.replicate (3 - (lg_sl ([.ref (a1 0), .int p1] : List Value)).length) Slot.unset).toArray = ls at hl ⊢
  have hl : lv_has ls 3 [(0, .ref (a1 0)), (1, .int p1)] := hl
  unfold pX7_row at hf
  refine lv_iload_n hx hb dX7_row_0 rfl (lv_at hl 1 rfl) ?_
  refine lv_iconst (v := 0) hx hb dX7_row_1 (by decide) ?_
  refine lv_bipush (v := 99) hx hb dX7_row_2 (by decide) ?_
  obtain ⟨r1, q2, hf⟩ := bd_use hf
  have hfo : Foc (WMod z a1 m1) ([] : va_W) (WMod z a1 m1) ([] : va_W) := foc_nil
  refine z_goI (ws1 := (WMod z a1 m1)) (va_runS (As := [.int p1, .int 0, .int 99]) (rest := []) ⟨hx, hb, hml, hown, hts⟩ (tX7_bound l D z tt  p1 0 99 fu r1 q2 _) (va_cwS 3 hts (gS3 aw840 aw841 aw52 aw842) rfl rfl rfl (by decide +kernel) ⟨Nat.le_of_ble_eq_true rfl, Nat.le_of_ble_eq_true rfl⟩) (z_preS hK hP hD hS hA hT hN hfo) rfl rfl hl.1 rfl (lv_room (Nat.le_of_ble_eq_true rfl)) dX7_row_4 ⟨Nat.zero_le _, Nat.zero_le _⟩) hP hD hS hA hfo (fun H locs hP hD hS => ?_)
  refine lv_istore_n (lv' := [(2, .int r1), (0, .ref (a1 0)), (1, .int p1)]) hx hb dX7_row_7 rfl hl (by decide) rfl (fun ls hl => ?_)
  refine lv_iload_n hx hb dX7_row_8 rfl (lv_at hl 0 rfl) ?_
  obtain ⟨k4, ek4, hf⟩ := jn1_use hf
  have B24_k4 : ∀ (x3 : Int32) (H : Heap) (locs : List Loc), va_P D vwCl (WMod z a1 m1) H → va_D A (WMod z a1 m1) → va_S A s.heap H locs → ∀ (ls : Array Slot), lv_has ls 3 [(0, .ref (a1 0)), (1, .int p1), (2, .int x3)] → k4 x3 = some (rr, m1') → GI p l e (headSpec wsX7_row ({ frames := 1, cells := 0, slots := 0, locals := 22 } : Room)).room s m ([.ref (a1 0), .int p1] : List Value).toArray below meth c A D z rr (WMod z a1 m1') H locs (F0 m 24 ls []) := by
    intro x3 H locs hP hD hS ls hl hf
    have hf := jn1_ap ek4 hf
    refine lv_iload_n hx hb dX7_row_24 rfl (lv_at hl 2 rfl) ?_
    refine lv_if_eq (tgt := 34) hx hb dX7_row_25 (by decide) (fun c5 => ?_) (fun c5 => ?_)
    · have hf := if_t c5 hf
      refine lv_aload_n hx hb dX7_row_34 rfl (lv_at hl 0 rfl) ?_
      refine va_get (D := D) (ci := 7) (v := .ref (a1 22)) (C := RX7) (T := TX7) (N := 33) hx hb hts iX7 hown hK hP 0 rfl rfl 31 (by decide) (hts _ aw767) (fun _ h9 => h9) rfl dX7_row_35 ?_
      refine lv_aload_n hx hb dX7_row_38 rfl (lv_at hl 0 rfl) ?_
      refine va_get (D := D) (ci := 7) (v := .int (m1 0 32)) (C := RX7) (T := TX7) (N := 33) hx hb hts iX7 hown hK hP 0 rfl rfl 32 (by decide) (hts _ aw768) (fun _ h9 => h9) rfl dX7_row_39 ?_
      refine lv_iload_n hx hb dX7_row_42 rfl (lv_at hl 1 rfl) ?_
      obtain ⟨h7, hf⟩ := ck_use hf
      refine z_iast hx hb hK hP hD hS 22 rfl h7 dX7_row_43 (fun (w9 : Mem) => (WMod z a1 w9)) (up2 m1 22 (m1 0 32).toNatClampNeg p1) rfl (fun y6 ey6 H locs hP hD hS => ?_)
      have hf := lt_use ey6 hf
      refine lv_aload_n hx hb dX7_row_44 rfl (lv_at hl 0 rfl) ?_
      refine lv_dup hx hb dX7_row_45 rfl ?_
      refine va_get (D := D) (ci := 7) (v := .int (y6 0 32)) (C := RX7) (T := TX7) (N := 33) hx hb hts iX7 hown hK hP 0 rfl rfl 32 (by decide) (hts _ aw768) (fun _ h9 => h9) rfl dX7_row_46 ?_
      refine lv_iconst (v := 1) hx hb dX7_row_49 (by decide) ?_
      refine lv_iadd hx hb dX7_row_50 ?_
      refine z_put (ci := 7) (v := .int ((y6 0 32) + 1)) (ty := .int) (C := RX7) (T := TX7) (N := 33) hx hb hts iX7 tyX7 tyX7_ok nmX7 hown hK hP hD hS 0 rfl rfl 32 (by decide) (hts _ aw768) (fun _ h9 => h9) rfl (by decide +kernel) rfl rfl (Nat.le_of_ble_eq_true rfl) dX7_row_51 (fun (w9 : Mem) => (WMod z a1 w9)) (up2 y6 0 32 ((y6 0 32) + 1)) rfl (fun y8 ey8 H locs hP hD hS => ?_)
      have hf := lt_use ey8 hf
      refine lv_aload_n hx hb dX7_row_54 rfl (lv_at hl 0 rfl) ?_
      refine va_get (D := D) (ci := 7) (v := .int (y8 0 32)) (C := RX7) (T := TX7) (N := 33) hx hb hts iX7 hown hK hP 0 rfl rfl 32 (by decide) (hts _ aw768) (fun _ h9 => h9) rfl dX7_row_55 ?_
      obtain ⟨rfl, rfl⟩ := so2 hf
      exact ret_i hx hb hr hlocks hK hP hD hS dX7_row_58
    · have hf := if_f c5 hf
      refine lv_aload_n hx hb dX7_row_28 rfl (lv_at hl 0 rfl) ?_
      refine lv_iload_n hx hb dX7_row_29 rfl (lv_at hl 2 rfl) ?_
      obtain ⟨r9, y10, q11, hf⟩ := bd2_use hf
      have hfo : Foc (WMod z a1 m1) (WMod z a1 m1) (WMod z a1 y10) (WMod z a1 y10) := foc_all
      refine z_goI (ws1 := (WMod z a1 y10)) (va_runV (As := [.int x3]) (rest := []) ⟨hx, hb, hml, hown, hts⟩ (tX7_no l D z tt a1 m1 x3 fu r9 y10 q11 _) (cwV 1 hts (gV4 aw843 aw845 aw1 aw52 aw846) rfl rfl rfl (by decide +kernel) ⟨Nat.le_of_ble_eq_true rfl, Nat.le_of_ble_eq_true rfl⟩) (z_preV hK hP hD hS hA hT hN hfo (va_recv hK hP (ci := 7) (q0 := 0) rfl rfl)) rfl rfl hl.1 rfl (lv_room (Nat.le_of_ble_eq_true rfl)) dX7_row_30 ⟨Nat.zero_le _, Nat.zero_le _⟩) hP hD hS hA hfo (fun H locs hP hD hS => ?_)
      obtain ⟨rfl, rfl⟩ := so2 hf
      exact ret_i hx hb hr hlocks hK hP hD hS dX7_row_33
  refine lv_if_ne (tgt := 24) hx hb dX7_row_9 (by decide) (fun c12 => ?_) (fun c12 => ?_)
  · have hf := if_f c12 hf
    exact B24_k4 _ _ _ hP hD hS _ (lv_sub hl [1, 2, 0] rfl) hf
  · have hf := if_t c12 hf
    refine lv_aload_n hx hb dX7_row_12 rfl (lv_at hl 1 rfl) ?_
    refine va_get (D := D) (ci := 7) (v := .int (m1 0 32)) (C := RX7) (T := TX7) (N := 33) hx hb hts iX7 hown hK hP 0 rfl rfl 32 (by decide) (hts _ aw768) (fun _ h9 => h9) rfl dX7_row_13 ?_
    refine lv_bipush (v := 12) hx hb dX7_row_16 (by decide) ?_
    refine lv_icmp_ne (tgt := 24) hx hb dX7_row_18 (by decide) (fun c13 => ?_) (fun c13 => ?_)
    · have hf := if_f c13 hf
      exact B24_k4 _ _ _ hP hD hS _ (lv_sub hl [1, 2, 0] rfl) hf
    · have hf := if_t c13 hf
      refine lv_bipush (v := (-6)) hx hb dX7_row_21 (by decide) ?_
      refine lv_istore_n (lv' := [(2, .int (-6)), (0, .ref (a1 0)), (1, .int p1)]) hx hb dX7_row_23 rfl hl (by decide) rfl (fun ls hl => ?_)
      exact B24_k4 _ _ _ hP hD hS _ (lv_sub hl [1, 2, 0] rfl) hf
def pX7_judge (fu : Nat) (m1 : Mem) : Option (Int32 × Mem) :=
  lt' ((m1 0 32) : Int32) fun x1 =>
  lt' (up2 m1 0 32 0) fun y2 =>
  bd (pX7_passesAll fu y2 1 1) fun y3 =>
  zl3 (fun g9 (x5 : Int32) (x6 : Int32) (y7 : Mem) =>
    jn1 (fun (u0 : Unit) =>
      bd (pX7_passesAll fu y7 1 0) fun y12 =>
      some (x5, y12)) fun k11 =>
    if x1 ≤ x6 then
      k11 ()
    else
      if 0 ≤ x5 then
        k11 ()
      else
        bd (pX7_isOver fu y7) fun r16 =>
        jn1 (fun (y18 : Mem) =>
          ck x6 12 <|
          if (y18 11 0) = (y18 22 x6.toNatClampNeg) then
            lt' (x6 + 1) fun x22 =>
            g9 (-9) x22 y18
          else
            lt' (x6 + 1) fun x23 =>
            g9 x6 x23 y18) fun k19 =>
        if r16 = 0 then
          bd (pX7_goesMinute fu y7) fun y25 =>
          k19 y25
        else
          k19 y7) fu (-9) 0 y3
set_option maxHeartbeats 4000000 in
set_option maxRecDepth 100000 in
theorem tX7_judge (l : Launch) (D : va_G) (z tt : Nat → Nat) (a1 : Nat → Nat) (m1 : Mem)  (fu : Nat) (rr : Int32) (m1' : Mem) (hf : pX7_judge fu m1 = some (rr, m1')) : MetI l yX7_judge wsX7_judge ({ frames := 6, cells := 0, slots := 0, locals := 136 } : Room) D z tt ([.ref (a1 0)] : List Value) (WMod z a1 m1) rr (WMod z a1 m1') := by
  intro sz
  refine Met.ofW (cc := cX7_judge) (maxL := 4) (ret := (some .int)) (by decide) rfl ?_
  intro p e s m args below meth c s₁ B hml hv
  obtain ⟨rfl, hsz, hP, hK, hD0, hT, hN⟩ := hv
  have hx := B.exec
  have hb := B.bytes
  have hr := B.returns
  have hts : ∀ w ∈ wsA, w.before ([.ref (a1 0)] : List Value).toArray s = true := fun w h => atoms_spec (ws := wsX7_judge) B.pre w (List.mem_cons_of_mem _ h)
  have hown : s.vm.findClass RX7 = some m.cls := findClass_of_methodNamed B.named
  have hlocks := B.notSynchronized
  subst hsz
  have hD := hD0.self (sz := s.heap.size)
  generalize hAe : va_A (WMod z a1 m1) s.heap.size = A at hD hT ⊢
  have hA : ∀ q : Nat, s.heap.size ≤ q → A q := fun q h => by rw [← hAe]; exact Or.inr h
  have hS : va_S A s.heap s.heap [] := va_S.rf
  have hl := lv_entry ([.ref (a1 0)] : List Value) (n := 4) (Nat.le_of_ble_eq_true rfl)
  rw [lg_entry_eq]
  generalize (lg_sl ([.ref (a1 0)] : List Value) ++ List.replicate (4 - (lg_sl ([.ref (a1 0)] : List Value)).length) Slot.unset).toArray = ls at hl ⊢
  have hl : lv_has ls 4 [(0, .ref (a1 0))] := hl
  unfold pX7_judge at hf
  refine lv_aload_n hx hb dX7_judge_0 rfl (lv_at hl 0 rfl) ?_
  refine va_get (D := D) (ci := 7) (v := .int (m1 0 32)) (C := RX7) (T := TX7) (N := 33) hx hb hts iX7 hown hK hP 0 rfl rfl 32 (by decide) (hts _ aw768) (fun _ h9 => h9) rfl dX7_judge_1 ?_
  refine lv_topi (fun x1 ex1 => ?_)
  have hf := lt_use ex1 hf
  refine lv_istore_n (lv' := [(1, .int x1), (0, .ref (a1 0))]) hx hb dX7_judge_4 rfl hl (by decide) rfl (fun ls hl => ?_)
  refine lv_aload_n hx hb dX7_judge_5 rfl (lv_at hl 1 rfl) ?_
  refine lv_iconst (v := 0) hx hb dX7_judge_6 (by decide) ?_
  refine z_put (ci := 7) (v := .int 0) (ty := .int) (C := RX7) (T := TX7) (N := 33) hx hb hts iX7 tyX7 tyX7_ok nmX7 hown hK hP hD hS 0 rfl rfl 32 (by decide) (hts _ aw768) (fun _ h9 => h9) rfl (by decide +kernel) rfl rfl (Nat.le_of_ble_eq_true rfl) dX7_judge_7 (fun (w9 : Mem) => (WMod z a1 w9)) (up2 m1 0 32 0) rfl (fun y2 ey2 H locs hP hD hS => ?_)
  have hf := lt_use ey2 hf
  refine lv_aload_n hx hb dX7_judge_10 rfl (lv_at hl 1 rfl) ?_
  refine lv_iconst (v := 1) hx hb dX7_judge_11 (by decide) ?_
  refine lv_iconst (v := 1) hx hb dX7_judge_12 (by decide) ?_
  obtain ⟨y3, q4, hf⟩ := bd_use hf
  have hfo : Foc (WMod z a1 y2) (WMod z a1 y2) (WMod z a1 y3) (WMod z a1 y3) := foc_all
  refine z_goV (ws1 := (WMod z a1 y3)) (va_runV (As := [.int 1, .int 1]) (rest := []) ⟨hx, hb, hml, hown, hts⟩ (tX7_passesAll l D z tt a1 y2 1 1 fu y3 q4 _) (cwV 2 hts (gV4 aw874 aw876 aw7 aw52 aw877) rfl rfl rfl (by decide +kernel) ⟨Nat.le_of_ble_eq_true rfl, Nat.le_of_ble_eq_true rfl⟩) (z_preV hK hP hD hS hA hT hN hfo (va_recv hK hP (ci := 7) (q0 := 0) rfl rfl)) rfl rfl hl.1 rfl (lv_room (Nat.le_of_ble_eq_true rfl)) dX7_judge_13 ⟨Nat.zero_le _, Nat.zero_le _⟩) hP hD hS hA hfo (fun H locs hP hD hS => ?_)
  refine lv_bipush (v := (-9)) hx hb dX7_judge_16 (by decide) ?_
  refine lv_istore_n (lv' := [(2, .int (-9)), (1, .int x1), (0, .ref (a1 0))]) hx hb dX7_judge_18 rfl hl (by decide) rfl (fun ls hl => ?_)
  refine lv_iconst (v := 0) hx hb dX7_judge_19 (by decide) ?_
  refine lv_istore_n (lv' := [(3, .int 0), (2, .int (-9)), (1, .int x1), (0, .ref (a1 0))]) hx hb dX7_judge_20 rfl hl (by decide) rfl (fun ls hl => ?_)
  obtain ⟨F8, eF8, hf⟩ := zl3_use hf
  have L21_F8 : ∀ (n : Nat) (x5 : Int32) (x6 : Int32) (y7 : Mem) (H : Heap) (locs : List Loc), va_P D vwCl (WMod z a1 y7) H → va_D A (WMod z a1 y7) → va_S A s.heap H locs → ∀ (ls : Array Slot), lv_has ls 4 [(0, .ref (a1 0)), (1, .int x1), (2, .int x5), (3, .int x6)] → zl3 F8 n x5 x6 y7 = some (rr, m1') → GI p l e (headSpec wsX7_judge ({ frames := 6, cells := 0, slots := 0, locals := 136 } : Room)).room s m ([.ref (a1 0)] : List Value).toArray below meth c A D z rr (WMod z a1 m1') H locs (F0 m 21 ls []) := by
    intro n
    induction n with
    | zero =>
      intro x5 x6 y7 H locs hP hD hS ls hl hf
      exact no_none hf
    | succ n ih10 =>
      intro x5 x6 y7 H locs hP hD hS ls hl hf
      have hf := zl3_s eF8 hf
      refine lv_iload_n hx hb dX7_judge_21 rfl (lv_at hl 3 rfl) ?_
      refine lv_iload_n hx hb dX7_judge_22 rfl (lv_at hl 1 rfl) ?_
      obtain ⟨k11, ek11, hf⟩ := jn1_use hf
      have B69_k11 : ∀ (u0 : Unit) (H : Heap) (locs : List Loc), va_P D vwCl (WMod z a1 y7) H → va_D A (WMod z a1 y7) → va_S A s.heap H locs → ∀ (ls : Array Slot), lv_has ls 4 [(0, .ref (a1 0)), (2, .int x5)] → k11 u0 = some (rr, m1') → GI p l e (headSpec wsX7_judge ({ frames := 6, cells := 0, slots := 0, locals := 136 } : Room)).room s m ([.ref (a1 0)] : List Value).toArray below meth c A D z rr (WMod z a1 m1') H locs (F0 m 69 ls []) := by
        intro u0 H locs hP hD hS ls hl hf
        have hf := jn1_ap ek11 hf
        refine lv_aload_n hx hb dX7_judge_69 rfl (lv_at hl 0 rfl) ?_
        refine lv_iconst (v := 1) hx hb dX7_judge_70 (by decide) ?_
        refine lv_iconst (v := 0) hx hb dX7_judge_71 (by decide) ?_
        obtain ⟨y12, q13, hf⟩ := bd_use hf
        have hfo : Foc (WMod z a1 y7) (WMod z a1 y7) (WMod z a1 y12) (WMod z a1 y12) := foc_all
        refine z_goV (ws1 := (WMod z a1 y12)) (va_runV (As := [.int 1, .int 0]) (rest := []) ⟨hx, hb, hml, hown, hts⟩ (tX7_passesAll l D z tt a1 y7 1 0 fu y12 q13 _) (cwV 2 hts (gV4 aw874 aw876 aw7 aw52 aw877) rfl rfl rfl (by decide +kernel) ⟨Nat.le_of_ble_eq_true rfl, Nat.le_of_ble_eq_true rfl⟩) (z_preV hK hP hD hS hA hT hN hfo (va_recv hK hP (ci := 7) (q0 := 0) rfl rfl)) rfl rfl hl.1 rfl (lv_room (Nat.le_of_ble_eq_true rfl)) dX7_judge_72 ⟨Nat.zero_le _, Nat.zero_le _⟩) hP hD hS hA hfo (fun H locs hP hD hS => ?_)
        refine lv_iload_n hx hb dX7_judge_75 rfl (lv_at hl 1 rfl) ?_
        obtain ⟨rfl, rfl⟩ := so2 hf
        exact ret_i hx hb hr hlocks hK hP hD hS dX7_judge_76
      refine lv_icmp_ge (tgt := 69) hx hb dX7_judge_23 (by decide) (fun c14 => ?_) (fun c14 => ?_)
      · have hf := if_t c14 hf
        exact B69_k11 _ _ _ hP hD hS _ (lv_sub hl [0, 2] rfl) hf
      · have hf := if_f c14 hf
        refine lv_iload_n hx hb dX7_judge_26 rfl (lv_at hl 2 rfl) ?_
        refine lv_if_ge (tgt := 69) hx hb dX7_judge_27 (by decide) (fun c15 => ?_) (fun c15 => ?_)
        · have hf := if_t c15 hf
          exact B69_k11 _ _ _ hP hD hS _ (lv_sub hl [0, 2] rfl) hf
        · have hf := if_f c15 hf
          refine lv_aload_n hx hb dX7_judge_30 rfl (lv_at hl 0 rfl) ?_
          obtain ⟨r16, q17, hf⟩ := bd_use hf
          have hfo : Foc (WMod z a1 y7) (WMod z a1 y7) (WMod z a1 y7) (WMod z a1 y7) := foc_all
          refine z_goI (ws1 := (WMod z a1 y7)) (va_runV (As := []) (rest := []) ⟨hx, hb, hml, hown, hts⟩ (tX7_isOver l D z tt a1 y7  fu r16 q17 _) (cwV 0 hts (gV4 aw956 aw958 aw19 aw52 aw959) rfl rfl rfl (by decide +kernel) ⟨Nat.le_of_ble_eq_true rfl, Nat.le_of_ble_eq_true rfl⟩) (z_preV hK hP hD hS hA hT hN hfo (va_recv hK hP (ci := 7) (q0 := 0) rfl rfl)) rfl rfl hl.1 rfl (lv_room (Nat.le_of_ble_eq_true rfl)) dX7_judge_31 ⟨Nat.zero_le _, Nat.zero_le _⟩) hP hD hS hA hfo (fun H locs hP hD hS => ?_)
          obtain ⟨k19, ek19, hf⟩ := jn1_use hf
          have B41_k19 : ∀ (y18 : Mem) (H : Heap) (locs : List Loc), va_P D vwCl (WMod z a1 y18) H → va_D A (WMod z a1 y18) → va_S A s.heap H locs → ∀ (ls : Array Slot), lv_has ls 4 [(0, .ref (a1 0)), (1, .int x1), (3, .int x6)] → k19 y18 = some (rr, m1') → GI p l e (headSpec wsX7_judge ({ frames := 6, cells := 0, slots := 0, locals := 136 } : Room)).room s m ([.ref (a1 0)] : List Value).toArray below meth c A D z rr (WMod z a1 m1') H locs (F0 m 41 ls []) := by
            intro y18 H locs hP hD hS ls hl hf
            have hf := jn1_ap ek19 hf
            refine lv_aload_n hx hb dX7_judge_41 rfl (lv_at hl 0 rfl) ?_
            refine va_get (D := D) (ci := 7) (v := .ref (a1 11)) (C := RX7) (T := TX7) (N := 33) hx hb hts iX7 hown hK hP 0 rfl rfl 10 (by decide) (hts _ aw746) (fun _ h9 => h9) rfl dX7_judge_42 ?_
            refine lv_iconst (v := 0) hx hb dX7_judge_45 (by decide) ?_
            refine z_ialdc hx hb hK hP 11 rfl (i := 0) (k := 0) (by decide) (Nat.le_of_ble_eq_true rfl) dX7_judge_46 ?_
            refine lv_aload_n hx hb dX7_judge_47 rfl (lv_at hl 0 rfl) ?_
            refine va_get (D := D) (ci := 7) (v := .ref (a1 22)) (C := RX7) (T := TX7) (N := 33) hx hb hts iX7 hown hK hP 0 rfl rfl 31 (by decide) (hts _ aw767) (fun _ h9 => h9) rfl dX7_judge_48 ?_
            refine lv_iload_n hx hb dX7_judge_51 rfl (lv_at hl 2 rfl) ?_
            obtain ⟨h20, hf⟩ := ck_use hf
            refine z_iald hx hb hK hP 22 rfl h20 dX7_judge_52 ?_
            refine lv_icmp_eq (tgt := 60) hx hb dX7_judge_53 (by decide) (fun c21 => ?_) (fun c21 => ?_)
            · have hf := if_t c21 hf
              refine lv_bipush (v := (-9)) hx hb dX7_judge_60 (by decide) ?_
              refine lv_istore_n (lv' := [(2, .int (-9)), (0, .ref (a1 0)), (1, .int x1), (3, .int x6)]) hx hb dX7_judge_62 rfl hl (by decide) rfl (fun ls hl => ?_)
              obtain ⟨x22, ex22⟩ : ∃ y : Int32, y = x6 + 1 := ⟨_, rfl⟩
              have hf := lt_use ex22 hf
              refine lv_iinc (v := x22) (lv' := [(3, .int x22), (2, .int (-9)), (0, .ref (a1 0)), (1, .int x1)]) hx hb dX7_judge_63 hl (k := 3) rfl (by rw [ex22]; rfl) (by decide) rfl (fun ls hl => ?_)
              refine lv_goto (tgt := 21) hx hb dX7_judge_66 (by decide) ?_
              exact ih10 _ _ _ _ _ hP hD hS _ (lv_sub hl [2, 3, 1, 0] rfl) hf
            · have hf := if_f c21 hf
              refine lv_iload_n hx hb dX7_judge_56 rfl (lv_at hl 2 rfl) ?_
              refine lv_goto (tgt := 62) hx hb dX7_judge_57 (by decide) ?_
              refine lv_istore_n (lv' := [(2, .int x6), (0, .ref (a1 0)), (1, .int x1), (3, .int x6)]) hx hb dX7_judge_62 rfl hl (by decide) rfl (fun ls hl => ?_)
              obtain ⟨x23, ex23⟩ : ∃ y : Int32, y = x6 + 1 := ⟨_, rfl⟩
              have hf := lt_use ex23 hf
              refine lv_iinc (v := x23) (lv' := [(3, .int x23), (2, .int x6), (0, .ref (a1 0)), (1, .int x1)]) hx hb dX7_judge_63 hl (k := 3) rfl (by rw [ex23]; rfl) (by decide) rfl (fun ls hl => ?_)
              refine lv_goto (tgt := 21) hx hb dX7_judge_66 (by decide) ?_
              exact ih10 _ _ _ _ _ hP hD hS _ (lv_sub hl [2, 3, 1, 0] rfl) hf
          refine lv_if_ne (tgt := 41) hx hb dX7_judge_34 (by decide) (fun c24 => ?_) (fun c24 => ?_)
          · have hf := if_f c24 hf
            exact B41_k19 _ _ _ hP hD hS _ (lv_sub hl [0, 1, 3] rfl) hf
          · have hf := if_t c24 hf
            refine lv_aload_n hx hb dX7_judge_37 rfl (lv_at hl 0 rfl) ?_
            obtain ⟨y25, q26, hf⟩ := bd_use hf
            have hfo : Foc (WMod z a1 y7) (WMod z a1 y7) (WMod z a1 y25) (WMod z a1 y25) := foc_all
            refine z_goV (ws1 := (WMod z a1 y25)) (va_runV (As := []) (rest := []) ⟨hx, hb, hml, hown, hts⟩ (tX7_goesMinute l D z tt a1 y7  fu y25 q26 _) (cwV 0 hts (gV4 aw960 aw962 aw20 aw52 aw963) rfl rfl rfl (by decide +kernel) ⟨Nat.le_of_ble_eq_true rfl, Nat.le_of_ble_eq_true rfl⟩) (z_preV hK hP hD hS hA hT hN hfo (va_recv hK hP (ci := 7) (q0 := 0) rfl rfl)) rfl rfl hl.1 rfl (lv_room (Nat.le_of_ble_eq_true rfl)) dX7_judge_38 ⟨Nat.zero_le _, Nat.zero_le _⟩) hP hD hS hA hfo (fun H locs hP hD hS => ?_)
            exact B41_k19 _ _ _ hP hD hS _ (lv_sub hl [0, 1, 3] rfl) hf
  exact L21_F8 fu _ _ _ _ _ hP hD hS _ (lv_sub hl [3, 2, 1, 0] rfl) hf
def pX7_fits (fu : Nat) (m1 : Mem) (p1 : Int32) : Option (Int32 × Mem) :=
  bd (pX7_bound fu p1 0 11) fun r1 =>
  if r1 = 0 then
    zl2 (fun g7 (x4 : Int32) (x5 : Int32) =>
      if 7 ≤ x5 then
        some (x4, m1)
      else
        if (m1 0 17) ≤ 0 then
          some (x4, m1)
        else
          bd (pX7_upTo fu m1 (m1 10 0) x5) fun r11 =>
          if r11 = p1 then
            lt' ((x4 ||| (1 <<< (x5 &&& 31))) : Int32) fun x16 =>
            lt' (x5 + 1) fun x17 =>
            g7 x16 x17
          else
            lt' ((x4 ||| 0) : Int32) fun x14 =>
            lt' (x5 + 1) fun x15 =>
            g7 x14 x15) fu 0 0
  else
    bd2 (pX7_no fu m1 r1) fun r18 y19 =>
    some (r18, y19)
set_option maxHeartbeats 4000000 in
set_option maxRecDepth 100000 in
theorem tX7_fits (l : Launch) (D : va_G) (z tt : Nat → Nat) (a1 : Nat → Nat) (m1 : Mem) (p1 : Int32) (fu : Nat) (rr : Int32) (m1' : Mem) (hf : pX7_fits fu m1 p1 = some (rr, m1')) : MetI l yX7_fits wsX7_fits ({ frames := 3, cells := 0, slots := 0, locals := 68 } : Room) D z tt ([.ref (a1 0), .int p1] : List Value) (WMod z a1 m1) rr (WMod z a1 m1') := by
  intro sz
  refine Met.ofW (cc := cX7_fits) (maxL := 5) (ret := (some .int)) (by decide) rfl ?_
  intro p e s m args below meth c s₁ B hml hv
  obtain ⟨rfl, hsz, hP, hK, hD0, hT, hN⟩ := hv
  have hx := B.exec
  have hb := B.bytes
  have hr := B.returns
  have hts : ∀ w ∈ wsA, w.before ([.ref (a1 0), .int p1] : List Value).toArray s = true := fun w h => atoms_spec (ws := wsX7_fits) B.pre w (List.mem_cons_of_mem _ h)
  have hown : s.vm.findClass RX7 = some m.cls := findClass_of_methodNamed B.named
  have hlocks := B.notSynchronized
  subst hsz
  have hD := hD0.self (sz := s.heap.size)
  generalize hAe : va_A (WMod z a1 m1) s.heap.size = A at hD hT ⊢
  have hA : ∀ q : Nat, s.heap.size ≤ q → A q := fun q h => by rw [← hAe]; exact Or.inr h
  have hS : va_S A s.heap s.heap [] := va_S.rf
  have hl := lv_entry ([.ref (a1 0), .int p1] : List Value) (n := 5) (Nat.le_of_ble_eq_true rfl)
  rw [lg_entry_eq]
  generalize (lg_sl ([.ref (a1 0), .int p1] : List Value) ++ List.replicate (5 - (lg_sl ([.ref (a1 0), .int p1] : List Value)).length) Slot.unset).toArray = ls at hl ⊢
  have hl : lv_has ls 5 [(0, .ref (a1 0)), (1, .int p1)] := hl
  unfold pX7_fits at hf
  refine lv_iload_n hx hb dX7_fits_0 rfl (lv_at hl 1 rfl) ?_
  refine lv_iconst (v := 0) hx hb dX7_fits_1 (by decide) ?_
  refine lv_bipush (v := 11) hx hb dX7_fits_2 (by decide) ?_
  obtain ⟨r1, q2, hf⟩ := bd_use hf
  have hfo : Foc (WMod z a1 m1) ([] : va_W) (WMod z a1 m1) ([] : va_W) := foc_nil
  refine z_goI (ws1 := (WMod z a1 m1)) (va_runS (As := [.int p1, .int 0, .int 11]) (rest := []) ⟨hx, hb, hml, hown, hts⟩ (tX7_bound l D z tt  p1 0 11 fu r1 q2 _) (va_cwS 3 hts (gS3 aw840 aw841 aw52 aw842) rfl rfl rfl (by decide +kernel) ⟨Nat.le_of_ble_eq_true rfl, Nat.le_of_ble_eq_true rfl⟩) (z_preS hK hP hD hS hA hT hN hfo) rfl rfl hl.1 rfl (lv_room (Nat.le_of_ble_eq_true rfl)) dX7_fits_4 ⟨Nat.zero_le _, Nat.zero_le _⟩) hP hD hS hA hfo (fun H locs hP hD hS => ?_)
  refine lv_istore_n (lv' := [(2, .int r1), (0, .ref (a1 0)), (1, .int p1)]) hx hb dX7_fits_7 rfl hl (by decide) rfl (fun ls hl => ?_)
  refine lv_iload_n hx hb dX7_fits_8 rfl (lv_at hl 0 rfl) ?_
  refine lv_if_eq (tgt := 18) hx hb dX7_fits_9 (by decide) (fun c3 => ?_) (fun c3 => ?_)
  · have hf := if_t c3 hf
    refine lv_iconst (v := 0) hx hb dX7_fits_18 (by decide) ?_
    refine lv_istore_n (lv' := [(3, .int 0), (2, .int r1), (0, .ref (a1 0)), (1, .int p1)]) hx hb dX7_fits_19 rfl hl (by decide) rfl (fun ls hl => ?_)
    refine lv_iconst (v := 0) hx hb dX7_fits_20 (by decide) ?_
    refine lv_istore (lv' := [(4, .int 0), (3, .int 0), (2, .int r1), (0, .ref (a1 0)), (1, .int p1)]) hx hb dX7_fits_21 hl (by decide) rfl (fun ls hl => ?_)
    obtain ⟨F6, eF6, hf⟩ := zl2_use hf
    have L23_F6 : ∀ (n : Nat) (x4 : Int32) (x5 : Int32) (H : Heap) (locs : List Loc), va_P D vwCl (WMod z a1 m1) H → va_D A (WMod z a1 m1) → va_S A s.heap H locs → ∀ (ls : Array Slot), lv_has ls 5 [(0, .ref (a1 0)), (1, .int p1), (3, .int x4), (4, .int x5)] → zl2 F6 n x4 x5 = some (rr, m1') → GI p l e (headSpec wsX7_fits ({ frames := 3, cells := 0, slots := 0, locals := 68 } : Room)).room s m ([.ref (a1 0), .int p1] : List Value).toArray below meth c A D z rr (WMod z a1 m1') H locs (F0 m 23 ls []) := by
      intro n
      induction n with
      | zero =>
        intro x4 x5 H locs hP hD hS ls hl hf
        exact no_none hf
      | succ n ih8 =>
        intro x4 x5 H locs hP hD hS ls hl hf
        have hf := zl2_s eF6 hf
        refine lv_iload hx hb dX7_fits_23 (lv_at hl 3 rfl) ?_
        refine lv_bipush (v := 7) hx hb dX7_fits_25 (by decide) ?_
        refine lv_icmp_ge (tgt := 70) hx hb dX7_fits_27 (by decide) (fun c9 => ?_) (fun c9 => ?_)
        · have hf := if_t c9 hf
          refine lv_iload_n hx hb dX7_fits_70 rfl (lv_at hl 2 rfl) ?_
          obtain ⟨rfl, rfl⟩ := so2 hf
          exact ret_i hx hb hr hlocks hK hP hD hS dX7_fits_71
        · have hf := if_f c9 hf
          refine lv_aload_n hx hb dX7_fits_30 rfl (lv_at hl 0 rfl) ?_
          refine va_get (D := D) (ci := 7) (v := .int (m1 0 17)) (C := RX7) (T := TX7) (N := 33) hx hb hts iX7 hown hK hP 0 rfl rfl 17 (by decide) (hts _ aw753) (fun _ h9 => h9) rfl dX7_fits_31 ?_
          refine lv_if_le (tgt := 70) hx hb dX7_fits_34 (by decide) (fun c10 => ?_) (fun c10 => ?_)
          · have hf := if_t c10 hf
            refine lv_iload_n hx hb dX7_fits_70 rfl (lv_at hl 2 rfl) ?_
            obtain ⟨rfl, rfl⟩ := so2 hf
            exact ret_i hx hb hr hlocks hK hP hD hS dX7_fits_71
          · have hf := if_f c10 hf
            refine lv_iload_n hx hb dX7_fits_37 rfl (lv_at hl 2 rfl) ?_
            refine lv_aload_n hx hb dX7_fits_38 rfl (lv_at hl 0 rfl) ?_
            refine lv_aload_n hx hb dX7_fits_39 rfl (lv_at hl 0 rfl) ?_
            refine va_get (D := D) (ci := 7) (v := .ref (a1 10)) (C := RX7) (T := TX7) (N := 33) hx hb hts iX7 hown hK hP 0 rfl rfl 9 (by decide) (hts _ aw745) (fun _ h9 => h9) rfl dX7_fits_40 ?_
            refine lv_iconst (v := 0) hx hb dX7_fits_43 (by decide) ?_
            refine z_ialdc hx hb hK hP 10 rfl (i := 0) (k := 0) (by decide) (Nat.le_of_ble_eq_true rfl) dX7_fits_44 ?_
            refine lv_iload hx hb dX7_fits_45 (lv_at hl 3 rfl) ?_
            obtain ⟨r11, q12, hf⟩ := bd_use hf
            have hfo : Foc (WMod z a1 m1) (WMod z a1 m1) (WMod z a1 m1) (WMod z a1 m1) := foc_all
            refine z_goI (ws1 := (WMod z a1 m1)) (va_runV (As := [.int (m1 10 0), .int x5]) (rest := [.int x4]) ⟨hx, hb, hml, hown, hts⟩ (tX7_upTo l D z tt a1 m1 (m1 10 0) x5 fu r11 q12 _) (cwV 2 hts (gV4 aw920 aw922 aw14 aw52 aw923) rfl rfl rfl (by decide +kernel) ⟨Nat.le_of_ble_eq_true rfl, Nat.le_of_ble_eq_true rfl⟩) (z_preV hK hP hD hS hA hT hN hfo (va_recv hK hP (ci := 7) (q0 := 0) rfl rfl)) rfl rfl hl.1 rfl (lv_room (Nat.le_of_ble_eq_true rfl)) dX7_fits_47 ⟨Nat.zero_le _, Nat.zero_le _⟩) hP hD hS hA hfo (fun H locs hP hD hS => ?_)
            refine lv_iload_n hx hb dX7_fits_50 rfl (lv_at hl 1 rfl) ?_
            refine lv_icmp_ne (tgt := 61) hx hb dX7_fits_51 (by decide) (fun c13 => ?_) (fun c13 => ?_)
            · have hf := if_f c13 hf
              refine lv_iconst (v := 0) hx hb dX7_fits_61 (by decide) ?_
              refine lv_ior hx hb dX7_fits_62 ?_
              refine lv_topi (fun x14 ex14 => ?_)
              have hf := lt_use ex14 hf
              refine lv_istore_n (lv' := [(3, .int x14), (0, .ref (a1 0)), (1, .int p1), (4, .int x5)]) hx hb dX7_fits_63 rfl hl (by decide) rfl (fun ls hl => ?_)
              obtain ⟨x15, ex15⟩ : ∃ y : Int32, y = x5 + 1 := ⟨_, rfl⟩
              have hf := lt_use ex15 hf
              refine lv_iinc (v := x15) (lv' := [(4, .int x15), (3, .int x14), (0, .ref (a1 0)), (1, .int p1)]) hx hb dX7_fits_64 hl (k := 3) rfl (by rw [ex15]; rfl) (by decide) rfl (fun ls hl => ?_)
              refine lv_goto (tgt := 23) hx hb dX7_fits_67 (by decide) ?_
              exact ih8 _ _ _ _ hP hD hS _ (lv_sub hl [2, 3, 1, 0] rfl) hf
            · have hf := if_t c13 hf
              refine lv_iconst (v := 1) hx hb dX7_fits_54 (by decide) ?_
              refine lv_iload hx hb dX7_fits_55 (lv_at hl 3 rfl) ?_
              refine lv_ishl hx hb dX7_fits_57 ?_
              refine lv_goto (tgt := 62) hx hb dX7_fits_58 (by decide) ?_
              refine lv_ior hx hb dX7_fits_62 ?_
              refine lv_topi (fun x16 ex16 => ?_)
              have hf := lt_use ex16 hf
              refine lv_istore_n (lv' := [(3, .int x16), (0, .ref (a1 0)), (1, .int p1), (4, .int x5)]) hx hb dX7_fits_63 rfl hl (by decide) rfl (fun ls hl => ?_)
              obtain ⟨x17, ex17⟩ : ∃ y : Int32, y = x5 + 1 := ⟨_, rfl⟩
              have hf := lt_use ex17 hf
              refine lv_iinc (v := x17) (lv' := [(4, .int x17), (3, .int x16), (0, .ref (a1 0)), (1, .int p1)]) hx hb dX7_fits_64 hl (k := 3) rfl (by rw [ex17]; rfl) (by decide) rfl (fun ls hl => ?_)
              refine lv_goto (tgt := 23) hx hb dX7_fits_67 (by decide) ?_
              exact ih8 _ _ _ _ hP hD hS _ (lv_sub hl [2, 3, 1, 0] rfl) hf
    exact L23_F6 fu _ _ _ _ hP hD hS _ (lv_sub hl [3, 4, 1, 0] rfl) hf
  · have hf := if_f c3 hf
    refine lv_aload_n hx hb dX7_fits_12 rfl (lv_at hl 1 rfl) ?_
    refine lv_iload_n hx hb dX7_fits_13 rfl (lv_at hl 0 rfl) ?_
    obtain ⟨r18, y19, q20, hf⟩ := bd2_use hf
    have hfo : Foc (WMod z a1 m1) (WMod z a1 m1) (WMod z a1 y19) (WMod z a1 y19) := foc_all
    refine z_goI (ws1 := (WMod z a1 y19)) (va_runV (As := [.int r1]) (rest := []) ⟨hx, hb, hml, hown, hts⟩ (tX7_no l D z tt a1 m1 r1 fu r18 y19 q20 _) (cwV 1 hts (gV4 aw843 aw845 aw1 aw52 aw846) rfl rfl rfl (by decide +kernel) ⟨Nat.le_of_ble_eq_true rfl, Nat.le_of_ble_eq_true rfl⟩) (z_preV hK hP hD hS hA hT hN hfo (va_recv hK hP (ci := 7) (q0 := 0) rfl rfl)) rfl rfl hl.1 rfl (lv_room (Nat.le_of_ble_eq_true rfl)) dX7_fits_14 ⟨Nat.zero_le _, Nat.zero_le _⟩) hP hD hS hA hfo (fun H locs hP hD hS => ?_)
    obtain ⟨rfl, rfl⟩ := so2 hf
    exact ret_i hx hb hr hlocks hK hP hD hS dX7_fits_17
def pX7_seeds (fu : Nat) (m1 : Mem) (p1 : Int32) (p2 : Int32) (p3 : Int32) : Option (Int32 × Mem) :=
  bd (pX7_bound fu p1 1 20) fun r1 =>
  jn1 (fun (x3 : Int32) =>
    if x3 = 0 then
      bd (pX7_passesAll fu m1 1 1) fun y6 =>
      zl5 (fun g14 (x8 : Int32) (x9 : Int32) (x10 : Int32) (x11 : Int32) (y12 : Mem) =>
        if p1 ≤ x11 then
          bd (pX7_passesAll fu y12 1 0) fun y17 =>
          if p3 = 0 then
            some (x9, y17)
          else
            some (x10, y17)
        else
          zl3 (fun g24 (x20 : Int32) (x21 : Int32) (y22 : Mem) =>
            if (y22 0 15) ≤ x21 then
              bd2 (pX7_costAnew fu y22) fun r27 y28 =>
              lt' ((x9 + r27) : Int32) fun x30 =>
              bd (pX7_stateMany fu y28 3) fun r31 =>
              lt' ((x10 + r31) : Int32) fun x33 =>
              lt' (x11 + 1) fun x34 =>
              g14 x20 x30 x33 x34 y28
            else
              lt' (((x20 * 1103515245) + 12345) : Int32) fun x35 =>
              ck x21 8 <|
              lt' (up2 y22 5 x21.toNatClampNeg (((x35 &&& 2147483647) / 65536) - ((x35 &&& 2147483647) / 65536) / 120 * 120)) fun y36 =>
              lt' (x21 + 1) fun x38 =>
              g24 x35 x38 y36) fu x8 0 y12) fu p2 0 0 0 y6
    else
      bd2 (pX7_no fu m1 x3) fun r39 y40 =>
      some (r39, y40)) fun k4 =>
  if r1 = 0 then
    bd (pX7_isIn fu p3 0 1) fun r43 =>
    if r43 = 0 then
      k4 (-2)
    else
      k4 r1
  else
    k4 r1
set_option maxHeartbeats 4000000 in
set_option maxRecDepth 100000 in
theorem tX7_seeds (l : Launch) (D : va_G) (z tt : Nat → Nat) (a1 : Nat → Nat) (m1 : Mem) (p1 : Int32) (p2 : Int32) (p3 : Int32) (fu : Nat) (rr : Int32) (m1' : Mem) (hf : pX7_seeds fu m1 p1 p2 p3 = some (rr, m1')) : MetI l yX7_seeds wsX7_seeds ({ frames := 8, cells := 0, slots := 0, locals := 176 } : Room) D z tt ([.ref (a1 0), .int p1, .int p2, .int p3] : List Value) (WMod z a1 m1) rr (WMod z a1 m1') := by
  intro sz
  refine Met.ofW (cc := cX7_seeds) (maxL := 10) (ret := (some .int)) (by decide) rfl ?_
  intro p e s m args below meth c s₁ B hml hv
  obtain ⟨rfl, hsz, hP, hK, hD0, hT, hN⟩ := hv
  have hx := B.exec
  have hb := B.bytes
  have hr := B.returns
  have hts : ∀ w ∈ wsA, w.before ([.ref (a1 0), .int p1, .int p2, .int p3] : List Value).toArray s = true := fun w h => atoms_spec (ws := wsX7_seeds) B.pre w (List.mem_cons_of_mem _ h)
  have hown : s.vm.findClass RX7 = some m.cls := findClass_of_methodNamed B.named
  have hlocks := B.notSynchronized
  subst hsz
  have hD := hD0.self (sz := s.heap.size)
  generalize hAe : va_A (WMod z a1 m1) s.heap.size = A at hD hT ⊢
  have hA : ∀ q : Nat, s.heap.size ≤ q → A q := fun q h => by rw [← hAe]; exact Or.inr h
  have hS : va_S A s.heap s.heap [] := va_S.rf
  have hl := lv_entry ([.ref (a1 0), .int p1, .int p2, .int p3] : List Value) (n := 10) (Nat.le_of_ble_eq_true rfl)
  rw [lg_entry_eq]
  generalize (lg_sl ([.ref (a1 0), .int p1, .int p2, .int p3] : List Value) ++ List.replicate (10 - (lg_sl ([.ref (a1 0), .int p1, .int p2, .int p3] : List Value)).length) Slot.unset).toArray = ls at hl ⊢
  have hl : lv_has ls 10 [(0, .ref (a1 0)), (1, .int p1), (2, .int p2), (3, .int p3)] := hl
  unfold pX7_seeds at hf
  refine lv_iload_n hx hb dX7_seeds_0 rfl (lv_at hl 1 rfl) ?_
  refine lv_iconst (v := 1) hx hb dX7_seeds_1 (by decide) ?_
  refine lv_bipush (v := 20) hx hb dX7_seeds_2 (by decide) ?_
  obtain ⟨r1, q2, hf⟩ := bd_use hf
  have hfo : Foc (WMod z a1 m1) ([] : va_W) (WMod z a1 m1) ([] : va_W) := foc_nil
  refine z_goI (ws1 := (WMod z a1 m1)) (va_runS (As := [.int p1, .int 1, .int 20]) (rest := []) ⟨hx, hb, hml, hown, hts⟩ (tX7_bound l D z tt  p1 1 20 fu r1 q2 _) (va_cwS 3 hts (gS3 aw840 aw841 aw52 aw842) rfl rfl rfl (by decide +kernel) ⟨Nat.le_of_ble_eq_true rfl, Nat.le_of_ble_eq_true rfl⟩) (z_preS hK hP hD hS hA hT hN hfo) rfl rfl hl.1 rfl (lv_room (Nat.le_of_ble_eq_true rfl)) dX7_seeds_4 ⟨Nat.zero_le _, Nat.zero_le _⟩) hP hD hS hA hfo (fun H locs hP hD hS => ?_)
  refine lv_istore (lv' := [(4, .int r1), (0, .ref (a1 0)), (1, .int p1), (2, .int p2), (3, .int p3)]) hx hb dX7_seeds_7 hl (by decide) rfl (fun ls hl => ?_)
  refine lv_iload hx hb dX7_seeds_9 (lv_at hl 0 rfl) ?_
  obtain ⟨k4, ek4, hf⟩ := jn1_use hf
  have B27_k4 : ∀ (x3 : Int32) (H : Heap) (locs : List Loc), va_P D vwCl (WMod z a1 m1) H → va_D A (WMod z a1 m1) → va_S A s.heap H locs → ∀ (ls : Array Slot), lv_has ls 10 [(0, .ref (a1 0)), (1, .int p1), (2, .int p2), (3, .int p3), (4, .int x3)] → k4 x3 = some (rr, m1') → GI p l e (headSpec wsX7_seeds ({ frames := 8, cells := 0, slots := 0, locals := 176 } : Room)).room s m ([.ref (a1 0), .int p1, .int p2, .int p3] : List Value).toArray below meth c A D z rr (WMod z a1 m1') H locs (F0 m 27 ls []) := by
    intro x3 H locs hP hD hS ls hl hf
    have hf := jn1_ap ek4 hf
    refine lv_iload hx hb dX7_seeds_27 (lv_at hl 4 rfl) ?_
    refine lv_if_eq (tgt := 39) hx hb dX7_seeds_29 (by decide) (fun c5 => ?_) (fun c5 => ?_)
    · have hf := if_t c5 hf
      refine lv_aload_n hx hb dX7_seeds_39 rfl (lv_at hl 0 rfl) ?_
      refine lv_iconst (v := 1) hx hb dX7_seeds_40 (by decide) ?_
      refine lv_iconst (v := 1) hx hb dX7_seeds_41 (by decide) ?_
      obtain ⟨y6, q7, hf⟩ := bd_use hf
      have hfo : Foc (WMod z a1 m1) (WMod z a1 m1) (WMod z a1 y6) (WMod z a1 y6) := foc_all
      refine z_goV (ws1 := (WMod z a1 y6)) (va_runV (As := [.int 1, .int 1]) (rest := []) ⟨hx, hb, hml, hown, hts⟩ (tX7_passesAll l D z tt a1 m1 1 1 fu y6 q7 _) (cwV 2 hts (gV4 aw874 aw876 aw7 aw52 aw877) rfl rfl rfl (by decide +kernel) ⟨Nat.le_of_ble_eq_true rfl, Nat.le_of_ble_eq_true rfl⟩) (z_preV hK hP hD hS hA hT hN hfo (va_recv hK hP (ci := 7) (q0 := 0) rfl rfl)) rfl rfl hl.1 rfl (lv_room (Nat.le_of_ble_eq_true rfl)) dX7_seeds_42 ⟨Nat.zero_le _, Nat.zero_le _⟩) hP hD hS hA hfo (fun H locs hP hD hS => ?_)
      refine lv_iload_n hx hb dX7_seeds_45 rfl (lv_at hl 2 rfl) ?_
      refine lv_istore (lv' := [(5, .int p2), (0, .ref (a1 0)), (1, .int p1), (2, .int p2), (3, .int p3), (4, .int x3)]) hx hb dX7_seeds_46 hl (by decide) rfl (fun ls hl => ?_)
      refine lv_iconst (v := 0) hx hb dX7_seeds_48 (by decide) ?_
      refine lv_istore (lv' := [(6, .int 0), (5, .int p2), (0, .ref (a1 0)), (1, .int p1), (2, .int p2), (3, .int p3), (4, .int x3)]) hx hb dX7_seeds_49 hl (by decide) rfl (fun ls hl => ?_)
      refine lv_iconst (v := 0) hx hb dX7_seeds_51 (by decide) ?_
      refine lv_istore (lv' := [(7, .int 0), (6, .int 0), (5, .int p2), (0, .ref (a1 0)), (1, .int p1), (2, .int p2), (3, .int p3), (4, .int x3)]) hx hb dX7_seeds_52 hl (by decide) rfl (fun ls hl => ?_)
      refine lv_iconst (v := 0) hx hb dX7_seeds_54 (by decide) ?_
      refine lv_istore (lv' := [(8, .int 0), (7, .int 0), (6, .int 0), (5, .int p2), (0, .ref (a1 0)), (1, .int p1), (2, .int p2), (3, .int p3), (4, .int x3)]) hx hb dX7_seeds_55 hl (by decide) rfl (fun ls hl => ?_)
      obtain ⟨F13, eF13, hf⟩ := zl5_use hf
      have L57_F13 : ∀ (n : Nat) (x8 : Int32) (x9 : Int32) (x10 : Int32) (x11 : Int32) (y12 : Mem) (H : Heap) (locs : List Loc), va_P D vwCl (WMod z a1 y12) H → va_D A (WMod z a1 y12) → va_S A s.heap H locs → ∀ (ls : Array Slot), lv_has ls 10 [(0, .ref (a1 0)), (1, .int p1), (3, .int p3), (5, .int x8), (6, .int x9), (7, .int x10), (8, .int x11)] → zl5 F13 n x8 x9 x10 x11 y12 = some (rr, m1') → GI p l e (headSpec wsX7_seeds ({ frames := 8, cells := 0, slots := 0, locals := 176 } : Room)).room s m ([.ref (a1 0), .int p1, .int p2, .int p3] : List Value).toArray below meth c A D z rr (WMod z a1 m1') H locs (F0 m 57 ls []) := by
        intro n
        induction n with
        | zero =>
          intro x8 x9 x10 x11 y12 H locs hP hD hS ls hl hf
          exact no_none hf
        | succ n ih15 =>
          intro x8 x9 x10 x11 y12 H locs hP hD hS ls hl hf
          have hf := zl5_s eF13 hf
          refine lv_iload hx hb dX7_seeds_57 (lv_at hl 6 rfl) ?_
          refine lv_iload_n hx hb dX7_seeds_59 rfl (lv_at hl 1 rfl) ?_
          refine lv_icmp_ge (tgt := 138) hx hb dX7_seeds_60 (by decide) (fun c16 => ?_) (fun c16 => ?_)
          · have hf := if_t c16 hf
            refine lv_aload_n hx hb dX7_seeds_138 rfl (lv_at hl 0 rfl) ?_
            refine lv_iconst (v := 1) hx hb dX7_seeds_139 (by decide) ?_
            refine lv_iconst (v := 0) hx hb dX7_seeds_140 (by decide) ?_
            obtain ⟨y17, q18, hf⟩ := bd_use hf
            have hfo : Foc (WMod z a1 y12) (WMod z a1 y12) (WMod z a1 y17) (WMod z a1 y17) := foc_all
            refine z_goV (ws1 := (WMod z a1 y17)) (va_runV (As := [.int 1, .int 0]) (rest := []) ⟨hx, hb, hml, hown, hts⟩ (tX7_passesAll l D z tt a1 y12 1 0 fu y17 q18 _) (cwV 2 hts (gV4 aw874 aw876 aw7 aw52 aw877) rfl rfl rfl (by decide +kernel) ⟨Nat.le_of_ble_eq_true rfl, Nat.le_of_ble_eq_true rfl⟩) (z_preV hK hP hD hS hA hT hN hfo (va_recv hK hP (ci := 7) (q0 := 0) rfl rfl)) rfl rfl hl.1 rfl (lv_room (Nat.le_of_ble_eq_true rfl)) dX7_seeds_141 ⟨Nat.zero_le _, Nat.zero_le _⟩) hP hD hS hA hfo (fun H locs hP hD hS => ?_)
            refine lv_iload_n hx hb dX7_seeds_144 rfl (lv_at hl 2 rfl) ?_
            refine lv_if_ne (tgt := 153) hx hb dX7_seeds_145 (by decide) (fun c19 => ?_) (fun c19 => ?_)
            · have hf := if_f c19 hf
              refine lv_iload hx hb dX7_seeds_153 (lv_at hl 5 rfl) ?_
              obtain ⟨rfl, rfl⟩ := so2 hf
              exact ret_i hx hb hr hlocks hK hP hD hS dX7_seeds_155
            · have hf := if_t c19 hf
              refine lv_iload hx hb dX7_seeds_148 (lv_at hl 4 rfl) ?_
              refine lv_goto (tgt := 155) hx hb dX7_seeds_150 (by decide) ?_
              obtain ⟨rfl, rfl⟩ := so2 hf
              exact ret_i hx hb hr hlocks hK hP hD hS dX7_seeds_155
          · have hf := if_f c16 hf
            refine lv_iconst (v := 0) hx hb dX7_seeds_63 (by decide) ?_
            refine lv_istore (lv' := [(9, .int 0), (0, .ref (a1 0)), (1, .int p1), (3, .int p3), (5, .int x8), (6, .int x9), (7, .int x10), (8, .int x11)]) hx hb dX7_seeds_64 hl (by decide) rfl (fun ls hl => ?_)
            obtain ⟨F23, eF23, hf⟩ := zl3_use hf
            have L66_F23 : ∀ (n : Nat) (x20 : Int32) (x21 : Int32) (y22 : Mem) (H : Heap) (locs : List Loc), va_P D vwCl (WMod z a1 y22) H → va_D A (WMod z a1 y22) → va_S A s.heap H locs → ∀ (ls : Array Slot), lv_has ls 10 [(0, .ref (a1 0)), (1, .int p1), (3, .int p3), (5, .int x20), (6, .int x9), (7, .int x10), (8, .int x11), (9, .int x21)] → zl3 F23 n x20 x21 y22 = some (rr, m1') → GI p l e (headSpec wsX7_seeds ({ frames := 8, cells := 0, slots := 0, locals := 176 } : Room)).room s m ([.ref (a1 0), .int p1, .int p2, .int p3] : List Value).toArray below meth c A D z rr (WMod z a1 m1') H locs (F0 m 66 ls []) := by
              intro n
              induction n with
              | zero =>
                intro x20 x21 y22 H locs hP hD hS ls hl hf
                exact no_none hf
              | succ n ih25 =>
                intro x20 x21 y22 H locs hP hD hS ls hl hf
                have hf := zl3_s eF23 hf
                refine lv_iload hx hb dX7_seeds_66 (lv_at hl 7 rfl) ?_
                refine lv_aload_n hx hb dX7_seeds_68 rfl (lv_at hl 0 rfl) ?_
                refine va_get (D := D) (ci := 7) (v := .int (y22 0 15)) (C := RX7) (T := TX7) (N := 33) hx hb hts iX7 hown hK hP 0 rfl rfl 15 (by decide) (hts _ aw751) (fun _ h9 => h9) rfl dX7_seeds_69 ?_
                refine lv_icmp_ge (tgt := 113) hx hb dX7_seeds_72 (by decide) (fun c26 => ?_) (fun c26 => ?_)
                · have hf := if_t c26 hf
                  refine lv_iload hx hb dX7_seeds_113 (lv_at hl 4 rfl) ?_
                  refine lv_aload_n hx hb dX7_seeds_115 rfl (lv_at hl 0 rfl) ?_
                  obtain ⟨r27, y28, q29, hf⟩ := bd2_use hf
                  have hfo : Foc (WMod z a1 y22) (WMod z a1 y22) (WMod z a1 y28) (WMod z a1 y28) := foc_all
                  refine z_goI (ws1 := (WMod z a1 y28)) (va_runV (As := []) (rest := [.int x9]) ⟨hx, hb, hml, hown, hts⟩ (tX7_costAnew l D z tt a1 y22  fu r27 y28 q29 _) (cwV 0 hts (gV4 aw1037 aw1039 aw34 aw52 aw1040) rfl rfl rfl (by decide +kernel) ⟨Nat.le_of_ble_eq_true rfl, Nat.le_of_ble_eq_true rfl⟩) (z_preV hK hP hD hS hA hT hN hfo (va_recv hK hP (ci := 7) (q0 := 0) rfl rfl)) rfl rfl hl.1 rfl (lv_room (Nat.le_of_ble_eq_true rfl)) dX7_seeds_116 ⟨Nat.zero_le _, Nat.zero_le _⟩) hP hD hS hA hfo (fun H locs hP hD hS => ?_)
                  refine lv_iadd hx hb dX7_seeds_119 ?_
                  refine lv_topi (fun x30 ex30 => ?_)
                  have hf := lt_use ex30 hf
                  refine lv_istore (lv' := [(6, .int x30), (0, .ref (a1 0)), (1, .int p1), (3, .int p3), (5, .int x20), (7, .int x10), (8, .int x11), (9, .int x21)]) hx hb dX7_seeds_120 hl (by decide) rfl (fun ls hl => ?_)
                  refine lv_iload hx hb dX7_seeds_122 (lv_at hl 5 rfl) ?_
                  refine lv_aload_n hx hb dX7_seeds_124 rfl (lv_at hl 1 rfl) ?_
                  refine lv_iconst (v := 3) hx hb dX7_seeds_125 (by decide) ?_
                  obtain ⟨r31, q32, hf⟩ := bd_use hf
                  have hfo : Foc (WMod z a1 y28) (WMod z a1 y28) (WMod z a1 y28) (WMod z a1 y28) := foc_all
                  refine z_goI (ws1 := (WMod z a1 y28)) (va_runV (As := [.int 3]) (rest := [.int x10]) ⟨hx, hb, hml, hown, hts⟩ (tX7_stateMany l D z tt a1 y28 3 fu r31 q32 _) (cwV 1 hts (gV4 aw1016 aw1018 aw31 aw52 aw1019) rfl rfl rfl (by decide +kernel) ⟨Nat.le_of_ble_eq_true rfl, Nat.le_of_ble_eq_true rfl⟩) (z_preV hK hP hD hS hA hT hN hfo (va_recv hK hP (ci := 7) (q0 := 0) rfl rfl)) rfl rfl hl.1 rfl (lv_room (Nat.le_of_ble_eq_true rfl)) dX7_seeds_126 ⟨Nat.zero_le _, Nat.zero_le _⟩) hP hD hS hA hfo (fun H locs hP hD hS => ?_)
                  refine lv_iadd hx hb dX7_seeds_129 ?_
                  refine lv_topi (fun x33 ex33 => ?_)
                  have hf := lt_use ex33 hf
                  refine lv_istore (lv' := [(7, .int x33), (6, .int x30), (0, .ref (a1 0)), (1, .int p1), (3, .int p3), (5, .int x20), (8, .int x11), (9, .int x21)]) hx hb dX7_seeds_130 hl (by decide) rfl (fun ls hl => ?_)
                  obtain ⟨x34, ex34⟩ : ∃ y : Int32, y = x11 + 1 := ⟨_, rfl⟩
                  have hf := lt_use ex34 hf
                  refine lv_iinc (v := x34) (lv' := [(8, .int x34), (7, .int x33), (6, .int x30), (0, .ref (a1 0)), (1, .int p1), (3, .int p3), (5, .int x20), (9, .int x21)]) hx hb dX7_seeds_132 hl (k := 6) rfl (by rw [ex34]; rfl) (by decide) rfl (fun ls hl => ?_)
                  refine lv_goto (tgt := 57) hx hb dX7_seeds_135 (by decide) ?_
                  exact ih15 _ _ _ _ _ _ _ hP hD hS _ (lv_sub hl [3, 4, 5, 6, 2, 1, 0] rfl) hf
                · have hf := if_f c26 hf
                  refine lv_iload hx hb dX7_seeds_75 (lv_at hl 3 rfl) ?_
                  refine lv_ldcw (v := 1103515245) hx hb hown (hts _ aw1129) dX7_seeds_77 ?_
                  refine lv_imul hx hb dX7_seeds_80 ?_
                  refine lv_sipush (v := 12345) hx hb dX7_seeds_81 (by decide) ?_
                  refine lv_iadd hx hb dX7_seeds_84 ?_
                  refine lv_topi (fun x35 ex35 => ?_)
                  have hf := lt_use ex35 hf
                  refine lv_istore (lv' := [(5, .int x35), (0, .ref (a1 0)), (1, .int p1), (3, .int p3), (6, .int x9), (7, .int x10), (8, .int x11), (9, .int x21)]) hx hb dX7_seeds_85 hl (by decide) rfl (fun ls hl => ?_)
                  refine lv_aload_n hx hb dX7_seeds_87 rfl (lv_at hl 1 rfl) ?_
                  refine va_get (D := D) (ci := 7) (v := .ref (a1 5)) (C := RX7) (T := TX7) (N := 33) hx hb hts iX7 hown hK hP 0 rfl rfl 4 (by decide) (hts _ aw740) (fun _ h9 => h9) rfl dX7_seeds_88 ?_
                  refine lv_iload hx hb dX7_seeds_91 (lv_at hl 7 rfl) ?_
                  refine lv_iload hx hb dX7_seeds_93 (lv_at hl 0 rfl) ?_
                  refine lv_ldcw (v := 2147483647) hx hb hown (hts _ aw1130) dX7_seeds_95 ?_
                  refine lv_iand hx hb dX7_seeds_98 ?_
                  refine lv_ldcw (v := 65536) hx hb hown (hts _ aw1131) dX7_seeds_99 ?_
                  refine lv_idiv hx hb dX7_seeds_102 (by decide) ?_
                  refine lv_bipush (v := 120) hx hb dX7_seeds_103 (by decide) ?_
                  refine lv_irem hx hb dX7_seeds_105 (by decide) ?_
                  obtain ⟨h37, hf⟩ := ck_use hf
                  refine z_iast hx hb hK hP hD hS 5 rfl h37 dX7_seeds_106 (fun (w9 : Mem) => (WMod z a1 w9)) (up2 y22 5 x21.toNatClampNeg (((x35 &&& 2147483647) / 65536) - ((x35 &&& 2147483647) / 65536) / 120 * 120)) rfl (fun y36 ey36 H locs hP hD hS => ?_)
                  have hf := lt_use ey36 hf
                  obtain ⟨x38, ex38⟩ : ∃ y : Int32, y = x21 + 1 := ⟨_, rfl⟩
                  have hf := lt_use ex38 hf
                  refine lv_iinc (v := x38) (lv' := [(9, .int x38), (5, .int x35), (0, .ref (a1 0)), (1, .int p1), (3, .int p3), (6, .int x9), (7, .int x10), (8, .int x11)]) hx hb dX7_seeds_107 hl (k := 7) rfl (by rw [ex38]; rfl) (by decide) rfl (fun ls hl => ?_)
                  refine lv_goto (tgt := 66) hx hb dX7_seeds_110 (by decide) ?_
                  exact ih25 _ _ _ _ _ hP hD hS _ (lv_sub hl [2, 3, 4, 1, 5, 6, 7, 0] rfl) hf
            exact L66_F23 fu _ _ _ _ _ hP hD hS _ (lv_sub hl [1, 2, 3, 4, 5, 6, 7, 0] rfl) hf
      exact L57_F13 fu _ _ _ _ _ _ _ hP hD hS _ (lv_sub hl [4, 5, 7, 3, 2, 1, 0] rfl) hf
    · have hf := if_f c5 hf
      refine lv_aload_n hx hb dX7_seeds_32 rfl (lv_at hl 0 rfl) ?_
      refine lv_iload hx hb dX7_seeds_33 (lv_at hl 4 rfl) ?_
      obtain ⟨r39, y40, q41, hf⟩ := bd2_use hf
      have hfo : Foc (WMod z a1 m1) (WMod z a1 m1) (WMod z a1 y40) (WMod z a1 y40) := foc_all
      refine z_goI (ws1 := (WMod z a1 y40)) (va_runV (As := [.int x3]) (rest := []) ⟨hx, hb, hml, hown, hts⟩ (tX7_no l D z tt a1 m1 x3 fu r39 y40 q41 _) (cwV 1 hts (gV4 aw843 aw845 aw1 aw52 aw846) rfl rfl rfl (by decide +kernel) ⟨Nat.le_of_ble_eq_true rfl, Nat.le_of_ble_eq_true rfl⟩) (z_preV hK hP hD hS hA hT hN hfo (va_recv hK hP (ci := 7) (q0 := 0) rfl rfl)) rfl rfl hl.1 rfl (lv_room (Nat.le_of_ble_eq_true rfl)) dX7_seeds_35 ⟨Nat.zero_le _, Nat.zero_le _⟩) hP hD hS hA hfo (fun H locs hP hD hS => ?_)
      obtain ⟨rfl, rfl⟩ := so2 hf
      exact ret_i hx hb hr hlocks hK hP hD hS dX7_seeds_38
  refine lv_if_ne (tgt := 27) hx hb dX7_seeds_11 (by decide) (fun c42 => ?_) (fun c42 => ?_)
  · have hf := if_f c42 hf
    exact B27_k4 _ _ _ hP hD hS _ (lv_sub hl [1, 2, 3, 4, 0] rfl) hf
  · have hf := if_t c42 hf
    refine lv_iload_n hx hb dX7_seeds_14 rfl (lv_at hl 4 rfl) ?_
    refine lv_iconst (v := 0) hx hb dX7_seeds_15 (by decide) ?_
    refine lv_iconst (v := 1) hx hb dX7_seeds_16 (by decide) ?_
    obtain ⟨r43, q44, hf⟩ := bd_use hf
    have hfo : Foc (WMod z a1 m1) ([] : va_W) (WMod z a1 m1) ([] : va_W) := foc_nil
    refine z_goI (ws1 := (WMod z a1 m1)) (va_runS (As := [.int p3, .int 0, .int 1]) (rest := []) ⟨hx, hb, hml, hown, hts⟩ (tX7_isIn l D z tt  p3 0 1 fu r43 q44 _) (va_cwS 3 hts (gS3 aw867 aw868 aw52 aw869) rfl rfl rfl (by decide +kernel) ⟨Nat.le_of_ble_eq_true rfl, Nat.le_of_ble_eq_true rfl⟩) (z_preS hK hP hD hS hA hT hN hfo) rfl rfl hl.1 rfl (lv_room (Nat.le_of_ble_eq_true rfl)) dX7_seeds_17 ⟨Nat.zero_le _, Nat.zero_le _⟩) hP hD hS hA hfo (fun H locs hP hD hS => ?_)
    refine lv_if_ne (tgt := 27) hx hb dX7_seeds_20 (by decide) (fun c45 => ?_) (fun c45 => ?_)
    · have hf := if_f c45 hf
      exact B27_k4 _ _ _ hP hD hS _ (lv_sub hl [1, 2, 3, 4, 0] rfl) hf
    · have hf := if_t c45 hf
      refine lv_bipush (v := (-2)) hx hb dX7_seeds_23 (by decide) ?_
      refine lv_istore (lv' := [(4, .int (-2)), (0, .ref (a1 0)), (1, .int p1), (2, .int p2), (3, .int p3)]) hx hb dX7_seeds_25 hl (by decide) rfl (fun ls hl => ?_)
      exact B27_k4 _ _ _ hP hD hS _ (lv_sub hl [1, 2, 3, 4, 0] rfl) hf
def pX7_count (fu : Nat) (m1 : Mem) (p1 : Int32) : Option Int32 :=
  bd (pX7_isIn fu p1 11 16) fun r1 =>
  if r1 = 0 then
    bd (pX7_isIn fu p1 20 27) fun r4 =>
    if r4 = 0 then
      if p1 = 0 then
        some (m1 0 15)
      else
      if p1 = 1 then
        some (m1 0 16)
      else
      if p1 = 2 then
        some (m1 0 17)
      else
      if p1 = 3 then
        bd (pX7_stateMany fu m1 2) fun r11 =>
        some r11
      else
      if p1 = 4 then
        bd (pX7_stateMany fu m1 3) fun r14 =>
        some r14
      else
      if p1 = 5 then
        bd (pX7_isOver fu m1) fun r17 =>
        if r17 = 0 then
          some 0
        else
          some 1
      else
      if p1 = 6 then
        bd (pX7_waitedAll fu m1) fun r21 =>
        some r21
      else
      if p1 = 7 then
        some (m1 0 23)
      else
      if p1 = 8 then
        some (m1 0 32)
      else
      some (-9)
    else
      ck (p1 - 20) 8 <|
      some (m1 2 (p1 - 20).toNatClampNeg)
  else
    ck (p1 - 10) 7 <|
    some (m1 1 (p1 - 10).toNatClampNeg)
set_option maxHeartbeats 4000000 in
set_option maxRecDepth 100000 in
theorem tX7_count (l : Launch) (D : va_G) (z tt : Nat → Nat) (a1 : Nat → Nat) (m1 : Mem) (p1 : Int32) (fu : Nat) (rr : Int32) (hf : pX7_count fu m1 p1 = some rr) : MetI l yX7_count wsX7_count ({ frames := 2, cells := 0, slots := 0, locals := 42 } : Room) D z tt ([.ref (a1 0), .int p1] : List Value) (WMod z a1 m1) rr (WMod z a1 m1) := by
  intro sz
  refine Met.ofW (cc := cX7_count) (maxL := 2) (ret := (some .int)) (by decide) rfl ?_
  intro p e s m args below meth c s₁ B hml hv
  obtain ⟨rfl, hsz, hP, hK, hD0, hT, hN⟩ := hv
  have hx := B.exec
  have hb := B.bytes
  have hr := B.returns
  have hts : ∀ w ∈ wsA, w.before ([.ref (a1 0), .int p1] : List Value).toArray s = true := fun w h => atoms_spec (ws := wsX7_count) B.pre w (List.mem_cons_of_mem _ h)
  have hown : s.vm.findClass RX7 = some m.cls := findClass_of_methodNamed B.named
  have hlocks := B.notSynchronized
  subst hsz
  have hD := hD0.self (sz := s.heap.size)
  generalize hAe : va_A (WMod z a1 m1) s.heap.size = A at hD hT ⊢
  have hA : ∀ q : Nat, s.heap.size ≤ q → A q := fun q h => by rw [← hAe]; exact Or.inr h
  have hS : va_S A s.heap s.heap [] := va_S.rf
  have hl := lv_entry ([.ref (a1 0), .int p1] : List Value) (n := 2) (Nat.le_of_ble_eq_true rfl)
  rw [lg_entry_eq]
  generalize (lg_sl ([.ref (a1 0), .int p1] : List Value) ++ List.replicate (2 - (lg_sl ([.ref (a1 0), .int p1] : List Value)).length) Slot.unset).toArray = ls at hl ⊢
  have hl : lv_has ls 2 [(0, .ref (a1 0)), (1, .int p1)] := hl
  unfold pX7_count at hf
  refine lv_iload_n hx hb dX7_count_0 rfl (lv_at hl 1 rfl) ?_
  refine lv_bipush (v := 11) hx hb dX7_count_1 (by decide) ?_
  refine lv_bipush (v := 16) hx hb dX7_count_3 (by decide) ?_
  obtain ⟨r1, q2, hf⟩ := bd_use hf
  have hfo : Foc (WMod z a1 m1) ([] : va_W) (WMod z a1 m1) ([] : va_W) := foc_nil
  refine z_goI (ws1 := (WMod z a1 m1)) (va_runS (As := [.int p1, .int 11, .int 16]) (rest := []) ⟨hx, hb, hml, hown, hts⟩ (tX7_isIn l D z tt  p1 11 16 fu r1 q2 _) (va_cwS 3 hts (gS3 aw867 aw868 aw52 aw869) rfl rfl rfl (by decide +kernel) ⟨Nat.le_of_ble_eq_true rfl, Nat.le_of_ble_eq_true rfl⟩) (z_preS hK hP hD hS hA hT hN hfo) rfl rfl hl.1 rfl (lv_room (Nat.le_of_ble_eq_true rfl)) dX7_count_5 ⟨Nat.zero_le _, Nat.zero_le _⟩) hP hD hS hA hfo (fun H locs hP hD hS => ?_)
  refine lv_if_eq (tgt := 21) hx hb dX7_count_8 (by decide) (fun c3 => ?_) (fun c3 => ?_)
  · have hf := if_t c3 hf
    refine lv_iload_n hx hb dX7_count_21 rfl (lv_at hl 1 rfl) ?_
    refine lv_bipush (v := 20) hx hb dX7_count_22 (by decide) ?_
    refine lv_bipush (v := 27) hx hb dX7_count_24 (by decide) ?_
    obtain ⟨r4, q5, hf⟩ := bd_use hf
    have hfo : Foc (WMod z a1 m1) ([] : va_W) (WMod z a1 m1) ([] : va_W) := foc_nil
    refine z_goI (ws1 := (WMod z a1 m1)) (va_runS (As := [.int p1, .int 20, .int 27]) (rest := []) ⟨hx, hb, hml, hown, hts⟩ (tX7_isIn l D z tt  p1 20 27 fu r4 q5 _) (va_cwS 3 hts (gS3 aw867 aw868 aw52 aw869) rfl rfl rfl (by decide +kernel) ⟨Nat.le_of_ble_eq_true rfl, Nat.le_of_ble_eq_true rfl⟩) (z_preS hK hP hD hS hA hT hN hfo) rfl rfl hl.1 rfl (lv_room (Nat.le_of_ble_eq_true rfl)) dX7_count_26 ⟨Nat.zero_le _, Nat.zero_le _⟩) hP hD hS hA hfo (fun H locs hP hD hS => ?_)
    refine lv_if_eq (tgt := 42) hx hb dX7_count_29 (by decide) (fun c6 => ?_) (fun c6 => ?_)
    · have hf := if_t c6 hf
      refine lv_iload_n hx hb dX7_count_42 rfl (lv_at hl 1 rfl) ?_
      by_cases c7 : p1 = 0
      · have hf := if_t c7 hf
        refine z_tin (K := 0) hx hb c7 dX7_count_43 ⟨rfl, by decide, by decide⟩ (tgt := 92) (by decide) ?_
        refine lv_aload_n hx hb dX7_count_92 rfl (lv_at hl 0 rfl) ?_
        refine va_get (D := D) (ci := 7) (v := .int (m1 0 15)) (C := RX7) (T := TX7) (N := 33) hx hb hts iX7 hown hK hP 0 rfl rfl 15 (by decide) (hts _ aw751) (fun _ h9 => h9) rfl dX7_count_93 ?_
        obtain rfl := so1 hf
        exact ret_i hx hb hr hlocks hK hP hD hS dX7_count_96
      have hf := if_f c7 hf
      by_cases c8 : p1 = 1
      · have hf := if_t c8 hf
        refine z_tin (K := 1) hx hb c8 dX7_count_43 ⟨rfl, by decide, by decide⟩ (tgt := 97) (by decide) ?_
        refine lv_aload_n hx hb dX7_count_97 rfl (lv_at hl 0 rfl) ?_
        refine va_get (D := D) (ci := 7) (v := .int (m1 0 16)) (C := RX7) (T := TX7) (N := 33) hx hb hts iX7 hown hK hP 0 rfl rfl 16 (by decide) (hts _ aw752) (fun _ h9 => h9) rfl dX7_count_98 ?_
        obtain rfl := so1 hf
        exact ret_i hx hb hr hlocks hK hP hD hS dX7_count_101
      have hf := if_f c8 hf
      by_cases c9 : p1 = 2
      · have hf := if_t c9 hf
        refine z_tin (K := 2) hx hb c9 dX7_count_43 ⟨rfl, by decide, by decide⟩ (tgt := 102) (by decide) ?_
        refine lv_aload_n hx hb dX7_count_102 rfl (lv_at hl 0 rfl) ?_
        refine va_get (D := D) (ci := 7) (v := .int (m1 0 17)) (C := RX7) (T := TX7) (N := 33) hx hb hts iX7 hown hK hP 0 rfl rfl 17 (by decide) (hts _ aw753) (fun _ h9 => h9) rfl dX7_count_103 ?_
        obtain rfl := so1 hf
        exact ret_i hx hb hr hlocks hK hP hD hS dX7_count_106
      have hf := if_f c9 hf
      by_cases c10 : p1 = 3
      · have hf := if_t c10 hf
        refine z_tin (K := 3) hx hb c10 dX7_count_43 ⟨rfl, by decide, by decide⟩ (tgt := 107) (by decide) ?_
        refine lv_aload_n hx hb dX7_count_107 rfl (lv_at hl 0 rfl) ?_
        refine lv_iconst (v := 2) hx hb dX7_count_108 (by decide) ?_
        obtain ⟨r11, q12, hf⟩ := bd_use hf
        have hfo : Foc (WMod z a1 m1) (WMod z a1 m1) (WMod z a1 m1) (WMod z a1 m1) := foc_all
        refine z_goI (ws1 := (WMod z a1 m1)) (va_runV (As := [.int 2]) (rest := []) ⟨hx, hb, hml, hown, hts⟩ (tX7_stateMany l D z tt a1 m1 2 fu r11 q12 _) (cwV 1 hts (gV4 aw1016 aw1018 aw31 aw52 aw1019) rfl rfl rfl (by decide +kernel) ⟨Nat.le_of_ble_eq_true rfl, Nat.le_of_ble_eq_true rfl⟩) (z_preV hK hP hD hS hA hT hN hfo (va_recv hK hP (ci := 7) (q0 := 0) rfl rfl)) rfl rfl hl.1 rfl (lv_room (Nat.le_of_ble_eq_true rfl)) dX7_count_109 ⟨Nat.zero_le _, Nat.zero_le _⟩) hP hD hS hA hfo (fun H locs hP hD hS => ?_)
        obtain rfl := so1 hf
        exact ret_i hx hb hr hlocks hK hP hD hS dX7_count_112
      have hf := if_f c10 hf
      by_cases c13 : p1 = 4
      · have hf := if_t c13 hf
        refine z_tin (K := 4) hx hb c13 dX7_count_43 ⟨rfl, by decide, by decide⟩ (tgt := 113) (by decide) ?_
        refine lv_aload_n hx hb dX7_count_113 rfl (lv_at hl 0 rfl) ?_
        refine lv_iconst (v := 3) hx hb dX7_count_114 (by decide) ?_
        obtain ⟨r14, q15, hf⟩ := bd_use hf
        have hfo : Foc (WMod z a1 m1) (WMod z a1 m1) (WMod z a1 m1) (WMod z a1 m1) := foc_all
        refine z_goI (ws1 := (WMod z a1 m1)) (va_runV (As := [.int 3]) (rest := []) ⟨hx, hb, hml, hown, hts⟩ (tX7_stateMany l D z tt a1 m1 3 fu r14 q15 _) (cwV 1 hts (gV4 aw1016 aw1018 aw31 aw52 aw1019) rfl rfl rfl (by decide +kernel) ⟨Nat.le_of_ble_eq_true rfl, Nat.le_of_ble_eq_true rfl⟩) (z_preV hK hP hD hS hA hT hN hfo (va_recv hK hP (ci := 7) (q0 := 0) rfl rfl)) rfl rfl hl.1 rfl (lv_room (Nat.le_of_ble_eq_true rfl)) dX7_count_115 ⟨Nat.zero_le _, Nat.zero_le _⟩) hP hD hS hA hfo (fun H locs hP hD hS => ?_)
        obtain rfl := so1 hf
        exact ret_i hx hb hr hlocks hK hP hD hS dX7_count_118
      have hf := if_f c13 hf
      by_cases c16 : p1 = 5
      · have hf := if_t c16 hf
        refine z_tin (K := 5) hx hb c16 dX7_count_43 ⟨rfl, by decide, by decide⟩ (tgt := 119) (by decide) ?_
        refine lv_aload_n hx hb dX7_count_119 rfl (lv_at hl 0 rfl) ?_
        obtain ⟨r17, q18, hf⟩ := bd_use hf
        have hfo : Foc (WMod z a1 m1) (WMod z a1 m1) (WMod z a1 m1) (WMod z a1 m1) := foc_all
        refine z_goI (ws1 := (WMod z a1 m1)) (va_runV (As := []) (rest := []) ⟨hx, hb, hml, hown, hts⟩ (tX7_isOver l D z tt a1 m1  fu r17 q18 _) (cwV 0 hts (gV4 aw956 aw958 aw19 aw52 aw959) rfl rfl rfl (by decide +kernel) ⟨Nat.le_of_ble_eq_true rfl, Nat.le_of_ble_eq_true rfl⟩) (z_preV hK hP hD hS hA hT hN hfo (va_recv hK hP (ci := 7) (q0 := 0) rfl rfl)) rfl rfl hl.1 rfl (lv_room (Nat.le_of_ble_eq_true rfl)) dX7_count_120 ⟨Nat.zero_le _, Nat.zero_le _⟩) hP hD hS hA hfo (fun H locs hP hD hS => ?_)
        refine lv_if_eq (tgt := 130) hx hb dX7_count_123 (by decide) (fun c19 => ?_) (fun c19 => ?_)
        · have hf := if_t c19 hf
          refine lv_iconst (v := 0) hx hb dX7_count_130 (by decide) ?_
          obtain rfl := so1 hf
          exact ret_i hx hb hr hlocks hK hP hD hS dX7_count_131
        · have hf := if_f c19 hf
          refine lv_iconst (v := 1) hx hb dX7_count_126 (by decide) ?_
          refine lv_goto (tgt := 131) hx hb dX7_count_127 (by decide) ?_
          obtain rfl := so1 hf
          exact ret_i hx hb hr hlocks hK hP hD hS dX7_count_131
      have hf := if_f c16 hf
      by_cases c20 : p1 = 6
      · have hf := if_t c20 hf
        refine z_tin (K := 6) hx hb c20 dX7_count_43 ⟨rfl, by decide, by decide⟩ (tgt := 132) (by decide) ?_
        refine lv_aload_n hx hb dX7_count_132 rfl (lv_at hl 0 rfl) ?_
        obtain ⟨r21, q22, hf⟩ := bd_use hf
        have hfo : Foc (WMod z a1 m1) (WMod z a1 m1) (WMod z a1 m1) (WMod z a1 m1) := foc_all
        refine z_goI (ws1 := (WMod z a1 m1)) (va_runV (As := []) (rest := []) ⟨hx, hb, hml, hown, hts⟩ (tX7_waitedAll l D z tt a1 m1  fu r21 q22 _) (cwV 0 hts (gV4 aw1012 aw1014 aw30 aw52 aw1015) rfl rfl rfl (by decide +kernel) ⟨Nat.le_of_ble_eq_true rfl, Nat.le_of_ble_eq_true rfl⟩) (z_preV hK hP hD hS hA hT hN hfo (va_recv hK hP (ci := 7) (q0 := 0) rfl rfl)) rfl rfl hl.1 rfl (lv_room (Nat.le_of_ble_eq_true rfl)) dX7_count_133 ⟨Nat.zero_le _, Nat.zero_le _⟩) hP hD hS hA hfo (fun H locs hP hD hS => ?_)
        obtain rfl := so1 hf
        exact ret_i hx hb hr hlocks hK hP hD hS dX7_count_136
      have hf := if_f c20 hf
      by_cases c23 : p1 = 7
      · have hf := if_t c23 hf
        refine z_tin (K := 7) hx hb c23 dX7_count_43 ⟨rfl, by decide, by decide⟩ (tgt := 137) (by decide) ?_
        refine lv_aload_n hx hb dX7_count_137 rfl (lv_at hl 0 rfl) ?_
        refine va_get (D := D) (ci := 7) (v := .int (m1 0 23)) (C := RX7) (T := TX7) (N := 33) hx hb hts iX7 hown hK hP 0 rfl rfl 23 (by decide) (hts _ aw759) (fun _ h9 => h9) rfl dX7_count_138 ?_
        obtain rfl := so1 hf
        exact ret_i hx hb hr hlocks hK hP hD hS dX7_count_141
      have hf := if_f c23 hf
      by_cases c24 : p1 = 8
      · have hf := if_t c24 hf
        refine z_tin (K := 8) hx hb c24 dX7_count_43 ⟨rfl, by decide, by decide⟩ (tgt := 142) (by decide) ?_
        refine lv_aload_n hx hb dX7_count_142 rfl (lv_at hl 0 rfl) ?_
        refine va_get (D := D) (ci := 7) (v := .int (m1 0 32)) (C := RX7) (T := TX7) (N := 33) hx hb hts iX7 hown hK hP 0 rfl rfl 32 (by decide) (hts _ aw768) (fun _ h9 => h9) rfl dX7_count_143 ?_
        obtain rfl := so1 hf
        exact ret_i hx hb hr hlocks hK hP hD hS dX7_count_146
      have hf := if_f c24 hf
      refine lv_tableOut (tgt := 147) hx hb dX7_count_43 (by have qc7 := lv_neT c7 (show (0 : Int32).toInt = 0 from by decide); have qc8 := lv_neT c8 (show (1 : Int32).toInt = 1 from by decide); have qc9 := lv_neT c9 (show (2 : Int32).toInt = 2 from by decide); have qc10 := lv_neT c10 (show (3 : Int32).toInt = 3 from by decide); have qc13 := lv_neT c13 (show (4 : Int32).toInt = 4 from by decide); have qc16 := lv_neT c16 (show (5 : Int32).toInt = 5 from by decide); have qc20 := lv_neT c20 (show (6 : Int32).toInt = 6 from by decide); have qc23 := lv_neT c23 (show (7 : Int32).toInt = 7 from by decide); have qc24 := lv_neT c24 (show (8 : Int32).toInt = 8 from by decide); omega) (by decide) ?_
      refine lv_bipush (v := (-9)) hx hb dX7_count_147 (by decide) ?_
      obtain rfl := so1 hf
      exact ret_i hx hb hr hlocks hK hP hD hS dX7_count_149
    · have hf := if_f c6 hf
      refine lv_aload_n hx hb dX7_count_32 rfl (lv_at hl 0 rfl) ?_
      refine va_get (D := D) (ci := 7) (v := .ref (a1 2)) (C := RX7) (T := TX7) (N := 33) hx hb hts iX7 hown hK hP 0 rfl rfl 1 (by decide) (hts _ aw737) (fun _ h9 => h9) rfl dX7_count_33 ?_
      refine lv_iload_n hx hb dX7_count_36 rfl (lv_at hl 1 rfl) ?_
      refine lv_bipush (v := 20) hx hb dX7_count_37 (by decide) ?_
      refine lv_isub hx hb dX7_count_39 ?_
      obtain ⟨h25, hf⟩ := ck_use hf
      refine z_iald hx hb hK hP 2 rfl h25 dX7_count_40 ?_
      obtain rfl := so1 hf
      exact ret_i hx hb hr hlocks hK hP hD hS dX7_count_41
  · have hf := if_f c3 hf
    refine lv_aload_n hx hb dX7_count_11 rfl (lv_at hl 0 rfl) ?_
    refine va_get (D := D) (ci := 7) (v := .ref (a1 1)) (C := RX7) (T := TX7) (N := 33) hx hb hts iX7 hown hK hP 0 rfl rfl 0 (by decide) (hts _ aw736) (fun _ h9 => h9) rfl dX7_count_12 ?_
    refine lv_iload_n hx hb dX7_count_15 rfl (lv_at hl 1 rfl) ?_
    refine lv_bipush (v := 10) hx hb dX7_count_16 (by decide) ?_
    refine lv_isub hx hb dX7_count_18 ?_
    obtain ⟨h26, hf⟩ := ck_use hf
    refine z_iald hx hb hK hP 1 rfl h26 dX7_count_19 ?_
    obtain rfl := so1 hf
    exact ret_i hx hb hr hlocks hK hP hD hS dX7_count_20
