def pX2_loseImpatient (fu : Nat) (m1 : Mem) : Option Mem :=
  zl2 (fun g4 (x1 : Int32) (y2 : Mem) =>
    if (y2 0 5) ≤ x1 then
      bd (pX2_closeUp fu y2) fun y7 =>
      some y7
    else
      ck x1 8 <|
      ck (y2 2 x1.toNatClampNeg) 8 <|
      if ((y2 0 6) - (y2 (5 + (y2 2 x1.toNatClampNeg).toNatClampNeg) 2)) ≤ (y2 (5 + (y2 2 x1.toNatClampNeg).toNatClampNeg) 4) then
        lt' (x1 + 1) fun x12 =>
        g4 x12 y2
      else
        lt' (up2 y2 (5 + (y2 2 x1.toNatClampNeg).toNatClampNeg) 5 3) fun y13 =>
        lt' (x1 + 1) fun x14 =>
        g4 x14 y13) fu 0 m1
set_option maxHeartbeats 4000000 in
set_option maxRecDepth 100000 in
theorem tX2_loseImpatient (l : Launch) (D : va_G) (z tt : Nat → Nat) (a1 : Nat → Nat) (m1 : Mem)  (fu : Nat) (m1' : Mem) (hf : pX2_loseImpatient fu m1 = some m1') : MetV l yX2_loseImpatient wsX2_loseImpatient ({ frames := 1, cells := 0, slots := 0, locals := 22 } : Room) D z tt ([.ref (a1 0)] : List Value) (WDay z a1 m1) (WDay z a1 m1') := by
  intro sz
  refine Met.ofW (cc := cX2_loseImpatient) (maxL := 3) (ret := none) (by decide) rfl ?_
  intro p e s m args below meth c s₁ B hml hv
  obtain ⟨rfl, hsz, hP, hK, hD0, hT, hN⟩ := hv
  have hx := B.exec
  have hb := B.bytes
  have hr := B.returns
  have hts : ∀ w ∈ wsA, w.before ([.ref (a1 0)] : List Value).toArray s = true := fun w h => atoms_spec (ws := wsX2_loseImpatient) B.pre w (List.mem_cons_of_mem _ h)
  have hown : s.vm.findClass RX2 = some m.cls := findClass_of_methodNamed B.named
  have hlocks := B.notSynchronized
  subst hsz
  have hD := hD0.self (sz := s.heap.size)
  generalize hAe : va_A (WDay z a1 m1) s.heap.size = A at hD hT ⊢
  have hA : ∀ q : Nat, s.heap.size ≤ q → A q := fun q h => by rw [← hAe]; exact Or.inr h
  have hS : va_S A s.heap s.heap [] := va_S.rf
  have hl := lv_entry ([.ref (a1 0)] : List Value) (n := 3) (Nat.le_of_ble_eq_true rfl)
  rw [lg_entry_eq]
  generalize (lg_sl ([.ref (a1 0)] : List Value) ++ List.replicate (3 - (lg_sl ([.ref (a1 0)] : List Value)).length) Slot.unset).toArray = ls at hl ⊢
  have hl : lv_has ls 3 [(0, .ref (a1 0))] := hl
  unfold pX2_loseImpatient at hf
  refine lv_iconst (v := 0) hx hb dX2_loseImpatient_0 (by decide) ?_
  refine lv_istore_n (lv' := [(1, .int 0), (0, .ref (a1 0))]) hx hb dX2_loseImpatient_1 rfl hl (by decide) rfl (fun ls hl => ?_)
  obtain ⟨F3, eF3, hf⟩ := zl2_use hf
  have L2_F3 : ∀ (n : Nat) (x1 : Int32) (y2 : Mem) (H : Heap) (locs : List Loc), va_P D vwCl (WDay z a1 y2) H → va_D A (WDay z a1 y2) → va_S A s.heap H locs → ∀ (ls : Array Slot), lv_has ls 3 [(0, .ref (a1 0)), (1, .int x1)] → zl2 F3 n x1 y2 = some m1' → GV p l e (headSpec wsX2_loseImpatient ({ frames := 1, cells := 0, slots := 0, locals := 22 } : Room)).room s m ([.ref (a1 0)] : List Value).toArray below meth c A D z (WDay z a1 m1') H locs (F0 m 2 ls []) := by
    intro n
    induction n with
    | zero =>
      intro x1 y2 H locs hP hD hS ls hl hf
      exact no_none hf
    | succ n ih5 =>
      intro x1 y2 H locs hP hD hS ls hl hf
      have hf := zl2_s eF3 hf
      refine lv_iload_n hx hb dX2_loseImpatient_2 rfl (lv_at hl 1 rfl) ?_
      refine lv_aload_n hx hb dX2_loseImpatient_3 rfl (lv_at hl 0 rfl) ?_
      refine va_get (D := D) (ci := 2) (v := .int (y2 0 5)) (C := RX2) (T := TX2) (N := 8) hx hb hts iX2 hown hK hP 0 rfl rfl 5 (by decide) (hts _ aw168) (fun _ h9 => h9) rfl dX2_loseImpatient_4 ?_
      refine lv_icmp_ge (tgt := 49) hx hb dX2_loseImpatient_7 (by decide) (fun c6 => ?_) (fun c6 => ?_)
      · have hf := if_t c6 hf
        refine lv_aload_n hx hb dX2_loseImpatient_49 rfl (lv_at hl 0 rfl) ?_
        obtain ⟨y7, q8, hf⟩ := bd_use hf
        have hfo : Foc (WDay z a1 y2) (WDay z a1 y2) (WDay z a1 y7) (WDay z a1 y7) := foc_all
        refine z_goV (ws1 := (WDay z a1 y7)) (va_runV (As := []) (rest := []) ⟨hx, hb, hml, hown, hts⟩ (tX2_closeUp l D z tt a1 y2  fu y7 q8 _) (cwV 0 hts (gV4 aw455 aw456 aw457 aw46 aw458) rfl rfl rfl (by decide +kernel) ⟨Nat.le_of_ble_eq_true rfl, Nat.le_of_ble_eq_true rfl⟩) (z_preV hK hP hD hS hA hT hN hfo (va_recv hK hP (ci := 2) (q0 := 0) rfl rfl)) rfl rfl hl.1 rfl (lv_room (Nat.le_of_ble_eq_true rfl)) dX2_loseImpatient_50 ⟨Nat.zero_le _, Nat.zero_le _⟩) hP hD hS hA hfo (fun H locs hP hD hS => ?_)
        obtain rfl := so1 hf
        exact ret_v hx hb hr hlocks hK hP hD hS dX2_loseImpatient_53
      · have hf := if_f c6 hf
        refine lv_aload_n hx hb dX2_loseImpatient_10 rfl (lv_at hl 0 rfl) ?_
        refine va_get (D := D) (ci := 2) (v := .ref (a1 13)) (C := RX2) (T := TX2) (N := 8) hx hb hts iX2 hown hK hP 0 rfl rfl 1 (by decide) (hts _ aw154) (fun _ h9 => h9) rfl dX2_loseImpatient_11 ?_
        refine lv_aload_n hx hb dX2_loseImpatient_14 rfl (lv_at hl 0 rfl) ?_
        refine va_get (D := D) (ci := 2) (v := .ref (a1 2)) (C := RX2) (T := TX2) (N := 8) hx hb hts iX2 hown hK hP 0 rfl rfl 3 (by decide) (hts _ aw162) (fun _ h9 => h9) rfl dX2_loseImpatient_15 ?_
        refine lv_iload_n hx hb dX2_loseImpatient_18 rfl (lv_at hl 1 rfl) ?_
        obtain ⟨h9, hf⟩ := ck_use hf
        refine z_iald hx hb hK hP 2 rfl h9 dX2_loseImpatient_19 ?_
        obtain ⟨h10, hf⟩ := ck_use hf
        refine z_ald hx hb hK hP 13 1 (C := "FilledForOne$Comer") (g := (fun j => a1 (5 + j))) rfl rfl h10 dX2_loseImpatient_20 ?_
        refine lv_astore_n (lv' := [(2, .ref (a1 (5 + (y2 2 x1.toNatClampNeg).toNatClampNeg))), (0, .ref (a1 0)), (1, .int x1)]) hx hb dX2_loseImpatient_21 rfl hl (by decide) rfl (fun ls hl => ?_)
        refine lv_aload_n hx hb dX2_loseImpatient_22 rfl (lv_at hl 1 rfl) ?_
        refine va_get (D := D) (ci := 2) (v := .int (y2 0 6)) (C := RX2) (T := TX2) (N := 8) hx hb hts iX2 hown hK hP 0 rfl rfl 6 (by decide) (hts _ aw170) (fun _ h9 => h9) rfl dX2_loseImpatient_23 ?_
        refine lv_aload_n hx hb dX2_loseImpatient_26 rfl (lv_at hl 0 rfl) ?_
        refine va_get (D := D) (ci := 1) (v := .int (y2 (5 + (y2 2 x1.toNatClampNeg).toNatClampNeg) 2)) (C := RX1) (T := TX1) (N := 7) hx hb hts iX1 hown hK hP (5 + (y2 2 x1.toNatClampNeg).toNatClampNeg) (WDay_c z a1 y2 (vp_lt h10)) rfl 2 (by decide) (hts _ aw95) (fun _ h9 => h9) rfl dX2_loseImpatient_27 ?_
        refine lv_isub hx hb dX2_loseImpatient_30 ?_
        refine lv_aload_n hx hb dX2_loseImpatient_31 rfl (lv_at hl 0 rfl) ?_
        refine va_get (D := D) (ci := 1) (v := .int (y2 (5 + (y2 2 x1.toNatClampNeg).toNatClampNeg) 4)) (C := RX1) (T := TX1) (N := 7) hx hb hts iX1 hown hK hP (5 + (y2 2 x1.toNatClampNeg).toNatClampNeg) (WDay_c z a1 y2 (vp_lt h10)) rfl 4 (by decide) (hts _ aw101) (fun _ h9 => h9) rfl dX2_loseImpatient_32 ?_
        refine lv_icmp_le (tgt := 43) hx hb dX2_loseImpatient_35 (by decide) (fun c11 => ?_) (fun c11 => ?_)
        · have hf := if_t c11 hf
          obtain ⟨x12, ex12⟩ : ∃ y : Int32, y = x1 + 1 := ⟨_, rfl⟩
          have hf := lt_use ex12 hf
          refine lv_iinc (v := x12) (lv' := [(1, .int x12), (2, .ref (a1 (5 + (y2 2 x1.toNatClampNeg).toNatClampNeg))), (0, .ref (a1 0))]) hx hb dX2_loseImpatient_43 hl (k := 2) rfl (by rw [ex12]; rfl) (by decide) rfl (fun ls hl => ?_)
          refine lv_goto (tgt := 2) hx hb dX2_loseImpatient_46 (by decide) ?_
          exact ih5 _ _ _ _ hP hD hS _ (lv_sub hl [2, 0] rfl) hf
        · have hf := if_f c11 hf
          refine lv_aload_n hx hb dX2_loseImpatient_38 rfl (lv_at hl 0 rfl) ?_
          refine lv_iconst (v := 3) hx hb dX2_loseImpatient_39 (by decide) ?_
          refine z_put (ci := 1) (v := .int 3) (ty := .int) (C := RX1) (T := TX1) (N := 7) hx hb hts iX1 tyX1 tyX1_ok nmX1 hown hK hP hD hS (5 + (y2 2 x1.toNatClampNeg).toNatClampNeg) (WDay_c z a1 y2 (vp_lt h10)) rfl 5 (by decide) (hts _ aw103) (fun _ h9 => h9) rfl (by decide +kernel) rfl rfl (Nat.le_of_ble_eq_true rfl) dX2_loseImpatient_40 (fun (w9 : Mem) => (WDay z a1 w9)) (up2 y2 (5 + (y2 2 x1.toNatClampNeg).toNatClampNeg) 5 3) (WDay_sc z a1 y2 (upd (y2 (5 + (y2 2 x1.toNatClampNeg).toNatClampNeg)) 5 3) (vp_lt h10)) (fun y13 ey13 H locs hP hD hS => ?_)
          have hf := lt_use ey13 hf
          obtain ⟨x14, ex14⟩ : ∃ y : Int32, y = x1 + 1 := ⟨_, rfl⟩
          have hf := lt_use ex14 hf
          refine lv_iinc (v := x14) (lv' := [(1, .int x14), (2, .ref (a1 (5 + (y2 2 x1.toNatClampNeg).toNatClampNeg))), (0, .ref (a1 0))]) hx hb dX2_loseImpatient_43 hl (k := 2) rfl (by rw [ex14]; rfl) (by decide) rfl (fun ls hl => ?_)
          refine lv_goto (tgt := 2) hx hb dX2_loseImpatient_46 (by decide) ?_
          exact ih5 _ _ _ _ hP hD hS _ (lv_sub hl [2, 0] rfl) hf
  exact L2_F3 fu _ _ _ _ hP hD hS _ (lv_sub hl [1, 0] rfl) hf
def pX2_coolDown (fu : Nat) (m1 : Mem) : Option Mem :=
  zl2 (fun g4 (x1 : Int32) (y2 : Mem) =>
    bd (pX2_kettlesInUse fu y2) fun r6 =>
    if r6 ≤ x1 then
      some y2
    else
      ck x1 2 <|
      if (y2 (3 + x1.toNatClampNeg) 0) ≤ 0 then
        lt' (x1 + 1) fun x11 =>
        g4 x11 y2
      else
        ck x1 2 <|
        bd (pX3_isFree fu (y2 (3 + x1.toNatClampNeg)) (y2 0 6)) fun r13 =>
        if r13 = 0 then
          lt' (x1 + 1) fun x16 =>
          g4 x16 y2
        else
          ck x1 2 <|
          bd (pX3_cool fu (y2 (3 + x1.toNatClampNeg)) (y2 1 3)) fun y18 =>
          lt' (va_up y2 (3 + x1.toNatClampNeg) y18) fun y20 =>
          lt' (x1 + 1) fun x21 =>
          g4 x21 y20) fu 0 m1
set_option maxHeartbeats 4000000 in
set_option maxRecDepth 100000 in
theorem tX2_coolDown (l : Launch) (D : va_G) (z tt : Nat → Nat) (a1 : Nat → Nat) (m1 : Mem)  (fu : Nat) (m1' : Mem) (hf : pX2_coolDown fu m1 = some m1') : MetV l yX2_coolDown wsX2_coolDown ({ frames := 2, cells := 0, slots := 0, locals := 38 } : Room) D z tt ([.ref (a1 0)] : List Value) (WDay z a1 m1) (WDay z a1 m1') := by
  intro sz
  refine Met.ofW (cc := cX2_coolDown) (maxL := 2) (ret := none) (by decide) rfl ?_
  intro p e s m args below meth c s₁ B hml hv
  obtain ⟨rfl, hsz, hP, hK, hD0, hT, hN⟩ := hv
  have hx := B.exec
  have hb := B.bytes
  have hr := B.returns
  have hts : ∀ w ∈ wsA, w.before ([.ref (a1 0)] : List Value).toArray s = true := fun w h => atoms_spec (ws := wsX2_coolDown) B.pre w (List.mem_cons_of_mem _ h)
  have hown : s.vm.findClass RX2 = some m.cls := findClass_of_methodNamed B.named
  have hlocks := B.notSynchronized
  subst hsz
  have hD := hD0.self (sz := s.heap.size)
  generalize hAe : va_A (WDay z a1 m1) s.heap.size = A at hD hT ⊢
  have hA : ∀ q : Nat, s.heap.size ≤ q → A q := fun q h => by rw [← hAe]; exact Or.inr h
  have hS : va_S A s.heap s.heap [] := va_S.rf
  have hl := lv_entry ([.ref (a1 0)] : List Value) (n := 2) (Nat.le_of_ble_eq_true rfl)
  rw [lg_entry_eq]
  generalize (lg_sl ([.ref (a1 0)] : List Value) ++ List.replicate (2 - (lg_sl ([.ref (a1 0)] : List Value)).length) Slot.unset).toArray = ls at hl ⊢
  have hl : lv_has ls 2 [(0, .ref (a1 0))] := hl
  unfold pX2_coolDown at hf
  refine lv_iconst (v := 0) hx hb dX2_coolDown_0 (by decide) ?_
  refine lv_istore_n (lv' := [(1, .int 0), (0, .ref (a1 0))]) hx hb dX2_coolDown_1 rfl hl (by decide) rfl (fun ls hl => ?_)
  obtain ⟨F3, eF3, hf⟩ := zl2_use hf
  have L2_F3 : ∀ (n : Nat) (x1 : Int32) (y2 : Mem) (H : Heap) (locs : List Loc), va_P D vwCl (WDay z a1 y2) H → va_D A (WDay z a1 y2) → va_S A s.heap H locs → ∀ (ls : Array Slot), lv_has ls 2 [(0, .ref (a1 0)), (1, .int x1)] → zl2 F3 n x1 y2 = some m1' → GV p l e (headSpec wsX2_coolDown ({ frames := 2, cells := 0, slots := 0, locals := 38 } : Room)).room s m ([.ref (a1 0)] : List Value).toArray below meth c A D z (WDay z a1 m1') H locs (F0 m 2 ls []) := by
    intro n
    induction n with
    | zero =>
      intro x1 y2 H locs hP hD hS ls hl hf
      exact no_none hf
    | succ n ih5 =>
      intro x1 y2 H locs hP hD hS ls hl hf
      have hf := zl2_s eF3 hf
      refine lv_iload_n hx hb dX2_coolDown_2 rfl (lv_at hl 1 rfl) ?_
      refine lv_aload_n hx hb dX2_coolDown_3 rfl (lv_at hl 0 rfl) ?_
      obtain ⟨r6, q7, hf⟩ := bd_use hf
      have hfo : Foc (WDay z a1 y2) (WDay z a1 y2) (WDay z a1 y2) (WDay z a1 y2) := foc_all
      refine z_goI (ws1 := (WDay z a1 y2)) (va_runV (As := []) (rest := [.int x1]) ⟨hx, hb, hml, hown, hts⟩ (tX2_kettlesInUse l D z tt a1 y2  fu r6 q7 _) (cwV 0 hts (gV4 aw347 aw348 aw349 aw46 aw350) rfl rfl rfl (by decide +kernel) ⟨Nat.le_of_ble_eq_true rfl, Nat.le_of_ble_eq_true rfl⟩) (z_preV hK hP hD hS hA hT hN hfo (va_recv hK hP (ci := 2) (q0 := 0) rfl rfl)) rfl rfl hl.1 rfl (lv_room (Nat.le_of_ble_eq_true rfl)) dX2_coolDown_4 ⟨Nat.zero_le _, Nat.zero_le _⟩) hP hD hS hA hfo (fun H locs hP hD hS => ?_)
      refine lv_icmp_ge (tgt := 59) hx hb dX2_coolDown_7 (by decide) (fun c8 => ?_) (fun c8 => ?_)
      · have hf := if_t c8 hf
        obtain rfl := so1 hf
        exact ret_v hx hb hr hlocks hK hP hD hS dX2_coolDown_59
      · have hf := if_f c8 hf
        refine lv_aload_n hx hb dX2_coolDown_10 rfl (lv_at hl 0 rfl) ?_
        refine va_get (D := D) (ci := 2) (v := .ref (a1 14)) (C := RX2) (T := TX2) (N := 8) hx hb hts iX2 hown hK hP 0 rfl rfl 2 (by decide) (hts _ aw159) (fun _ h9 => h9) rfl dX2_coolDown_11 ?_
        refine lv_iload_n hx hb dX2_coolDown_14 rfl (lv_at hl 1 rfl) ?_
        obtain ⟨h9, hf⟩ := ck_use hf
        refine z_ald hx hb hK hP 14 2 (C := "FilledForOne$Kettle") (g := (fun j => a1 (3 + j))) rfl rfl h9 dX2_coolDown_15 ?_
        refine va_get (D := D) (ci := 3) (v := .int (y2 (3 + x1.toNatClampNeg) 0)) (C := RX3) (T := TX3) (N := 5) hx hb hts iX3 hown hK hP (3 + x1.toNatClampNeg) (WDay_k z a1 y2 (vp_lt h9)) rfl 0 (by decide) (hts _ aw133) (fun _ h9 => h9) rfl dX2_coolDown_16 ?_
        refine lv_if_le (tgt := 53) hx hb dX2_coolDown_19 (by decide) (fun c10 => ?_) (fun c10 => ?_)
        · have hf := if_t c10 hf
          obtain ⟨x11, ex11⟩ : ∃ y : Int32, y = x1 + 1 := ⟨_, rfl⟩
          have hf := lt_use ex11 hf
          refine lv_iinc (v := x11) (lv' := [(1, .int x11), (0, .ref (a1 0))]) hx hb dX2_coolDown_53 hl (k := 1) rfl (by rw [ex11]; rfl) (by decide) rfl (fun ls hl => ?_)
          refine lv_goto (tgt := 2) hx hb dX2_coolDown_56 (by decide) ?_
          exact ih5 _ _ _ _ hP hD hS _ (lv_sub hl [1, 0] rfl) hf
        · have hf := if_f c10 hf
          refine lv_aload_n hx hb dX2_coolDown_22 rfl (lv_at hl 0 rfl) ?_
          refine va_get (D := D) (ci := 2) (v := .ref (a1 14)) (C := RX2) (T := TX2) (N := 8) hx hb hts iX2 hown hK hP 0 rfl rfl 2 (by decide) (hts _ aw159) (fun _ h9 => h9) rfl dX2_coolDown_23 ?_
          refine lv_iload_n hx hb dX2_coolDown_26 rfl (lv_at hl 1 rfl) ?_
          obtain ⟨h12, hf⟩ := ck_use hf
          refine z_ald hx hb hK hP 14 2 (C := "FilledForOne$Kettle") (g := (fun j => a1 (3 + j))) rfl rfl h12 dX2_coolDown_27 ?_
          refine lv_aload_n hx hb dX2_coolDown_28 rfl (lv_at hl 0 rfl) ?_
          refine va_get (D := D) (ci := 2) (v := .int (y2 0 6)) (C := RX2) (T := TX2) (N := 8) hx hb hts iX2 hown hK hP 0 rfl rfl 6 (by decide) (hts _ aw170) (fun _ h9 => h9) rfl dX2_coolDown_29 ?_
          obtain ⟨r13, q14, hf⟩ := bd_use hf
          have hfo : Foc (WDay z a1 y2) (WKet (a1 (3 + x1.toNatClampNeg)) (y2 (3 + x1.toNatClampNeg))) (WDay z a1 y2) (WKet (a1 (3 + x1.toNatClampNeg)) (y2 (3 + x1.toNatClampNeg))) := (foc_els (WDay_k z a1 y2 (vp_lt h12)))
          refine z_goI (ws1 := (WDay z a1 y2)) (va_runV (As := [.int (y2 0 6)]) (rest := []) ⟨hx, hb, hml, hown, hts⟩ (tX3_isFree l D z tt (a1 (3 + x1.toNatClampNeg)) (y2 (3 + x1.toNatClampNeg)) (y2 0 6) fu r13 q14 _) (cwV 1 hts (gV4 aw434 aw435 aw436 aw48 aw437) rfl rfl rfl (by decide +kernel) ⟨Nat.le_of_ble_eq_true rfl, Nat.le_of_ble_eq_true rfl⟩) (z_preV hK hP hD hS hA hT hN hfo (va_recv hK hP (ci := 3) (q0 := (3 + x1.toNatClampNeg)) rfl (WDay_k z a1 y2 (vp_lt h12)))) rfl rfl hl.1 rfl (lv_room (Nat.le_of_ble_eq_true rfl)) dX2_coolDown_32 ⟨Nat.zero_le _, Nat.zero_le _⟩) hP hD hS hA hfo (fun H locs hP hD hS => ?_)
          refine lv_if_eq (tgt := 53) hx hb dX2_coolDown_35 (by decide) (fun c15 => ?_) (fun c15 => ?_)
          · have hf := if_t c15 hf
            obtain ⟨x16, ex16⟩ : ∃ y : Int32, y = x1 + 1 := ⟨_, rfl⟩
            have hf := lt_use ex16 hf
            refine lv_iinc (v := x16) (lv' := [(1, .int x16), (0, .ref (a1 0))]) hx hb dX2_coolDown_53 hl (k := 1) rfl (by rw [ex16]; rfl) (by decide) rfl (fun ls hl => ?_)
            refine lv_goto (tgt := 2) hx hb dX2_coolDown_56 (by decide) ?_
            exact ih5 _ _ _ _ hP hD hS _ (lv_sub hl [1, 0] rfl) hf
          · have hf := if_f c15 hf
            refine lv_aload_n hx hb dX2_coolDown_38 rfl (lv_at hl 0 rfl) ?_
            refine va_get (D := D) (ci := 2) (v := .ref (a1 14)) (C := RX2) (T := TX2) (N := 8) hx hb hts iX2 hown hK hP 0 rfl rfl 2 (by decide) (hts _ aw159) (fun _ h9 => h9) rfl dX2_coolDown_39 ?_
            refine lv_iload_n hx hb dX2_coolDown_42 rfl (lv_at hl 1 rfl) ?_
            obtain ⟨h17, hf⟩ := ck_use hf
            refine z_ald hx hb hK hP 14 2 (C := "FilledForOne$Kettle") (g := (fun j => a1 (3 + j))) rfl rfl h17 dX2_coolDown_43 ?_
            refine lv_aload_n hx hb dX2_coolDown_44 rfl (lv_at hl 0 rfl) ?_
            refine va_get (D := D) (ci := 2) (v := .ref (a1 1)) (C := RX2) (T := TX2) (N := 8) hx hb hts iX2 hown hK hP 0 rfl rfl 0 (by decide) (hts _ aw150) (fun _ h9 => h9) rfl dX2_coolDown_45 ?_
            refine lv_iconst (v := 3) hx hb dX2_coolDown_48 (by decide) ?_
            refine z_ialdc hx hb hK hP 1 rfl (i := 3) (k := 3) (by decide) (Nat.le_of_ble_eq_true rfl) dX2_coolDown_49 ?_
            obtain ⟨y18, q19, hf⟩ := bd_use hf
            obtain ⟨y20, ey20⟩ : ∃ w : Mem, w = va_up y2 (3 + x1.toNatClampNeg) y18 := ⟨_, rfl⟩
            have hf := lt_use ey20 hf
            have hfo : Foc (WDay z a1 y2) (WKet (a1 (3 + x1.toNatClampNeg)) (y2 (3 + x1.toNatClampNeg))) (WDay z a1 y20) (WKet (a1 (3 + x1.toNatClampNeg)) y18) := (foc_el (WDay_k z a1 y2 (vp_lt h17)) (by rw [ey20]; exact WDay_sk z a1 y2 y18 (vp_lt h17)))
            refine z_goV (ws1 := (WDay z a1 y20)) (va_runV (As := [.int (y2 1 3)]) (rest := []) ⟨hx, hb, hml, hown, hts⟩ (tX3_cool l D z tt (a1 (3 + x1.toNatClampNeg)) (y2 (3 + x1.toNatClampNeg)) (y2 1 3) fu y18 q19 _) (cwV 1 hts (gV4 aw499 aw500 aw501 aw48 aw502) rfl rfl rfl (by decide +kernel) ⟨Nat.le_of_ble_eq_true rfl, Nat.le_of_ble_eq_true rfl⟩) (z_preV hK hP hD hS hA hT hN hfo (va_recv hK hP (ci := 3) (q0 := (3 + x1.toNatClampNeg)) rfl (WDay_k z a1 y2 (vp_lt h17)))) rfl rfl hl.1 rfl (lv_room (Nat.le_of_ble_eq_true rfl)) dX2_coolDown_50 ⟨Nat.zero_le _, Nat.zero_le _⟩) hP hD hS hA hfo (fun H locs hP hD hS => ?_)
            obtain ⟨x21, ex21⟩ : ∃ y : Int32, y = x1 + 1 := ⟨_, rfl⟩
            have hf := lt_use ex21 hf
            refine lv_iinc (v := x21) (lv' := [(1, .int x21), (0, .ref (a1 0))]) hx hb dX2_coolDown_53 hl (k := 1) rfl (by rw [ex21]; rfl) (by decide) rfl (fun ls hl => ?_)
            refine lv_goto (tgt := 2) hx hb dX2_coolDown_56 (by decide) ?_
            exact ih5 _ _ _ _ hP hD hS _ (lv_sub hl [1, 0] rfl) hf
  exact L2_F3 fu _ _ _ _ hP hD hS _ (lv_sub hl [1, 0] rfl) hf
def pX2_firstReady (fu : Nat) (m1 : Mem) (p1 : Int32) : Option (Option Nat) :=
  zl1 (fun g3 (x1 : Int32) =>
    bd (pX2_kettlesInUse fu m1) fun r5 =>
    if r5 ≤ x1 then
      some none
    else
      ck x1 2 <|
      bd (pX3_isReady fu (m1 (3 + x1.toNatClampNeg)) (m1 0 6) p1) fun r9 =>
      if r9 = 0 then
        lt' (x1 + 1) fun x12 =>
        g3 x12
      else
        ck x1 2 <|
        some (some (x1.toNatClampNeg))) fu 0
set_option maxHeartbeats 4000000 in
set_option maxRecDepth 100000 in
theorem tX2_firstReady (l : Launch) (D : va_G) (z tt : Nat → Nat) (a1 : Nat → Nat) (m1 : Mem) (p1 : Int32) (fu : Nat) (rr : Option Nat) (hf : pX2_firstReady fu m1 p1 = some rr) : MetQ l yX2_firstReady wsX2_firstReady ({ frames := 1, cells := 0, slots := 0, locals := 22 } : Room) D z tt ([.ref (a1 0), .int p1] : List Value) (WDay z a1 m1) (rr.map fun i => a1 (3 + i)) (WDay z a1 m1) := by
  intro sz
  refine Met.ofW (cc := cX2_firstReady) (maxL := 3) (ret := (some (.object "FilledForOne$Kettle"))) (by decide) rfl ?_
  intro p e s m args below meth c s₁ B hml hv
  obtain ⟨rfl, hsz, hP, hK, hD0, hT, hN⟩ := hv
  have hx := B.exec
  have hb := B.bytes
  have hr := B.returns
  have hts : ∀ w ∈ wsA, w.before ([.ref (a1 0), .int p1] : List Value).toArray s = true := fun w h => atoms_spec (ws := wsX2_firstReady) B.pre w (List.mem_cons_of_mem _ h)
  have hown : s.vm.findClass RX2 = some m.cls := findClass_of_methodNamed B.named
  have hlocks := B.notSynchronized
  subst hsz
  have hD := hD0.self (sz := s.heap.size)
  generalize hAe : va_A (WDay z a1 m1) s.heap.size = A at hD hT ⊢
  have hA : ∀ q : Nat, s.heap.size ≤ q → A q := fun q h => by rw [← hAe]; exact Or.inr h
  have hS : va_S A s.heap s.heap [] := va_S.rf
  have hl := lv_entry ([.ref (a1 0), .int p1] : List Value) (n := 3) (Nat.le_of_ble_eq_true rfl)
  rw [lg_entry_eq]
  generalize (lg_sl ([.ref (a1 0), .int p1] : List Value) ++ List.replicate (3 - (lg_sl ([.ref (a1 0), .int p1] : List Value)).length) Slot.unset).toArray = ls at hl ⊢
  have hl : lv_has ls 3 [(0, .ref (a1 0)), (1, .int p1)] := hl
  unfold pX2_firstReady at hf
  refine lv_iconst (v := 0) hx hb dX2_firstReady_0 (by decide) ?_
  refine lv_istore_n (lv' := [(2, .int 0), (0, .ref (a1 0)), (1, .int p1)]) hx hb dX2_firstReady_1 rfl hl (by decide) rfl (fun ls hl => ?_)
  obtain ⟨F2, eF2, hf⟩ := zl1_use hf
  have L2_F2 : ∀ (n : Nat) (x1 : Int32) (H : Heap) (locs : List Loc), va_P D vwCl (WDay z a1 m1) H → va_D A (WDay z a1 m1) → va_S A s.heap H locs → ∀ (ls : Array Slot), lv_has ls 3 [(0, .ref (a1 0)), (1, .int p1), (2, .int x1)] → zl1 F2 n x1 = some rr → GQ p l e (headSpec wsX2_firstReady ({ frames := 1, cells := 0, slots := 0, locals := 22 } : Room)).room s m ([.ref (a1 0), .int p1] : List Value).toArray below meth c A D z (rr.map fun i => a1 (3 + i)) (WDay z a1 m1) H locs (F0 m 2 ls []) := by
    intro n
    induction n with
    | zero =>
      intro x1 H locs hP hD hS ls hl hf
      exact no_none hf
    | succ n ih4 =>
      intro x1 H locs hP hD hS ls hl hf
      have hf := zl1_s eF2 hf
      refine lv_iload_n hx hb dX2_firstReady_2 rfl (lv_at hl 2 rfl) ?_
      refine lv_aload_n hx hb dX2_firstReady_3 rfl (lv_at hl 0 rfl) ?_
      obtain ⟨r5, q6, hf⟩ := bd_use hf
      have hfo : Foc (WDay z a1 m1) (WDay z a1 m1) (WDay z a1 m1) (WDay z a1 m1) := foc_all
      refine z_goI (ws1 := (WDay z a1 m1)) (va_runV (As := []) (rest := [.int x1]) ⟨hx, hb, hml, hown, hts⟩ (tX2_kettlesInUse l D z tt a1 m1  fu r5 q6 _) (cwV 0 hts (gV4 aw347 aw348 aw349 aw46 aw350) rfl rfl rfl (by decide +kernel) ⟨Nat.le_of_ble_eq_true rfl, Nat.le_of_ble_eq_true rfl⟩) (z_preV hK hP hD hS hA hT hN hfo (va_recv hK hP (ci := 2) (q0 := 0) rfl rfl)) rfl rfl hl.1 rfl (lv_room (Nat.le_of_ble_eq_true rfl)) dX2_firstReady_4 ⟨Nat.zero_le _, Nat.zero_le _⟩) hP hD hS hA hfo (fun H locs hP hD hS => ?_)
      refine lv_icmp_ge (tgt := 40) hx hb dX2_firstReady_7 (by decide) (fun c7 => ?_) (fun c7 => ?_)
      · have hf := if_t c7 hf
        refine lv_null hx hb dX2_firstReady_40 ?_
        obtain rfl := so1 hf
        exact ret_q hx hb hr (Or.inl ⟨_, rfl⟩) hlocks hK rfl hP hD hS dX2_firstReady_41
      · have hf := if_f c7 hf
        refine lv_aload_n hx hb dX2_firstReady_10 rfl (lv_at hl 0 rfl) ?_
        refine va_get (D := D) (ci := 2) (v := .ref (a1 14)) (C := RX2) (T := TX2) (N := 8) hx hb hts iX2 hown hK hP 0 rfl rfl 2 (by decide) (hts _ aw159) (fun _ h9 => h9) rfl dX2_firstReady_11 ?_
        refine lv_iload_n hx hb dX2_firstReady_14 rfl (lv_at hl 2 rfl) ?_
        obtain ⟨h8, hf⟩ := ck_use hf
        refine z_ald hx hb hK hP 14 2 (C := "FilledForOne$Kettle") (g := (fun j => a1 (3 + j))) rfl rfl h8 dX2_firstReady_15 ?_
        refine lv_aload_n hx hb dX2_firstReady_16 rfl (lv_at hl 0 rfl) ?_
        refine va_get (D := D) (ci := 2) (v := .int (m1 0 6)) (C := RX2) (T := TX2) (N := 8) hx hb hts iX2 hown hK hP 0 rfl rfl 6 (by decide) (hts _ aw170) (fun _ h9 => h9) rfl dX2_firstReady_17 ?_
        refine lv_iload_n hx hb dX2_firstReady_20 rfl (lv_at hl 1 rfl) ?_
        obtain ⟨r9, q10, hf⟩ := bd_use hf
        have hfo : Foc (WDay z a1 m1) (WKet (a1 (3 + x1.toNatClampNeg)) (m1 (3 + x1.toNatClampNeg))) (WDay z a1 m1) (WKet (a1 (3 + x1.toNatClampNeg)) (m1 (3 + x1.toNatClampNeg))) := (foc_els (WDay_k z a1 m1 (vp_lt h8)))
        refine z_goI (ws1 := (WDay z a1 m1)) (va_runV (As := [.int (m1 0 6), .int p1]) (rest := []) ⟨hx, hb, hml, hown, hts⟩ (tX3_isReady l D z tt (a1 (3 + x1.toNatClampNeg)) (m1 (3 + x1.toNatClampNeg)) (m1 0 6) p1 fu r9 q10 _) (cwV 2 hts (gV4 aw467 aw468 aw469 aw48 aw470) rfl rfl rfl (by decide +kernel) ⟨Nat.le_of_ble_eq_true rfl, Nat.le_of_ble_eq_true rfl⟩) (z_preV hK hP hD hS hA hT hN hfo (va_recv hK hP (ci := 3) (q0 := (3 + x1.toNatClampNeg)) rfl (WDay_k z a1 m1 (vp_lt h8)))) rfl rfl hl.1 rfl (lv_room (Nat.le_of_ble_eq_true rfl)) dX2_firstReady_21 ⟨Nat.zero_le _, Nat.zero_le _⟩) hP hD hS hA hfo (fun H locs hP hD hS => ?_)
        refine lv_if_eq (tgt := 34) hx hb dX2_firstReady_24 (by decide) (fun c11 => ?_) (fun c11 => ?_)
        · have hf := if_t c11 hf
          obtain ⟨x12, ex12⟩ : ∃ y : Int32, y = x1 + 1 := ⟨_, rfl⟩
          have hf := lt_use ex12 hf
          refine lv_iinc (v := x12) (lv' := [(2, .int x12), (0, .ref (a1 0)), (1, .int p1)]) hx hb dX2_firstReady_34 hl (k := 2) rfl (by rw [ex12]; rfl) (by decide) rfl (fun ls hl => ?_)
          refine lv_goto (tgt := 2) hx hb dX2_firstReady_37 (by decide) ?_
          exact ih4 _ _ _ hP hD hS _ (lv_sub hl [1, 2, 0] rfl) hf
        · have hf := if_f c11 hf
          refine lv_aload_n hx hb dX2_firstReady_27 rfl (lv_at hl 0 rfl) ?_
          refine va_get (D := D) (ci := 2) (v := .ref (a1 14)) (C := RX2) (T := TX2) (N := 8) hx hb hts iX2 hown hK hP 0 rfl rfl 2 (by decide) (hts _ aw159) (fun _ h9 => h9) rfl dX2_firstReady_28 ?_
          refine lv_iload_n hx hb dX2_firstReady_31 rfl (lv_at hl 2 rfl) ?_
          obtain ⟨h13, hf⟩ := ck_use hf
          refine z_ald hx hb hK hP 14 2 (C := "FilledForOne$Kettle") (g := (fun j => a1 (3 + j))) rfl rfl h13 dX2_firstReady_32 ?_
          obtain rfl := so1 hf
          exact ret_q hx hb hr (Or.inl ⟨_, rfl⟩) hlocks hK rfl hP hD hS dX2_firstReady_33
  exact L2_F2 fu _ _ _ hP hD hS _ (lv_sub hl [1, 2, 0] rfl) hf
def pX2_serve (fu : Nat) (m1 : Mem) (p1 : Int32) : Option (Int32 × Mem) :=
  ck p1 8 <|
  bd (pX2_firstReady fu m1 (m1 (5 + p1.toNatClampNeg) 3)) fun r2 =>
  oc r2 (
    some (0, m1)) fun i4 =>
  ckk i4 2 <|
    lt' (up2 m1 (3 + i4) 0 ((m1 (3 + i4) 0) - (m1 (5 + p1.toNatClampNeg) 3))) fun y7 =>
    lt' (up2 y7 (5 + p1.toNatClampNeg) 5 2) fun y8 =>
    lt' (up2 y8 (5 + p1.toNatClampNeg) 6 (y8 0 6)) fun y9 =>
    some (1, y9)
set_option maxHeartbeats 4000000 in
set_option maxRecDepth 100000 in
theorem tX2_serve (l : Launch) (D : va_G) (z tt : Nat → Nat) (a1 : Nat → Nat) (m1 : Mem) (p1 : Int32) (fu : Nat) (rr : Int32) (m1' : Mem) (hf : pX2_serve fu m1 p1 = some (rr, m1')) : MetI l yX2_serve wsX2_serve ({ frames := 2, cells := 0, slots := 0, locals := 44 } : Room) D z tt ([.ref (a1 0), .int p1] : List Value) (WDay z a1 m1) rr (WDay z a1 m1') := by
  intro sz
  refine Met.ofW (cc := cX2_serve) (maxL := 4) (ret := (some .boolean)) (by decide) rfl ?_
  intro p e s m args below meth c s₁ B hml hv
  obtain ⟨rfl, hsz, hP, hK, hD0, hT, hN⟩ := hv
  have hx := B.exec
  have hb := B.bytes
  have hr := B.returns
  have hts : ∀ w ∈ wsA, w.before ([.ref (a1 0), .int p1] : List Value).toArray s = true := fun w h => atoms_spec (ws := wsX2_serve) B.pre w (List.mem_cons_of_mem _ h)
  have hown : s.vm.findClass RX2 = some m.cls := findClass_of_methodNamed B.named
  have hlocks := B.notSynchronized
  subst hsz
  have hD := hD0.self (sz := s.heap.size)
  generalize hAe : va_A (WDay z a1 m1) s.heap.size = A at hD hT ⊢
  have hA : ∀ q : Nat, s.heap.size ≤ q → A q := fun q h => by rw [← hAe]; exact Or.inr h
  have hS : va_S A s.heap s.heap [] := va_S.rf
  have hl := lv_entry ([.ref (a1 0), .int p1] : List Value) (n := 4) (Nat.le_of_ble_eq_true rfl)
  rw [lg_entry_eq]
  generalize (lg_sl ([.ref (a1 0), .int p1] : List Value) ++ List.replicate (4 - (lg_sl ([.ref (a1 0), .int p1] : List Value)).length) Slot.unset).toArray = ls at hl ⊢
  have hl : lv_has ls 4 [(0, .ref (a1 0)), (1, .int p1)] := hl
  unfold pX2_serve at hf
  refine lv_aload_n hx hb dX2_serve_0 rfl (lv_at hl 0 rfl) ?_
  refine va_get (D := D) (ci := 2) (v := .ref (a1 13)) (C := RX2) (T := TX2) (N := 8) hx hb hts iX2 hown hK hP 0 rfl rfl 1 (by decide) (hts _ aw154) (fun _ h9 => h9) rfl dX2_serve_1 ?_
  refine lv_iload_n hx hb dX2_serve_4 rfl (lv_at hl 1 rfl) ?_
  obtain ⟨h1, hf⟩ := ck_use hf
  refine z_ald hx hb hK hP 13 1 (C := "FilledForOne$Comer") (g := (fun j => a1 (5 + j))) rfl rfl h1 dX2_serve_5 ?_
  refine lv_astore_n (lv' := [(2, .ref (a1 (5 + p1.toNatClampNeg))), (0, .ref (a1 0)), (1, .int p1)]) hx hb dX2_serve_6 rfl hl (by decide) rfl (fun ls hl => ?_)
  refine lv_aload_n hx hb dX2_serve_7 rfl (lv_at hl 1 rfl) ?_
  refine lv_aload_n hx hb dX2_serve_8 rfl (lv_at hl 0 rfl) ?_
  refine va_get (D := D) (ci := 1) (v := .int (m1 (5 + p1.toNatClampNeg) 3)) (C := RX1) (T := TX1) (N := 7) hx hb hts iX1 hown hK hP (5 + p1.toNatClampNeg) (WDay_c z a1 m1 (vp_lt h1)) rfl 3 (by decide) (hts _ aw99) (fun _ h9 => h9) rfl dX2_serve_9 ?_
  obtain ⟨r2, q3, hf⟩ := bd_use hf
  have hfo : Foc (WDay z a1 m1) (WDay z a1 m1) (WDay z a1 m1) (WDay z a1 m1) := foc_all
  refine z_goQ (ws1 := (WDay z a1 m1)) (va_runV (As := [.int (m1 (5 + p1.toNatClampNeg) 3)]) (rest := []) ⟨hx, hb, hml, hown, hts⟩ (tX2_firstReady l D z tt a1 m1 (m1 (5 + p1.toNatClampNeg) 3) fu r2 q3 _) (cwV 1 hts (gV4 aw463 aw464 aw465 aw46 aw466) rfl rfl rfl (by decide +kernel) ⟨Nat.le_of_ble_eq_true rfl, Nat.le_of_ble_eq_true rfl⟩) (z_preV hK hP hD hS hA hT hN hfo (va_recv hK hP (ci := 2) (q0 := 0) rfl rfl)) rfl rfl hl.1 rfl (lv_room (Nat.le_of_ble_eq_true rfl)) dX2_serve_12 ⟨Nat.zero_le _, Nat.zero_le _⟩) hP hD hS hA hfo (fun H locs hP hD hS => ?_)
  rcases oc_use hf with ⟨e5, hf⟩ | ⟨i4, e5, hf⟩
  · subst e5
    refine lv_astore_nN (lv' := [(3, .null), (2, .ref (a1 (5 + p1.toNatClampNeg))), (0, .ref (a1 0)), (1, .int p1)]) hx hb dX2_serve_15 rfl hl (by decide) rfl (fun ls hl => ?_)
    refine lv_aload_nN hx hb dX2_serve_16 rfl (lv_at hl 0 rfl) ?_
    refine lv_ifnullN (tgt := 46) hx hb dX2_serve_17 (by decide) ?_
    refine lv_aload_nN hx hb dX2_serve_46 rfl (lv_at hl 0 rfl) ?_
    refine lv_ifnullN (tgt := 54) hx hb dX2_serve_47 (by decide) ?_
    refine lv_iconst (v := 0) hx hb dX2_serve_54 (by decide) ?_
    obtain ⟨rfl, rfl⟩ := so2 hf
    exact ret_z hx hb hr hlocks hK hP hD hS (by decide) dX2_serve_55
  · subst e5
    obtain ⟨h6, hf⟩ := ckk_use hf
    refine lv_astore_n (lv' := [(3, .ref (a1 (3 + i4))), (2, .ref (a1 (5 + p1.toNatClampNeg))), (0, .ref (a1 0)), (1, .int p1)]) hx hb dX2_serve_15 rfl hl (by decide) rfl (fun ls hl => ?_)
    refine lv_aload_n hx hb dX2_serve_16 rfl (lv_at hl 0 rfl) ?_
    refine lv_ifnull hx hb dX2_serve_17 ?_
    refine lv_aload_n hx hb dX2_serve_20 rfl (lv_at hl 0 rfl) ?_
    refine lv_dup hx hb dX2_serve_21 rfl ?_
    refine va_get (D := D) (ci := 3) (v := .int (m1 (3 + i4) 0)) (C := RX3) (T := TX3) (N := 5) hx hb hts iX3 hown hK hP (3 + i4) (WDay_k z a1 m1 h6) rfl 0 (by decide) (hts _ aw133) (fun _ h9 => h9) rfl dX2_serve_22 ?_
    refine lv_aload_n hx hb dX2_serve_25 rfl (lv_at hl 1 rfl) ?_
    refine va_get (D := D) (ci := 1) (v := .int (m1 (5 + p1.toNatClampNeg) 3)) (C := RX1) (T := TX1) (N := 7) hx hb hts iX1 hown hK hP (5 + p1.toNatClampNeg) (WDay_c z a1 m1 (vp_lt h1)) rfl 3 (by decide) (hts _ aw99) (fun _ h9 => h9) rfl dX2_serve_26 ?_
    refine lv_isub hx hb dX2_serve_29 ?_
    refine z_put (ci := 3) (v := .int ((m1 (3 + i4) 0) - (m1 (5 + p1.toNatClampNeg) 3))) (ty := .int) (C := RX3) (T := TX3) (N := 5) hx hb hts iX3 tyX3 tyX3_ok nmX3 hown hK hP hD hS (3 + i4) (WDay_k z a1 m1 h6) rfl 0 (by decide) (hts _ aw133) (fun _ h9 => h9) rfl (by decide +kernel) rfl rfl (Nat.le_of_ble_eq_true rfl) dX2_serve_30 (fun (w9 : Mem) => (WDay z a1 w9)) (up2 m1 (3 + i4) 0 ((m1 (3 + i4) 0) - (m1 (5 + p1.toNatClampNeg) 3))) (WDay_sk z a1 m1 (upd (m1 (3 + i4)) 0 ((m1 (3 + i4) 0) - (m1 (5 + p1.toNatClampNeg) 3))) h6) (fun y7 ey7 H locs hP hD hS => ?_)
    have hf := lt_use ey7 hf
    refine lv_aload_n hx hb dX2_serve_33 rfl (lv_at hl 1 rfl) ?_
    refine lv_iconst (v := 2) hx hb dX2_serve_34 (by decide) ?_
    refine z_put (ci := 1) (v := .int 2) (ty := .int) (C := RX1) (T := TX1) (N := 7) hx hb hts iX1 tyX1 tyX1_ok nmX1 hown hK hP hD hS (5 + p1.toNatClampNeg) (WDay_c z a1 y7 (vp_lt h1)) rfl 5 (by decide) (hts _ aw103) (fun _ h9 => h9) rfl (by decide +kernel) rfl rfl (Nat.le_of_ble_eq_true rfl) dX2_serve_35 (fun (w9 : Mem) => (WDay z a1 w9)) (up2 y7 (5 + p1.toNatClampNeg) 5 2) (WDay_sc z a1 y7 (upd (y7 (5 + p1.toNatClampNeg)) 5 2) (vp_lt h1)) (fun y8 ey8 H locs hP hD hS => ?_)
    have hf := lt_use ey8 hf
    refine lv_aload_n hx hb dX2_serve_38 rfl (lv_at hl 1 rfl) ?_
    refine lv_aload_n hx hb dX2_serve_39 rfl (lv_at hl 2 rfl) ?_
    refine va_get (D := D) (ci := 2) (v := .int (y8 0 6)) (C := RX2) (T := TX2) (N := 8) hx hb hts iX2 hown hK hP 0 rfl rfl 6 (by decide) (hts _ aw170) (fun _ h9 => h9) rfl dX2_serve_40 ?_
    refine z_put (ci := 1) (v := .int (y8 0 6)) (ty := .int) (C := RX1) (T := TX1) (N := 7) hx hb hts iX1 tyX1 tyX1_ok nmX1 hown hK hP hD hS (5 + p1.toNatClampNeg) (WDay_c z a1 y8 (vp_lt h1)) rfl 6 (by decide) (hts _ aw107) (fun _ h9 => h9) rfl (by decide +kernel) rfl rfl (Nat.le_of_ble_eq_true rfl) dX2_serve_43 (fun (w9 : Mem) => (WDay z a1 w9)) (up2 y8 (5 + p1.toNatClampNeg) 6 (y8 0 6)) (WDay_sc z a1 y8 (upd (y8 (5 + p1.toNatClampNeg)) 6 (y8 0 6)) (vp_lt h1)) (fun y9 ey9 H locs hP hD hS => ?_)
    have hf := lt_use ey9 hf
    refine lv_aload_n hx hb dX2_serve_46 rfl (lv_at hl 0 rfl) ?_
    refine lv_ifnull hx hb dX2_serve_47 ?_
    refine lv_iconst (v := 1) hx hb dX2_serve_50 (by decide) ?_
    refine lv_goto (tgt := 55) hx hb dX2_serve_51 (by decide) ?_
    obtain ⟨rfl, rfl⟩ := so2 hf
    exact ret_z hx hb hr hlocks hK hP hD hS (by decide) dX2_serve_55
def pX2_firstFree (fu : Nat) (m1 : Mem) : Option (Option Nat) :=
  zl1 (fun g3 (x1 : Int32) =>
    bd (pX2_kettlesInUse fu m1) fun r5 =>
    if r5 ≤ x1 then
      some none
    else
      ck x1 2 <|
      bd (pX3_isFree fu (m1 (3 + x1.toNatClampNeg)) (m1 0 6)) fun r9 =>
      if r9 = 0 then
        lt' (x1 + 1) fun x12 =>
        g3 x12
      else
        ck x1 2 <|
        some (some (x1.toNatClampNeg))) fu 0
set_option maxHeartbeats 4000000 in
set_option maxRecDepth 100000 in
theorem tX2_firstFree (l : Launch) (D : va_G) (z tt : Nat → Nat) (a1 : Nat → Nat) (m1 : Mem)  (fu : Nat) (rr : Option Nat) (hf : pX2_firstFree fu m1 = some rr) : MetQ l yX2_firstFree wsX2_firstFree ({ frames := 1, cells := 0, slots := 0, locals := 21 } : Room) D z tt ([.ref (a1 0)] : List Value) (WDay z a1 m1) (rr.map fun i => a1 (3 + i)) (WDay z a1 m1) := by
  intro sz
  refine Met.ofW (cc := cX2_firstFree) (maxL := 2) (ret := (some (.object "FilledForOne$Kettle"))) (by decide) rfl ?_
  intro p e s m args below meth c s₁ B hml hv
  obtain ⟨rfl, hsz, hP, hK, hD0, hT, hN⟩ := hv
  have hx := B.exec
  have hb := B.bytes
  have hr := B.returns
  have hts : ∀ w ∈ wsA, w.before ([.ref (a1 0)] : List Value).toArray s = true := fun w h => atoms_spec (ws := wsX2_firstFree) B.pre w (List.mem_cons_of_mem _ h)
  have hown : s.vm.findClass RX2 = some m.cls := findClass_of_methodNamed B.named
  have hlocks := B.notSynchronized
  subst hsz
  have hD := hD0.self (sz := s.heap.size)
  generalize hAe : va_A (WDay z a1 m1) s.heap.size = A at hD hT ⊢
  have hA : ∀ q : Nat, s.heap.size ≤ q → A q := fun q h => by rw [← hAe]; exact Or.inr h
  have hS : va_S A s.heap s.heap [] := va_S.rf
  have hl := lv_entry ([.ref (a1 0)] : List Value) (n := 2) (Nat.le_of_ble_eq_true rfl)
  rw [lg_entry_eq]
  generalize (lg_sl ([.ref (a1 0)] : List Value) ++ List.replicate (2 - (lg_sl ([.ref (a1 0)] : List Value)).length) Slot.unset).toArray = ls at hl ⊢
  have hl : lv_has ls 2 [(0, .ref (a1 0))] := hl
  unfold pX2_firstFree at hf
  refine lv_iconst (v := 0) hx hb dX2_firstFree_0 (by decide) ?_
  refine lv_istore_n (lv' := [(1, .int 0), (0, .ref (a1 0))]) hx hb dX2_firstFree_1 rfl hl (by decide) rfl (fun ls hl => ?_)
  obtain ⟨F2, eF2, hf⟩ := zl1_use hf
  have L2_F2 : ∀ (n : Nat) (x1 : Int32) (H : Heap) (locs : List Loc), va_P D vwCl (WDay z a1 m1) H → va_D A (WDay z a1 m1) → va_S A s.heap H locs → ∀ (ls : Array Slot), lv_has ls 2 [(0, .ref (a1 0)), (1, .int x1)] → zl1 F2 n x1 = some rr → GQ p l e (headSpec wsX2_firstFree ({ frames := 1, cells := 0, slots := 0, locals := 21 } : Room)).room s m ([.ref (a1 0)] : List Value).toArray below meth c A D z (rr.map fun i => a1 (3 + i)) (WDay z a1 m1) H locs (F0 m 2 ls []) := by
    intro n
    induction n with
    | zero =>
      intro x1 H locs hP hD hS ls hl hf
      exact no_none hf
    | succ n ih4 =>
      intro x1 H locs hP hD hS ls hl hf
      have hf := zl1_s eF2 hf
      refine lv_iload_n hx hb dX2_firstFree_2 rfl (lv_at hl 1 rfl) ?_
      refine lv_aload_n hx hb dX2_firstFree_3 rfl (lv_at hl 0 rfl) ?_
      obtain ⟨r5, q6, hf⟩ := bd_use hf
      have hfo : Foc (WDay z a1 m1) (WDay z a1 m1) (WDay z a1 m1) (WDay z a1 m1) := foc_all
      refine z_goI (ws1 := (WDay z a1 m1)) (va_runV (As := []) (rest := [.int x1]) ⟨hx, hb, hml, hown, hts⟩ (tX2_kettlesInUse l D z tt a1 m1  fu r5 q6 _) (cwV 0 hts (gV4 aw347 aw348 aw349 aw46 aw350) rfl rfl rfl (by decide +kernel) ⟨Nat.le_of_ble_eq_true rfl, Nat.le_of_ble_eq_true rfl⟩) (z_preV hK hP hD hS hA hT hN hfo (va_recv hK hP (ci := 2) (q0 := 0) rfl rfl)) rfl rfl hl.1 rfl (lv_room (Nat.le_of_ble_eq_true rfl)) dX2_firstFree_4 ⟨Nat.zero_le _, Nat.zero_le _⟩) hP hD hS hA hfo (fun H locs hP hD hS => ?_)
      refine lv_icmp_ge (tgt := 39) hx hb dX2_firstFree_7 (by decide) (fun c7 => ?_) (fun c7 => ?_)
      · have hf := if_t c7 hf
        refine lv_null hx hb dX2_firstFree_39 ?_
        obtain rfl := so1 hf
        exact ret_q hx hb hr (Or.inl ⟨_, rfl⟩) hlocks hK rfl hP hD hS dX2_firstFree_40
      · have hf := if_f c7 hf
        refine lv_aload_n hx hb dX2_firstFree_10 rfl (lv_at hl 0 rfl) ?_
        refine va_get (D := D) (ci := 2) (v := .ref (a1 14)) (C := RX2) (T := TX2) (N := 8) hx hb hts iX2 hown hK hP 0 rfl rfl 2 (by decide) (hts _ aw159) (fun _ h9 => h9) rfl dX2_firstFree_11 ?_
        refine lv_iload_n hx hb dX2_firstFree_14 rfl (lv_at hl 1 rfl) ?_
        obtain ⟨h8, hf⟩ := ck_use hf
        refine z_ald hx hb hK hP 14 2 (C := "FilledForOne$Kettle") (g := (fun j => a1 (3 + j))) rfl rfl h8 dX2_firstFree_15 ?_
        refine lv_aload_n hx hb dX2_firstFree_16 rfl (lv_at hl 0 rfl) ?_
        refine va_get (D := D) (ci := 2) (v := .int (m1 0 6)) (C := RX2) (T := TX2) (N := 8) hx hb hts iX2 hown hK hP 0 rfl rfl 6 (by decide) (hts _ aw170) (fun _ h9 => h9) rfl dX2_firstFree_17 ?_
        obtain ⟨r9, q10, hf⟩ := bd_use hf
        have hfo : Foc (WDay z a1 m1) (WKet (a1 (3 + x1.toNatClampNeg)) (m1 (3 + x1.toNatClampNeg))) (WDay z a1 m1) (WKet (a1 (3 + x1.toNatClampNeg)) (m1 (3 + x1.toNatClampNeg))) := (foc_els (WDay_k z a1 m1 (vp_lt h8)))
        refine z_goI (ws1 := (WDay z a1 m1)) (va_runV (As := [.int (m1 0 6)]) (rest := []) ⟨hx, hb, hml, hown, hts⟩ (tX3_isFree l D z tt (a1 (3 + x1.toNatClampNeg)) (m1 (3 + x1.toNatClampNeg)) (m1 0 6) fu r9 q10 _) (cwV 1 hts (gV4 aw434 aw435 aw436 aw48 aw437) rfl rfl rfl (by decide +kernel) ⟨Nat.le_of_ble_eq_true rfl, Nat.le_of_ble_eq_true rfl⟩) (z_preV hK hP hD hS hA hT hN hfo (va_recv hK hP (ci := 3) (q0 := (3 + x1.toNatClampNeg)) rfl (WDay_k z a1 m1 (vp_lt h8)))) rfl rfl hl.1 rfl (lv_room (Nat.le_of_ble_eq_true rfl)) dX2_firstFree_20 ⟨Nat.zero_le _, Nat.zero_le _⟩) hP hD hS hA hfo (fun H locs hP hD hS => ?_)
        refine lv_if_eq (tgt := 33) hx hb dX2_firstFree_23 (by decide) (fun c11 => ?_) (fun c11 => ?_)
        · have hf := if_t c11 hf
          obtain ⟨x12, ex12⟩ : ∃ y : Int32, y = x1 + 1 := ⟨_, rfl⟩
          have hf := lt_use ex12 hf
          refine lv_iinc (v := x12) (lv' := [(1, .int x12), (0, .ref (a1 0))]) hx hb dX2_firstFree_33 hl (k := 1) rfl (by rw [ex12]; rfl) (by decide) rfl (fun ls hl => ?_)
          refine lv_goto (tgt := 2) hx hb dX2_firstFree_36 (by decide) ?_
          exact ih4 _ _ _ hP hD hS _ (lv_sub hl [1, 0] rfl) hf
        · have hf := if_f c11 hf
          refine lv_aload_n hx hb dX2_firstFree_26 rfl (lv_at hl 0 rfl) ?_
          refine va_get (D := D) (ci := 2) (v := .ref (a1 14)) (C := RX2) (T := TX2) (N := 8) hx hb hts iX2 hown hK hP 0 rfl rfl 2 (by decide) (hts _ aw159) (fun _ h9 => h9) rfl dX2_firstFree_27 ?_
          refine lv_iload_n hx hb dX2_firstFree_30 rfl (lv_at hl 1 rfl) ?_
          obtain ⟨h13, hf⟩ := ck_use hf
          refine z_ald hx hb hK hP 14 2 (C := "FilledForOne$Kettle") (g := (fun j => a1 (3 + j))) rfl rfl h13 dX2_firstFree_31 ?_
          obtain rfl := so1 hf
          exact ret_q hx hb hr (Or.inl ⟨_, rfl⟩) hlocks hK rfl hP hD hS dX2_firstFree_32
  exact L2_F2 fu _ _ _ hP hD hS _ (lv_sub hl [1, 0] rfl) hf
def pX2_waitsForOwn (fu : Nat) (m1 : Mem) (p1 : Int32) : Option Int32 :=
  zl1 (fun g3 (x1 : Int32) =>
    bd (pX2_kettlesInUse fu m1) fun r5 =>
    if r5 ≤ x1 then
      some 0
    else
      ck x1 2 <|
      if (m1 (3 + x1.toNatClampNeg) 4) = p1 then
        ck x1 2 <|
        bd (pX3_isFree fu (m1 (3 + x1.toNatClampNeg)) (m1 0 6)) fun r12 =>
        if r12 = 0 then
          some 1
        else
          lt' (x1 + 1) fun x15 =>
          g3 x15
      else
        lt' (x1 + 1) fun x10 =>
        g3 x10) fu 0
set_option maxHeartbeats 4000000 in
set_option maxRecDepth 100000 in
theorem tX2_waitsForOwn (l : Launch) (D : va_G) (z tt : Nat → Nat) (a1 : Nat → Nat) (m1 : Mem) (p1 : Int32) (fu : Nat) (rr : Int32) (hf : pX2_waitsForOwn fu m1 p1 = some rr) : MetI l yX2_waitsForOwn wsX2_waitsForOwn ({ frames := 1, cells := 0, slots := 0, locals := 21 } : Room) D z tt ([.ref (a1 0), .int p1] : List Value) (WDay z a1 m1) rr (WDay z a1 m1) := by
  intro sz
  refine Met.ofW (cc := cX2_waitsForOwn) (maxL := 3) (ret := (some .boolean)) (by decide) rfl ?_
  intro p e s m args below meth c s₁ B hml hv
  obtain ⟨rfl, hsz, hP, hK, hD0, hT, hN⟩ := hv
  have hx := B.exec
  have hb := B.bytes
  have hr := B.returns
  have hts : ∀ w ∈ wsA, w.before ([.ref (a1 0), .int p1] : List Value).toArray s = true := fun w h => atoms_spec (ws := wsX2_waitsForOwn) B.pre w (List.mem_cons_of_mem _ h)
  have hown : s.vm.findClass RX2 = some m.cls := findClass_of_methodNamed B.named
  have hlocks := B.notSynchronized
  subst hsz
  have hD := hD0.self (sz := s.heap.size)
  generalize hAe : va_A (WDay z a1 m1) s.heap.size = A at hD hT ⊢
  have hA : ∀ q : Nat, s.heap.size ≤ q → A q := fun q h => by rw [← hAe]; exact Or.inr h
  have hS : va_S A s.heap s.heap [] := va_S.rf
  have hl := lv_entry ([.ref (a1 0), .int p1] : List Value) (n := 3) (Nat.le_of_ble_eq_true rfl)
  rw [lg_entry_eq]
  generalize (lg_sl ([.ref (a1 0), .int p1] : List Value) ++ List.replicate (3 - (lg_sl ([.ref (a1 0), .int p1] : List Value)).length) Slot.unset).toArray = ls at hl ⊢
  have hl : lv_has ls 3 [(0, .ref (a1 0)), (1, .int p1)] := hl
  unfold pX2_waitsForOwn at hf
  refine lv_iconst (v := 0) hx hb dX2_waitsForOwn_0 (by decide) ?_
  refine lv_istore_n (lv' := [(2, .int 0), (0, .ref (a1 0)), (1, .int p1)]) hx hb dX2_waitsForOwn_1 rfl hl (by decide) rfl (fun ls hl => ?_)
  obtain ⟨F2, eF2, hf⟩ := zl1_use hf
  have L2_F2 : ∀ (n : Nat) (x1 : Int32) (H : Heap) (locs : List Loc), va_P D vwCl (WDay z a1 m1) H → va_D A (WDay z a1 m1) → va_S A s.heap H locs → ∀ (ls : Array Slot), lv_has ls 3 [(0, .ref (a1 0)), (1, .int p1), (2, .int x1)] → zl1 F2 n x1 = some rr → GI p l e (headSpec wsX2_waitsForOwn ({ frames := 1, cells := 0, slots := 0, locals := 21 } : Room)).room s m ([.ref (a1 0), .int p1] : List Value).toArray below meth c A D z rr (WDay z a1 m1) H locs (F0 m 2 ls []) := by
    intro n
    induction n with
    | zero =>
      intro x1 H locs hP hD hS ls hl hf
      exact no_none hf
    | succ n ih4 =>
      intro x1 H locs hP hD hS ls hl hf
      have hf := zl1_s eF2 hf
      refine lv_iload_n hx hb dX2_waitsForOwn_2 rfl (lv_at hl 2 rfl) ?_
      refine lv_aload_n hx hb dX2_waitsForOwn_3 rfl (lv_at hl 0 rfl) ?_
      obtain ⟨r5, q6, hf⟩ := bd_use hf
      have hfo : Foc (WDay z a1 m1) (WDay z a1 m1) (WDay z a1 m1) (WDay z a1 m1) := foc_all
      refine z_goI (ws1 := (WDay z a1 m1)) (va_runV (As := []) (rest := [.int x1]) ⟨hx, hb, hml, hown, hts⟩ (tX2_kettlesInUse l D z tt a1 m1  fu r5 q6 _) (cwV 0 hts (gV4 aw347 aw348 aw349 aw46 aw350) rfl rfl rfl (by decide +kernel) ⟨Nat.le_of_ble_eq_true rfl, Nat.le_of_ble_eq_true rfl⟩) (z_preV hK hP hD hS hA hT hN hfo (va_recv hK hP (ci := 2) (q0 := 0) rfl rfl)) rfl rfl hl.1 rfl (lv_room (Nat.le_of_ble_eq_true rfl)) dX2_waitsForOwn_4 ⟨Nat.zero_le _, Nat.zero_le _⟩) hP hD hS hA hfo (fun H locs hP hD hS => ?_)
      refine lv_icmp_ge (tgt := 47) hx hb dX2_waitsForOwn_7 (by decide) (fun c7 => ?_) (fun c7 => ?_)
      · have hf := if_t c7 hf
        refine lv_iconst (v := 0) hx hb dX2_waitsForOwn_47 (by decide) ?_
        obtain rfl := so1 hf
        exact ret_z hx hb hr hlocks hK hP hD hS (by decide) dX2_waitsForOwn_48
      · have hf := if_f c7 hf
        refine lv_aload_n hx hb dX2_waitsForOwn_10 rfl (lv_at hl 0 rfl) ?_
        refine va_get (D := D) (ci := 2) (v := .ref (a1 14)) (C := RX2) (T := TX2) (N := 8) hx hb hts iX2 hown hK hP 0 rfl rfl 2 (by decide) (hts _ aw159) (fun _ h9 => h9) rfl dX2_waitsForOwn_11 ?_
        refine lv_iload_n hx hb dX2_waitsForOwn_14 rfl (lv_at hl 2 rfl) ?_
        obtain ⟨h8, hf⟩ := ck_use hf
        refine z_ald hx hb hK hP 14 2 (C := "FilledForOne$Kettle") (g := (fun j => a1 (3 + j))) rfl rfl h8 dX2_waitsForOwn_15 ?_
        refine va_get (D := D) (ci := 3) (v := .int (m1 (3 + x1.toNatClampNeg) 4)) (C := RX3) (T := TX3) (N := 5) hx hb hts iX3 hown hK hP (3 + x1.toNatClampNeg) (WDay_k z a1 m1 (vp_lt h8)) rfl 4 (by decide) (hts _ aw138) (fun _ h9 => h9) rfl dX2_waitsForOwn_16 ?_
        refine lv_iload_n hx hb dX2_waitsForOwn_19 rfl (lv_at hl 1 rfl) ?_
        refine lv_icmp_ne (tgt := 41) hx hb dX2_waitsForOwn_20 (by decide) (fun c9 => ?_) (fun c9 => ?_)
        · have hf := if_f c9 hf
          obtain ⟨x10, ex10⟩ : ∃ y : Int32, y = x1 + 1 := ⟨_, rfl⟩
          have hf := lt_use ex10 hf
          refine lv_iinc (v := x10) (lv' := [(2, .int x10), (0, .ref (a1 0)), (1, .int p1)]) hx hb dX2_waitsForOwn_41 hl (k := 2) rfl (by rw [ex10]; rfl) (by decide) rfl (fun ls hl => ?_)
          refine lv_goto (tgt := 2) hx hb dX2_waitsForOwn_44 (by decide) ?_
          exact ih4 _ _ _ hP hD hS _ (lv_sub hl [1, 2, 0] rfl) hf
        · have hf := if_t c9 hf
          refine lv_aload_n hx hb dX2_waitsForOwn_23 rfl (lv_at hl 0 rfl) ?_
          refine va_get (D := D) (ci := 2) (v := .ref (a1 14)) (C := RX2) (T := TX2) (N := 8) hx hb hts iX2 hown hK hP 0 rfl rfl 2 (by decide) (hts _ aw159) (fun _ h9 => h9) rfl dX2_waitsForOwn_24 ?_
          refine lv_iload_n hx hb dX2_waitsForOwn_27 rfl (lv_at hl 2 rfl) ?_
          obtain ⟨h11, hf⟩ := ck_use hf
          refine z_ald hx hb hK hP 14 2 (C := "FilledForOne$Kettle") (g := (fun j => a1 (3 + j))) rfl rfl h11 dX2_waitsForOwn_28 ?_
          refine lv_aload_n hx hb dX2_waitsForOwn_29 rfl (lv_at hl 0 rfl) ?_
          refine va_get (D := D) (ci := 2) (v := .int (m1 0 6)) (C := RX2) (T := TX2) (N := 8) hx hb hts iX2 hown hK hP 0 rfl rfl 6 (by decide) (hts _ aw170) (fun _ h9 => h9) rfl dX2_waitsForOwn_30 ?_
          obtain ⟨r12, q13, hf⟩ := bd_use hf
          have hfo : Foc (WDay z a1 m1) (WKet (a1 (3 + x1.toNatClampNeg)) (m1 (3 + x1.toNatClampNeg))) (WDay z a1 m1) (WKet (a1 (3 + x1.toNatClampNeg)) (m1 (3 + x1.toNatClampNeg))) := (foc_els (WDay_k z a1 m1 (vp_lt h11)))
          refine z_goI (ws1 := (WDay z a1 m1)) (va_runV (As := [.int (m1 0 6)]) (rest := []) ⟨hx, hb, hml, hown, hts⟩ (tX3_isFree l D z tt (a1 (3 + x1.toNatClampNeg)) (m1 (3 + x1.toNatClampNeg)) (m1 0 6) fu r12 q13 _) (cwV 1 hts (gV4 aw434 aw435 aw436 aw48 aw437) rfl rfl rfl (by decide +kernel) ⟨Nat.le_of_ble_eq_true rfl, Nat.le_of_ble_eq_true rfl⟩) (z_preV hK hP hD hS hA hT hN hfo (va_recv hK hP (ci := 3) (q0 := (3 + x1.toNatClampNeg)) rfl (WDay_k z a1 m1 (vp_lt h11)))) rfl rfl hl.1 rfl (lv_room (Nat.le_of_ble_eq_true rfl)) dX2_waitsForOwn_33 ⟨Nat.zero_le _, Nat.zero_le _⟩) hP hD hS hA hfo (fun H locs hP hD hS => ?_)
          refine lv_if_ne (tgt := 41) hx hb dX2_waitsForOwn_36 (by decide) (fun c14 => ?_) (fun c14 => ?_)
          · have hf := if_f c14 hf
            obtain ⟨x15, ex15⟩ : ∃ y : Int32, y = x1 + 1 := ⟨_, rfl⟩
            have hf := lt_use ex15 hf
            refine lv_iinc (v := x15) (lv' := [(2, .int x15), (0, .ref (a1 0)), (1, .int p1)]) hx hb dX2_waitsForOwn_41 hl (k := 2) rfl (by rw [ex15]; rfl) (by decide) rfl (fun ls hl => ?_)
            refine lv_goto (tgt := 2) hx hb dX2_waitsForOwn_44 (by decide) ?_
            exact ih4 _ _ _ hP hD hS _ (lv_sub hl [1, 2, 0] rfl) hf
          · have hf := if_t c14 hf
            refine lv_iconst (v := 1) hx hb dX2_waitsForOwn_39 (by decide) ?_
            obtain rfl := so1 hf
            exact ret_z hx hb hr hlocks hK hP hD hS (by decide) dX2_waitsForOwn_40
  exact L2_F2 fu _ _ _ hP hD hS _ (lv_sub hl [1, 2, 0] rfl) hf
def pX2_wantsInLine (fu : Nat) (m1 : Mem) : Option Int32 :=
  zl2 (fun g4 (x1 : Int32) (x2 : Int32) =>
    if (m1 0 4) ≤ x2 then
      some x1
    else
      ck x2 8 <|
      if (m1 (5 + x2.toNatClampNeg) 5) = 1 then
        ck x2 8 <|
        lt' ((x1 + (m1 (5 + x2.toNatClampNeg) 3)) : Int32) fun x11 =>
        lt' (x2 + 1) fun x12 =>
        g4 x11 x12
      else
        lt' (x2 + 1) fun x9 =>
        g4 x1 x9) fu 0 0
set_option maxHeartbeats 4000000 in
set_option maxRecDepth 100000 in
theorem tX2_wantsInLine (l : Launch) (D : va_G) (z tt : Nat → Nat) (a1 : Nat → Nat) (m1 : Mem)  (fu : Nat) (rr : Int32) (hf : pX2_wantsInLine fu m1 = some rr) : MetI l yX2_wantsInLine wsX2_wantsInLine ({ frames := 0, cells := 0, slots := 0, locals := 0 } : Room) D z tt ([.ref (a1 0)] : List Value) (WDay z a1 m1) rr (WDay z a1 m1) := by
  intro sz
  refine Met.ofW (cc := cX2_wantsInLine) (maxL := 3) (ret := (some .int)) (by decide) rfl ?_
  intro p e s m args below meth c s₁ B hml hv
  obtain ⟨rfl, hsz, hP, hK, hD0, hT, hN⟩ := hv
  have hx := B.exec
  have hb := B.bytes
  have hr := B.returns
  have hts : ∀ w ∈ wsA, w.before ([.ref (a1 0)] : List Value).toArray s = true := fun w h => atoms_spec (ws := wsX2_wantsInLine) B.pre w (List.mem_cons_of_mem _ h)
  have hown : s.vm.findClass RX2 = some m.cls := findClass_of_methodNamed B.named
  have hlocks := B.notSynchronized
  subst hsz
  have hD := hD0.self (sz := s.heap.size)
  generalize hAe : va_A (WDay z a1 m1) s.heap.size = A at hD hT ⊢
  have hA : ∀ q : Nat, s.heap.size ≤ q → A q := fun q h => by rw [← hAe]; exact Or.inr h
  have hS : va_S A s.heap s.heap [] := va_S.rf
  have hl := lv_entry ([.ref (a1 0)] : List Value) (n := 3) (Nat.le_of_ble_eq_true rfl)
  rw [lg_entry_eq]
  generalize (lg_sl ([.ref (a1 0)] : List Value) ++ List.replicate (3 - (lg_sl ([.ref (a1 0)] : List Value)).length) Slot.unset).toArray = ls at hl ⊢
  have hl : lv_has ls 3 [(0, .ref (a1 0))] := hl
  unfold pX2_wantsInLine at hf
  refine lv_iconst (v := 0) hx hb dX2_wantsInLine_0 (by decide) ?_
  refine lv_istore_n (lv' := [(1, .int 0), (0, .ref (a1 0))]) hx hb dX2_wantsInLine_1 rfl hl (by decide) rfl (fun ls hl => ?_)
  refine lv_iconst (v := 0) hx hb dX2_wantsInLine_2 (by decide) ?_
  refine lv_istore_n (lv' := [(2, .int 0), (1, .int 0), (0, .ref (a1 0))]) hx hb dX2_wantsInLine_3 rfl hl (by decide) rfl (fun ls hl => ?_)
  obtain ⟨F3, eF3, hf⟩ := zl2_use hf
  have L4_F3 : ∀ (n : Nat) (x1 : Int32) (x2 : Int32) (H : Heap) (locs : List Loc), va_P D vwCl (WDay z a1 m1) H → va_D A (WDay z a1 m1) → va_S A s.heap H locs → ∀ (ls : Array Slot), lv_has ls 3 [(0, .ref (a1 0)), (1, .int x1), (2, .int x2)] → zl2 F3 n x1 x2 = some rr → GI p l e (headSpec wsX2_wantsInLine ({ frames := 0, cells := 0, slots := 0, locals := 0 } : Room)).room s m ([.ref (a1 0)] : List Value).toArray below meth c A D z rr (WDay z a1 m1) H locs (F0 m 4 ls []) := by
    intro n
    induction n with
    | zero =>
      intro x1 x2 H locs hP hD hS ls hl hf
      exact no_none hf
    | succ n ih5 =>
      intro x1 x2 H locs hP hD hS ls hl hf
      have hf := zl2_s eF3 hf
      refine lv_iload_n hx hb dX2_wantsInLine_4 rfl (lv_at hl 2 rfl) ?_
      refine lv_aload_n hx hb dX2_wantsInLine_5 rfl (lv_at hl 0 rfl) ?_
      refine va_get (D := D) (ci := 2) (v := .int (m1 0 4)) (C := RX2) (T := TX2) (N := 8) hx hb hts iX2 hown hK hP 0 rfl rfl 4 (by decide) (hts _ aw165) (fun _ h9 => h9) rfl dX2_wantsInLine_6 ?_
      refine lv_icmp_ge (tgt := 43) hx hb dX2_wantsInLine_9 (by decide) (fun c6 => ?_) (fun c6 => ?_)
      · have hf := if_t c6 hf
        refine lv_iload_n hx hb dX2_wantsInLine_43 rfl (lv_at hl 1 rfl) ?_
        obtain rfl := so1 hf
        exact ret_i hx hb hr hlocks hK hP hD hS dX2_wantsInLine_44
      · have hf := if_f c6 hf
        refine lv_aload_n hx hb dX2_wantsInLine_12 rfl (lv_at hl 0 rfl) ?_
        refine va_get (D := D) (ci := 2) (v := .ref (a1 13)) (C := RX2) (T := TX2) (N := 8) hx hb hts iX2 hown hK hP 0 rfl rfl 1 (by decide) (hts _ aw154) (fun _ h9 => h9) rfl dX2_wantsInLine_13 ?_
        refine lv_iload_n hx hb dX2_wantsInLine_16 rfl (lv_at hl 2 rfl) ?_
        obtain ⟨h7, hf⟩ := ck_use hf
        refine z_ald hx hb hK hP 13 1 (C := "FilledForOne$Comer") (g := (fun j => a1 (5 + j))) rfl rfl h7 dX2_wantsInLine_17 ?_
        refine va_get (D := D) (ci := 1) (v := .int (m1 (5 + x2.toNatClampNeg) 5)) (C := RX1) (T := TX1) (N := 7) hx hb hts iX1 hown hK hP (5 + x2.toNatClampNeg) (WDay_c z a1 m1 (vp_lt h7)) rfl 5 (by decide) (hts _ aw103) (fun _ h9 => h9) rfl dX2_wantsInLine_18 ?_
        refine lv_iconst (v := 1) hx hb dX2_wantsInLine_21 (by decide) ?_
        refine lv_icmp_ne (tgt := 37) hx hb dX2_wantsInLine_22 (by decide) (fun c8 => ?_) (fun c8 => ?_)
        · have hf := if_f c8 hf
          obtain ⟨x9, ex9⟩ : ∃ y : Int32, y = x2 + 1 := ⟨_, rfl⟩
          have hf := lt_use ex9 hf
          refine lv_iinc (v := x9) (lv' := [(2, .int x9), (0, .ref (a1 0)), (1, .int x1)]) hx hb dX2_wantsInLine_37 hl (k := 2) rfl (by rw [ex9]; rfl) (by decide) rfl (fun ls hl => ?_)
          refine lv_goto (tgt := 4) hx hb dX2_wantsInLine_40 (by decide) ?_
          exact ih5 _ _ _ _ hP hD hS _ (lv_sub hl [1, 2, 0] rfl) hf
        · have hf := if_t c8 hf
          refine lv_iload_n hx hb dX2_wantsInLine_25 rfl (lv_at hl 1 rfl) ?_
          refine lv_aload_n hx hb dX2_wantsInLine_26 rfl (lv_at hl 0 rfl) ?_
          refine va_get (D := D) (ci := 2) (v := .ref (a1 13)) (C := RX2) (T := TX2) (N := 8) hx hb hts iX2 hown hK hP 0 rfl rfl 1 (by decide) (hts _ aw154) (fun _ h9 => h9) rfl dX2_wantsInLine_27 ?_
          refine lv_iload_n hx hb dX2_wantsInLine_30 rfl (lv_at hl 2 rfl) ?_
          obtain ⟨h10, hf⟩ := ck_use hf
          refine z_ald hx hb hK hP 13 1 (C := "FilledForOne$Comer") (g := (fun j => a1 (5 + j))) rfl rfl h10 dX2_wantsInLine_31 ?_
          refine va_get (D := D) (ci := 1) (v := .int (m1 (5 + x2.toNatClampNeg) 3)) (C := RX1) (T := TX1) (N := 7) hx hb hts iX1 hown hK hP (5 + x2.toNatClampNeg) (WDay_c z a1 m1 (vp_lt h10)) rfl 3 (by decide) (hts _ aw99) (fun _ h9 => h9) rfl dX2_wantsInLine_32 ?_
          refine lv_iadd hx hb dX2_wantsInLine_35 ?_
          refine lv_topi (fun x11 ex11 => ?_)
          have hf := lt_use ex11 hf
          refine lv_istore_n (lv' := [(1, .int x11), (0, .ref (a1 0)), (2, .int x2)]) hx hb dX2_wantsInLine_36 rfl hl (by decide) rfl (fun ls hl => ?_)
          obtain ⟨x12, ex12⟩ : ∃ y : Int32, y = x2 + 1 := ⟨_, rfl⟩
          have hf := lt_use ex12 hf
          refine lv_iinc (v := x12) (lv' := [(2, .int x12), (1, .int x11), (0, .ref (a1 0))]) hx hb dX2_wantsInLine_37 hl (k := 2) rfl (by rw [ex12]; rfl) (by decide) rfl (fun ls hl => ?_)
          refine lv_goto (tgt := 4) hx hb dX2_wantsInLine_40 (by decide) ?_
          exact ih5 _ _ _ _ hP hD hS _ (lv_sub hl [2, 1, 0] rfl) hf
  exact L4_F3 fu _ _ _ _ hP hD hS _ (lv_sub hl [2, 1, 0] rfl) hf
def pX2_wantsToCome (fu : Nat) (m1 : Mem) (p1 : Int32) : Option Int32 :=
  zl2 (fun g4 (x1 : Int32) (x2 : Int32) =>
    if (m1 0 4) ≤ x2 then
      some x1
    else
      ck x2 8 <|
      if (m1 (5 + x2.toNatClampNeg) 5) = 0 then
        ck x2 8 <|
        if p1 < (m1 (5 + x2.toNatClampNeg) 2) then
          lt' (x2 + 1) fun x12 =>
          g4 x1 x12
        else
          ck x2 8 <|
          lt' ((x1 + (m1 (5 + x2.toNatClampNeg) 3)) : Int32) fun x14 =>
          lt' (x2 + 1) fun x15 =>
          g4 x14 x15
      else
        lt' (x2 + 1) fun x9 =>
        g4 x1 x9) fu 0 0
set_option maxHeartbeats 4000000 in
set_option maxRecDepth 100000 in
theorem tX2_wantsToCome (l : Launch) (D : va_G) (z tt : Nat → Nat) (a1 : Nat → Nat) (m1 : Mem) (p1 : Int32) (fu : Nat) (rr : Int32) (hf : pX2_wantsToCome fu m1 p1 = some rr) : MetI l yX2_wantsToCome wsX2_wantsToCome ({ frames := 0, cells := 0, slots := 0, locals := 0 } : Room) D z tt ([.ref (a1 0), .int p1] : List Value) (WDay z a1 m1) rr (WDay z a1 m1) := by
  intro sz
  refine Met.ofW (cc := cX2_wantsToCome) (maxL := 4) (ret := (some .int)) (by decide) rfl ?_
  intro p e s m args below meth c s₁ B hml hv
  obtain ⟨rfl, hsz, hP, hK, hD0, hT, hN⟩ := hv
  have hx := B.exec
  have hb := B.bytes
  have hr := B.returns
  have hts : ∀ w ∈ wsA, w.before ([.ref (a1 0), .int p1] : List Value).toArray s = true := fun w h => atoms_spec (ws := wsX2_wantsToCome) B.pre w (List.mem_cons_of_mem _ h)
  have hown : s.vm.findClass RX2 = some m.cls := findClass_of_methodNamed B.named
  have hlocks := B.notSynchronized
  subst hsz
  have hD := hD0.self (sz := s.heap.size)
  generalize hAe : va_A (WDay z a1 m1) s.heap.size = A at hD hT ⊢
  have hA : ∀ q : Nat, s.heap.size ≤ q → A q := fun q h => by rw [← hAe]; exact Or.inr h
  have hS : va_S A s.heap s.heap [] := va_S.rf
  have hl := lv_entry ([.ref (a1 0), .int p1] : List Value) (n := 4) (Nat.le_of_ble_eq_true rfl)
  rw [lg_entry_eq]
  generalize (lg_sl ([.ref (a1 0), .int p1] : List Value) ++ List.replicate (4 - (lg_sl ([.ref (a1 0), .int p1] : List Value)).length) Slot.unset).toArray = ls at hl ⊢
  have hl : lv_has ls 4 [(0, .ref (a1 0)), (1, .int p1)] := hl
  unfold pX2_wantsToCome at hf
  refine lv_iconst (v := 0) hx hb dX2_wantsToCome_0 (by decide) ?_
  refine lv_istore_n (lv' := [(2, .int 0), (0, .ref (a1 0)), (1, .int p1)]) hx hb dX2_wantsToCome_1 rfl hl (by decide) rfl (fun ls hl => ?_)
  refine lv_iconst (v := 0) hx hb dX2_wantsToCome_2 (by decide) ?_
  refine lv_istore_n (lv' := [(3, .int 0), (2, .int 0), (0, .ref (a1 0)), (1, .int p1)]) hx hb dX2_wantsToCome_3 rfl hl (by decide) rfl (fun ls hl => ?_)
  obtain ⟨F3, eF3, hf⟩ := zl2_use hf
  have L4_F3 : ∀ (n : Nat) (x1 : Int32) (x2 : Int32) (H : Heap) (locs : List Loc), va_P D vwCl (WDay z a1 m1) H → va_D A (WDay z a1 m1) → va_S A s.heap H locs → ∀ (ls : Array Slot), lv_has ls 4 [(0, .ref (a1 0)), (1, .int p1), (2, .int x1), (3, .int x2)] → zl2 F3 n x1 x2 = some rr → GI p l e (headSpec wsX2_wantsToCome ({ frames := 0, cells := 0, slots := 0, locals := 0 } : Room)).room s m ([.ref (a1 0), .int p1] : List Value).toArray below meth c A D z rr (WDay z a1 m1) H locs (F0 m 4 ls []) := by
    intro n
    induction n with
    | zero =>
      intro x1 x2 H locs hP hD hS ls hl hf
      exact no_none hf
    | succ n ih5 =>
      intro x1 x2 H locs hP hD hS ls hl hf
      have hf := zl2_s eF3 hf
      refine lv_iload_n hx hb dX2_wantsToCome_4 rfl (lv_at hl 3 rfl) ?_
      refine lv_aload_n hx hb dX2_wantsToCome_5 rfl (lv_at hl 0 rfl) ?_
      refine va_get (D := D) (ci := 2) (v := .int (m1 0 4)) (C := RX2) (T := TX2) (N := 8) hx hb hts iX2 hown hK hP 0 rfl rfl 4 (by decide) (hts _ aw165) (fun _ h9 => h9) rfl dX2_wantsToCome_6 ?_
      refine lv_icmp_ge (tgt := 55) hx hb dX2_wantsToCome_9 (by decide) (fun c6 => ?_) (fun c6 => ?_)
      · have hf := if_t c6 hf
        refine lv_iload_n hx hb dX2_wantsToCome_55 rfl (lv_at hl 2 rfl) ?_
        obtain rfl := so1 hf
        exact ret_i hx hb hr hlocks hK hP hD hS dX2_wantsToCome_56
      · have hf := if_f c6 hf
        refine lv_aload_n hx hb dX2_wantsToCome_12 rfl (lv_at hl 0 rfl) ?_
        refine va_get (D := D) (ci := 2) (v := .ref (a1 13)) (C := RX2) (T := TX2) (N := 8) hx hb hts iX2 hown hK hP 0 rfl rfl 1 (by decide) (hts _ aw154) (fun _ h9 => h9) rfl dX2_wantsToCome_13 ?_
        refine lv_iload_n hx hb dX2_wantsToCome_16 rfl (lv_at hl 3 rfl) ?_
        obtain ⟨h7, hf⟩ := ck_use hf
        refine z_ald hx hb hK hP 13 1 (C := "FilledForOne$Comer") (g := (fun j => a1 (5 + j))) rfl rfl h7 dX2_wantsToCome_17 ?_
        refine va_get (D := D) (ci := 1) (v := .int (m1 (5 + x2.toNatClampNeg) 5)) (C := RX1) (T := TX1) (N := 7) hx hb hts iX1 hown hK hP (5 + x2.toNatClampNeg) (WDay_c z a1 m1 (vp_lt h7)) rfl 5 (by decide) (hts _ aw103) (fun _ h9 => h9) rfl dX2_wantsToCome_18 ?_
        refine lv_if_ne (tgt := 49) hx hb dX2_wantsToCome_21 (by decide) (fun c8 => ?_) (fun c8 => ?_)
        · have hf := if_f c8 hf
          obtain ⟨x9, ex9⟩ : ∃ y : Int32, y = x2 + 1 := ⟨_, rfl⟩
          have hf := lt_use ex9 hf
          refine lv_iinc (v := x9) (lv' := [(3, .int x9), (0, .ref (a1 0)), (1, .int p1), (2, .int x1)]) hx hb dX2_wantsToCome_49 hl (k := 3) rfl (by rw [ex9]; rfl) (by decide) rfl (fun ls hl => ?_)
          refine lv_goto (tgt := 4) hx hb dX2_wantsToCome_52 (by decide) ?_
          exact ih5 _ _ _ _ hP hD hS _ (lv_sub hl [1, 2, 3, 0] rfl) hf
        · have hf := if_t c8 hf
          refine lv_aload_n hx hb dX2_wantsToCome_24 rfl (lv_at hl 0 rfl) ?_
          refine va_get (D := D) (ci := 2) (v := .ref (a1 13)) (C := RX2) (T := TX2) (N := 8) hx hb hts iX2 hown hK hP 0 rfl rfl 1 (by decide) (hts _ aw154) (fun _ h9 => h9) rfl dX2_wantsToCome_25 ?_
          refine lv_iload_n hx hb dX2_wantsToCome_28 rfl (lv_at hl 3 rfl) ?_
          obtain ⟨h10, hf⟩ := ck_use hf
          refine z_ald hx hb hK hP 13 1 (C := "FilledForOne$Comer") (g := (fun j => a1 (5 + j))) rfl rfl h10 dX2_wantsToCome_29 ?_
          refine va_get (D := D) (ci := 1) (v := .int (m1 (5 + x2.toNatClampNeg) 2)) (C := RX1) (T := TX1) (N := 7) hx hb hts iX1 hown hK hP (5 + x2.toNatClampNeg) (WDay_c z a1 m1 (vp_lt h10)) rfl 2 (by decide) (hts _ aw95) (fun _ h9 => h9) rfl dX2_wantsToCome_30 ?_
          refine lv_iload_n hx hb dX2_wantsToCome_33 rfl (lv_at hl 1 rfl) ?_
          refine lv_icmp_gt (tgt := 49) hx hb dX2_wantsToCome_34 (by decide) (fun c11 => ?_) (fun c11 => ?_)
          · have hf := if_t c11 hf
            obtain ⟨x12, ex12⟩ : ∃ y : Int32, y = x2 + 1 := ⟨_, rfl⟩
            have hf := lt_use ex12 hf
            refine lv_iinc (v := x12) (lv' := [(3, .int x12), (0, .ref (a1 0)), (1, .int p1), (2, .int x1)]) hx hb dX2_wantsToCome_49 hl (k := 3) rfl (by rw [ex12]; rfl) (by decide) rfl (fun ls hl => ?_)
            refine lv_goto (tgt := 4) hx hb dX2_wantsToCome_52 (by decide) ?_
            exact ih5 _ _ _ _ hP hD hS _ (lv_sub hl [1, 2, 3, 0] rfl) hf
          · have hf := if_f c11 hf
            refine lv_iload_n hx hb dX2_wantsToCome_37 rfl (lv_at hl 2 rfl) ?_
            refine lv_aload_n hx hb dX2_wantsToCome_38 rfl (lv_at hl 0 rfl) ?_
            refine va_get (D := D) (ci := 2) (v := .ref (a1 13)) (C := RX2) (T := TX2) (N := 8) hx hb hts iX2 hown hK hP 0 rfl rfl 1 (by decide) (hts _ aw154) (fun _ h9 => h9) rfl dX2_wantsToCome_39 ?_
            refine lv_iload_n hx hb dX2_wantsToCome_42 rfl (lv_at hl 3 rfl) ?_
            obtain ⟨h13, hf⟩ := ck_use hf
            refine z_ald hx hb hK hP 13 1 (C := "FilledForOne$Comer") (g := (fun j => a1 (5 + j))) rfl rfl h13 dX2_wantsToCome_43 ?_
            refine va_get (D := D) (ci := 1) (v := .int (m1 (5 + x2.toNatClampNeg) 3)) (C := RX1) (T := TX1) (N := 7) hx hb hts iX1 hown hK hP (5 + x2.toNatClampNeg) (WDay_c z a1 m1 (vp_lt h13)) rfl 3 (by decide) (hts _ aw99) (fun _ h9 => h9) rfl dX2_wantsToCome_44 ?_
            refine lv_iadd hx hb dX2_wantsToCome_47 ?_
            refine lv_topi (fun x14 ex14 => ?_)
            have hf := lt_use ex14 hf
            refine lv_istore_n (lv' := [(2, .int x14), (0, .ref (a1 0)), (1, .int p1), (3, .int x2)]) hx hb dX2_wantsToCome_48 rfl hl (by decide) rfl (fun ls hl => ?_)
            obtain ⟨x15, ex15⟩ : ∃ y : Int32, y = x2 + 1 := ⟨_, rfl⟩
            have hf := lt_use ex15 hf
            refine lv_iinc (v := x15) (lv' := [(3, .int x15), (2, .int x14), (0, .ref (a1 0)), (1, .int p1)]) hx hb dX2_wantsToCome_49 hl (k := 3) rfl (by rw [ex15]; rfl) (by decide) rfl (fun ls hl => ?_)
            refine lv_goto (tgt := 4) hx hb dX2_wantsToCome_52 (by decide) ?_
            exact ih5 _ _ _ _ hP hD hS _ (lv_sub hl [2, 3, 1, 0] rfl) hf
  exact L4_F3 fu _ _ _ _ hP hD hS _ (lv_sub hl [2, 3, 1, 0] rfl) hf
def pX2_upTo (fu : Nat) (m1 : Mem) (i1 : Nat) (p2 : Int32) : Option Int32 :=
  jn1 (fun (x1 : Int32) =>
    ckk i1 8 <|
    some (imin (m1 1 0) (imax (m1 (5 + i1) 3) x1))) fun k2 =>
  if p2 = 1 then
    ckk i1 8 <|
    lt' ((m1 (5 + i1) 3) : Int32) fun x6 =>
    k2 x6
  else
  if p2 = 2 then
    lt' ((m1 1 0) : Int32) fun x8 =>
    k2 x8
  else
  if p2 = 3 then
    bd (pX2_wantsInLine fu m1) fun r10 =>
    k2 r10
  else
  if p2 = 4 then
    bd (pX2_wantsInLine fu m1) fun r13 =>
    ckk i1 8 <|
    bd (pX2_wantsToCome fu m1 ((m1 0 6) + (m1 (5 + i1) 1))) fun r16 =>
    lt' ((r13 + r16) : Int32) fun x18 =>
    k2 x18
  else
  if p2 = 5 then
    lt' ((m1 1 6) : Int32) fun x20 =>
    k2 x20
  else
  if p2 = 6 then
    ckk i1 8 <|
    lt' ((m1 (5 + i1) 1) : Int32) fun x23 =>
    k2 x23
  else
  ckk i1 8 <|
  lt' (((m1 (5 + i1) 3) + 1) : Int32) fun x25 =>
  k2 x25
set_option maxHeartbeats 4000000 in
set_option maxRecDepth 100000 in
theorem tX2_upTo (l : Launch) (D : va_G) (z tt : Nat → Nat) (a1 : Nat → Nat) (m1 : Mem) (i1 : Nat) (p2 : Int32) (fu : Nat) (rr : Int32) (hf : pX2_upTo fu m1 i1 p2 = some rr) : MetI l yX2_upTo wsX2_upTo ({ frames := 1, cells := 0, slots := 0, locals := 23 } : Room) D z tt ([.ref (a1 0), .ref (a1 (5 + i1)), .int p2] : List Value) (WDay z a1 m1) rr (WDay z a1 m1) := by
  intro sz
  refine Met.ofW (cc := cX2_upTo) (maxL := 4) (ret := (some .int)) (by decide) rfl ?_
  intro p e s m args below meth c s₁ B hml hv
  obtain ⟨rfl, hsz, hP, hK, hD0, hT, hN⟩ := hv
  have hx := B.exec
  have hb := B.bytes
  have hr := B.returns
  have hts : ∀ w ∈ wsA, w.before ([.ref (a1 0), .ref (a1 (5 + i1)), .int p2] : List Value).toArray s = true := fun w h => atoms_spec (ws := wsX2_upTo) B.pre w (List.mem_cons_of_mem _ h)
  have hown : s.vm.findClass RX2 = some m.cls := findClass_of_methodNamed B.named
  have hlocks := B.notSynchronized
  subst hsz
  have hD := hD0.self (sz := s.heap.size)
  generalize hAe : va_A (WDay z a1 m1) s.heap.size = A at hD hT ⊢
  have hA : ∀ q : Nat, s.heap.size ≤ q → A q := fun q h => by rw [← hAe]; exact Or.inr h
  have hS : va_S A s.heap s.heap [] := va_S.rf
  have hl := lv_entry ([.ref (a1 0), .ref (a1 (5 + i1)), .int p2] : List Value) (n := 4) (Nat.le_of_ble_eq_true rfl)
  rw [lg_entry_eq]
  generalize (lg_sl ([.ref (a1 0), .ref (a1 (5 + i1)), .int p2] : List Value) ++ List.replicate (4 - (lg_sl ([.ref (a1 0), .ref (a1 (5 + i1)), .int p2] : List Value)).length) Slot.unset).toArray = ls at hl ⊢
  have hl : lv_has ls 4 [(0, .ref (a1 0)), (1, .ref (a1 (5 + i1))), (2, .int p2)] := hl
  unfold pX2_upTo at hf
  refine lv_iload_n hx hb dX2_upTo_0 rfl (lv_at hl 2 rfl) ?_
  obtain ⟨k2, ek2, hf⟩ := jn1_use hf
  have B114_k2 : ∀ (x1 : Int32) (H : Heap) (locs : List Loc), va_P D vwCl (WDay z a1 m1) H → va_D A (WDay z a1 m1) → va_S A s.heap H locs → ∀ (ls : Array Slot), lv_has ls 4 [(0, .ref (a1 0)), (1, .ref (a1 (5 + i1))), (3, .int x1)] → k2 x1 = some rr → GI p l e (headSpec wsX2_upTo ({ frames := 1, cells := 0, slots := 0, locals := 23 } : Room)).room s m ([.ref (a1 0), .ref (a1 (5 + i1)), .int p2] : List Value).toArray below meth c A D z rr (WDay z a1 m1) H locs (F0 m 114 ls []) := by
    intro x1 H locs hP hD hS ls hl hf
    have hf := jn1_ap ek2 hf
    refine lv_aload_n hx hb dX2_upTo_114 rfl (lv_at hl 0 rfl) ?_
    refine va_get (D := D) (ci := 2) (v := .ref (a1 1)) (C := RX2) (T := TX2) (N := 8) hx hb hts iX2 hown hK hP 0 rfl rfl 0 (by decide) (hts _ aw150) (fun _ h9 => h9) rfl dX2_upTo_115 ?_
    refine lv_iconst (v := 0) hx hb dX2_upTo_118 (by decide) ?_
    refine z_ialdc hx hb hK hP 1 rfl (i := 0) (k := 0) (by decide) (Nat.le_of_ble_eq_true rfl) dX2_upTo_119 ?_
    refine lv_aload_n hx hb dX2_upTo_120 rfl (lv_at hl 1 rfl) ?_
    obtain ⟨h3, hf⟩ := ckk_use hf
    refine va_get (D := D) (ci := 1) (v := .int (m1 (5 + i1) 3)) (C := RX1) (T := TX1) (N := 7) hx hb hts iX1 hown hK hP (5 + i1) (WDay_c z a1 m1 h3) rfl 3 (by decide) (hts _ aw99) (fun _ h9 => h9) rfl dX2_upTo_121 ?_
    refine lv_iload_n hx hb dX2_upTo_124 rfl (lv_at hl 2 rfl) ?_
    refine z_max hx hb (by rw [hml]; exact hl.1.symm) hown (hts _ aw351) (hts _ aw352) (hts _ aw54) (hts _ aw353) (Nat.le_of_ble_eq_true rfl) (Nat.le_of_ble_eq_true rfl) dX2_upTo_125 (Nat.zero_le _) (Nat.zero_le _) ?_
    refine z_min hx hb (by rw [hml]; exact hl.1.symm) hown (hts _ aw386) (hts _ aw387) (hts _ aw54) (hts _ aw388) (Nat.le_of_ble_eq_true rfl) (Nat.le_of_ble_eq_true rfl) dX2_upTo_128 (Nat.zero_le _) (Nat.zero_le _) ?_
    obtain rfl := so1 hf
    exact ret_i hx hb hr hlocks hK hP hD hS dX2_upTo_131
  by_cases c4 : p2 = 1
  · have hf := if_t c4 hf
    refine z_tin (K := 1) hx hb c4 dX2_upTo_1 ⟨rfl, by decide, by decide⟩ (tgt := 40) (by decide) ?_
    refine lv_aload_n hx hb dX2_upTo_40 rfl (lv_at hl 1 rfl) ?_
    obtain ⟨h5, hf⟩ := ckk_use hf
    refine va_get (D := D) (ci := 1) (v := .int (m1 (5 + i1) 3)) (C := RX1) (T := TX1) (N := 7) hx hb hts iX1 hown hK hP (5 + i1) (WDay_c z a1 m1 h5) rfl 3 (by decide) (hts _ aw99) (fun _ h9 => h9) rfl dX2_upTo_41 ?_
    refine lv_topi (fun x6 ex6 => ?_)
    have hf := lt_use ex6 hf
    refine lv_istore_n (lv' := [(3, .int x6), (0, .ref (a1 0)), (1, .ref (a1 (5 + i1))), (2, .int p2)]) hx hb dX2_upTo_44 rfl hl (by decide) rfl (fun ls hl => ?_)
    refine lv_goto (tgt := 114) hx hb dX2_upTo_45 (by decide) ?_
    exact B114_k2 _ _ _ hP hD hS _ (lv_sub hl [1, 2, 0] rfl) hf
  have hf := if_f c4 hf
  by_cases c7 : p2 = 2
  · have hf := if_t c7 hf
    refine z_tin (K := 2) hx hb c7 dX2_upTo_1 ⟨rfl, by decide, by decide⟩ (tgt := 48) (by decide) ?_
    refine lv_aload_n hx hb dX2_upTo_48 rfl (lv_at hl 0 rfl) ?_
    refine va_get (D := D) (ci := 2) (v := .ref (a1 1)) (C := RX2) (T := TX2) (N := 8) hx hb hts iX2 hown hK hP 0 rfl rfl 0 (by decide) (hts _ aw150) (fun _ h9 => h9) rfl dX2_upTo_49 ?_
    refine lv_iconst (v := 0) hx hb dX2_upTo_52 (by decide) ?_
    refine z_ialdc hx hb hK hP 1 rfl (i := 0) (k := 0) (by decide) (Nat.le_of_ble_eq_true rfl) dX2_upTo_53 ?_
    refine lv_topi (fun x8 ex8 => ?_)
    have hf := lt_use ex8 hf
    refine lv_istore_n (lv' := [(3, .int x8), (0, .ref (a1 0)), (1, .ref (a1 (5 + i1))), (2, .int p2)]) hx hb dX2_upTo_54 rfl hl (by decide) rfl (fun ls hl => ?_)
    refine lv_goto (tgt := 114) hx hb dX2_upTo_55 (by decide) ?_
    exact B114_k2 _ _ _ hP hD hS _ (lv_sub hl [1, 2, 0] rfl) hf
  have hf := if_f c7 hf
  by_cases c9 : p2 = 3
  · have hf := if_t c9 hf
    refine z_tin (K := 3) hx hb c9 dX2_upTo_1 ⟨rfl, by decide, by decide⟩ (tgt := 58) (by decide) ?_
    refine lv_aload_n hx hb dX2_upTo_58 rfl (lv_at hl 0 rfl) ?_
    obtain ⟨r10, q11, hf⟩ := bd_use hf
    have hfo : Foc (WDay z a1 m1) (WDay z a1 m1) (WDay z a1 m1) (WDay z a1 m1) := foc_all
    refine z_goI (ws1 := (WDay z a1 m1)) (va_runV (As := []) (rest := []) ⟨hx, hb, hml, hown, hts⟩ (tX2_wantsInLine l D z tt a1 m1  fu r10 q11 _) (cwV 0 hts (gV4 aw378 aw379 aw380 aw46 aw381) rfl rfl rfl (by decide +kernel) ⟨Nat.le_of_ble_eq_true rfl, Nat.le_of_ble_eq_true rfl⟩) (z_preV hK hP hD hS hA hT hN hfo (va_recv hK hP (ci := 2) (q0 := 0) rfl rfl)) rfl rfl hl.1 rfl (lv_room (Nat.le_of_ble_eq_true rfl)) dX2_upTo_59 ⟨Nat.zero_le _, Nat.zero_le _⟩) hP hD hS hA hfo (fun H locs hP hD hS => ?_)
    refine lv_istore_n (lv' := [(3, .int r10), (0, .ref (a1 0)), (1, .ref (a1 (5 + i1))), (2, .int p2)]) hx hb dX2_upTo_62 rfl hl (by decide) rfl (fun ls hl => ?_)
    refine lv_goto (tgt := 114) hx hb dX2_upTo_63 (by decide) ?_
    exact B114_k2 _ _ _ hP hD hS _ (lv_sub hl [1, 2, 0] rfl) hf
  have hf := if_f c9 hf
  by_cases c12 : p2 = 4
  · have hf := if_t c12 hf
    refine z_tin (K := 4) hx hb c12 dX2_upTo_1 ⟨rfl, by decide, by decide⟩ (tgt := 66) (by decide) ?_
    refine lv_aload_n hx hb dX2_upTo_66 rfl (lv_at hl 0 rfl) ?_
    obtain ⟨r13, q14, hf⟩ := bd_use hf
    have hfo : Foc (WDay z a1 m1) (WDay z a1 m1) (WDay z a1 m1) (WDay z a1 m1) := foc_all
    refine z_goI (ws1 := (WDay z a1 m1)) (va_runV (As := []) (rest := []) ⟨hx, hb, hml, hown, hts⟩ (tX2_wantsInLine l D z tt a1 m1  fu r13 q14 _) (cwV 0 hts (gV4 aw378 aw379 aw380 aw46 aw381) rfl rfl rfl (by decide +kernel) ⟨Nat.le_of_ble_eq_true rfl, Nat.le_of_ble_eq_true rfl⟩) (z_preV hK hP hD hS hA hT hN hfo (va_recv hK hP (ci := 2) (q0 := 0) rfl rfl)) rfl rfl hl.1 rfl (lv_room (Nat.le_of_ble_eq_true rfl)) dX2_upTo_67 ⟨Nat.zero_le _, Nat.zero_le _⟩) hP hD hS hA hfo (fun H locs hP hD hS => ?_)
    refine lv_aload_n hx hb dX2_upTo_70 rfl (lv_at hl 0 rfl) ?_
    refine lv_aload_n hx hb dX2_upTo_71 rfl (lv_at hl 0 rfl) ?_
    refine va_get (D := D) (ci := 2) (v := .int (m1 0 6)) (C := RX2) (T := TX2) (N := 8) hx hb hts iX2 hown hK hP 0 rfl rfl 6 (by decide) (hts _ aw170) (fun _ h9 => h9) rfl dX2_upTo_72 ?_
    refine lv_aload_n hx hb dX2_upTo_75 rfl (lv_at hl 1 rfl) ?_
    obtain ⟨h15, hf⟩ := ckk_use hf
    refine va_get (D := D) (ci := 1) (v := .int (m1 (5 + i1) 1)) (C := RX1) (T := TX1) (N := 7) hx hb hts iX1 hown hK hP (5 + i1) (WDay_c z a1 m1 h15) rfl 1 (by decide) (hts _ aw92) (fun _ h9 => h9) rfl dX2_upTo_76 ?_
    refine lv_iadd hx hb dX2_upTo_79 ?_
    obtain ⟨r16, q17, hf⟩ := bd_use hf
    have hfo : Foc (WDay z a1 m1) (WDay z a1 m1) (WDay z a1 m1) (WDay z a1 m1) := foc_all
    refine z_goI (ws1 := (WDay z a1 m1)) (va_runV (As := [.int ((m1 0 6) + (m1 (5 + i1) 1))]) (rest := [.int r13]) ⟨hx, hb, hml, hown, hts⟩ (tX2_wantsToCome l D z tt a1 m1 ((m1 0 6) + (m1 (5 + i1) 1)) fu r16 q17 _) (cwV 1 hts (gV4 aw382 aw383 aw384 aw46 aw385) rfl rfl rfl (by decide +kernel) ⟨Nat.le_of_ble_eq_true rfl, Nat.le_of_ble_eq_true rfl⟩) (z_preV hK hP hD hS hA hT hN hfo (va_recv hK hP (ci := 2) (q0 := 0) rfl rfl)) rfl rfl hl.1 rfl (lv_room (Nat.le_of_ble_eq_true rfl)) dX2_upTo_80 ⟨Nat.zero_le _, Nat.zero_le _⟩) hP hD hS hA hfo (fun H locs hP hD hS => ?_)
    refine lv_iadd hx hb dX2_upTo_83 ?_
    refine lv_topi (fun x18 ex18 => ?_)
    have hf := lt_use ex18 hf
    refine lv_istore_n (lv' := [(3, .int x18), (0, .ref (a1 0)), (1, .ref (a1 (5 + i1))), (2, .int p2)]) hx hb dX2_upTo_84 rfl hl (by decide) rfl (fun ls hl => ?_)
    refine lv_goto (tgt := 114) hx hb dX2_upTo_85 (by decide) ?_
    exact B114_k2 _ _ _ hP hD hS _ (lv_sub hl [1, 2, 0] rfl) hf
  have hf := if_f c12 hf
  by_cases c19 : p2 = 5
  · have hf := if_t c19 hf
    refine z_tin (K := 5) hx hb c19 dX2_upTo_1 ⟨rfl, by decide, by decide⟩ (tgt := 88) (by decide) ?_
    refine lv_aload_n hx hb dX2_upTo_88 rfl (lv_at hl 0 rfl) ?_
    refine va_get (D := D) (ci := 2) (v := .ref (a1 1)) (C := RX2) (T := TX2) (N := 8) hx hb hts iX2 hown hK hP 0 rfl rfl 0 (by decide) (hts _ aw150) (fun _ h9 => h9) rfl dX2_upTo_89 ?_
    refine lv_bipush (v := 6) hx hb dX2_upTo_92 (by decide) ?_
    refine z_ialdc hx hb hK hP 1 rfl (i := 6) (k := 6) (by decide) (Nat.le_of_ble_eq_true rfl) dX2_upTo_94 ?_
    refine lv_topi (fun x20 ex20 => ?_)
    have hf := lt_use ex20 hf
    refine lv_istore_n (lv' := [(3, .int x20), (0, .ref (a1 0)), (1, .ref (a1 (5 + i1))), (2, .int p2)]) hx hb dX2_upTo_95 rfl hl (by decide) rfl (fun ls hl => ?_)
    refine lv_goto (tgt := 114) hx hb dX2_upTo_96 (by decide) ?_
    exact B114_k2 _ _ _ hP hD hS _ (lv_sub hl [1, 2, 0] rfl) hf
  have hf := if_f c19 hf
  by_cases c21 : p2 = 6
  · have hf := if_t c21 hf
    refine z_tin (K := 6) hx hb c21 dX2_upTo_1 ⟨rfl, by decide, by decide⟩ (tgt := 99) (by decide) ?_
    refine lv_aload_n hx hb dX2_upTo_99 rfl (lv_at hl 1 rfl) ?_
    obtain ⟨h22, hf⟩ := ckk_use hf
    refine va_get (D := D) (ci := 1) (v := .int (m1 (5 + i1) 1)) (C := RX1) (T := TX1) (N := 7) hx hb hts iX1 hown hK hP (5 + i1) (WDay_c z a1 m1 h22) rfl 1 (by decide) (hts _ aw92) (fun _ h9 => h9) rfl dX2_upTo_100 ?_
    refine lv_topi (fun x23 ex23 => ?_)
    have hf := lt_use ex23 hf
    refine lv_istore_n (lv' := [(3, .int x23), (0, .ref (a1 0)), (1, .ref (a1 (5 + i1))), (2, .int p2)]) hx hb dX2_upTo_103 rfl hl (by decide) rfl (fun ls hl => ?_)
    refine lv_goto (tgt := 114) hx hb dX2_upTo_104 (by decide) ?_
    exact B114_k2 _ _ _ hP hD hS _ (lv_sub hl [1, 2, 0] rfl) hf
  have hf := if_f c21 hf
  refine lv_tableOut (tgt := 107) hx hb dX2_upTo_1 (by have qc4 := lv_neT c4 (show (1 : Int32).toInt = 1 from by decide); have qc7 := lv_neT c7 (show (2 : Int32).toInt = 2 from by decide); have qc9 := lv_neT c9 (show (3 : Int32).toInt = 3 from by decide); have qc12 := lv_neT c12 (show (4 : Int32).toInt = 4 from by decide); have qc19 := lv_neT c19 (show (5 : Int32).toInt = 5 from by decide); have qc21 := lv_neT c21 (show (6 : Int32).toInt = 6 from by decide); omega) (by decide) ?_
  refine lv_aload_n hx hb dX2_upTo_107 rfl (lv_at hl 1 rfl) ?_
  obtain ⟨h24, hf⟩ := ckk_use hf
  refine va_get (D := D) (ci := 1) (v := .int (m1 (5 + i1) 3)) (C := RX1) (T := TX1) (N := 7) hx hb hts iX1 hown hK hP (5 + i1) (WDay_c z a1 m1 h24) rfl 3 (by decide) (hts _ aw99) (fun _ h9 => h9) rfl dX2_upTo_108 ?_
  refine lv_iconst (v := 1) hx hb dX2_upTo_111 (by decide) ?_
  refine lv_iadd hx hb dX2_upTo_112 ?_
  refine lv_topi (fun x25 ex25 => ?_)
  have hf := lt_use ex25 hf
  refine lv_istore_n (lv' := [(3, .int x25), (0, .ref (a1 0)), (1, .ref (a1 (5 + i1))), (2, .int p2)]) hx hb dX2_upTo_113 rfl hl (by decide) rfl (fun ls hl => ?_)
  exact B114_k2 _ _ _ hP hD hS _ (lv_sub hl [1, 2, 0] rfl) hf
def pX2_boil (fu : Nat) (m1 : Mem) (p1 : Int32) : Option Mem :=
  bd (pX2_firstFree fu m1) fun r1 =>
  oc r1 (
    some m1) fun i3 =>
  ckk i3 2 <|
    bd (pX2_waitsForOwn fu m1 p1) fun r6 =>
    if r6 = 0 then
      ck p1 8 <|
      ck p1 8 <|
      bd (pX2_upTo fu m1 (p1.toNatClampNeg) (m1 (5 + p1.toNatClampNeg) 0)) fun r11 =>
      lt' ((m1 0 6) : Int32) fun x13 =>
      jn2 (fun (x14 : Int32) (y15 : Mem) =>
        bd (pX3_putOn fu (y15 (3 + i3)) p1 x14 (y15 1 2)) fun y17 =>
        lt' (va_up y15 (3 + i3) y17) fun y19 =>
        lt' (up2 y19 0 7 ((y19 0 7) + 1)) fun y20 =>
        some y20) fun k16 =>
      if r11 ≤ (m1 (3 + i3) 0) then
        k16 x13 m1
      else
        bd (pX3_fill fu (m1 (3 + i3)) r11) fun y22 =>
        lt' (va_up m1 (3 + i3) y22) fun y24 =>
        lt' ((x13 + (y24 1 1)) : Int32) fun x25 =>
        k16 x25 y24
    else
      some m1
set_option maxHeartbeats 4000000 in
set_option maxRecDepth 100000 in
theorem tX2_boil (l : Launch) (D : va_G) (z tt : Nat → Nat) (a1 : Nat → Nat) (m1 : Mem) (p1 : Int32) (fu : Nat) (m1' : Mem) (hf : pX2_boil fu m1 p1 = some m1') : MetV l yX2_boil wsX2_boil ({ frames := 2, cells := 0, slots := 0, locals := 46 } : Room) D z tt ([.ref (a1 0), .int p1] : List Value) (WDay z a1 m1) (WDay z a1 m1') := by
  intro sz
  refine Met.ofW (cc := cX2_boil) (maxL := 5) (ret := none) (by decide) rfl ?_
  intro p e s m args below meth c s₁ B hml hv
  obtain ⟨rfl, hsz, hP, hK, hD0, hT, hN⟩ := hv
  have hx := B.exec
  have hb := B.bytes
  have hr := B.returns
  have hts : ∀ w ∈ wsA, w.before ([.ref (a1 0), .int p1] : List Value).toArray s = true := fun w h => atoms_spec (ws := wsX2_boil) B.pre w (List.mem_cons_of_mem _ h)
  have hown : s.vm.findClass RX2 = some m.cls := findClass_of_methodNamed B.named
  have hlocks := B.notSynchronized
  subst hsz
  have hD := hD0.self (sz := s.heap.size)
  generalize hAe : va_A (WDay z a1 m1) s.heap.size = A at hD hT ⊢
  have hA : ∀ q : Nat, s.heap.size ≤ q → A q := fun q h => by rw [← hAe]; exact Or.inr h
  have hS : va_S A s.heap s.heap [] := va_S.rf
  have hl := lv_entry ([.ref (a1 0), .int p1] : List Value) (n := 5) (Nat.le_of_ble_eq_true rfl)
  rw [lg_entry_eq]
  generalize (lg_sl ([.ref (a1 0), .int p1] : List Value) ++ List.replicate (5 - (lg_sl ([.ref (a1 0), .int p1] : List Value)).length) Slot.unset).toArray = ls at hl ⊢
  have hl : lv_has ls 5 [(0, .ref (a1 0)), (1, .int p1)] := hl
  unfold pX2_boil at hf
  refine lv_aload_n hx hb dX2_boil_0 rfl (lv_at hl 0 rfl) ?_
  obtain ⟨r1, q2, hf⟩ := bd_use hf
  have hfo : Foc (WDay z a1 m1) (WDay z a1 m1) (WDay z a1 m1) (WDay z a1 m1) := foc_all
  refine z_goQ (ws1 := (WDay z a1 m1)) (va_runV (As := []) (rest := []) ⟨hx, hb, hml, hown, hts⟩ (tX2_firstFree l D z tt a1 m1  fu r1 q2 _) (cwV 0 hts (gV4 aw475 aw476 aw477 aw46 aw478) rfl rfl rfl (by decide +kernel) ⟨Nat.le_of_ble_eq_true rfl, Nat.le_of_ble_eq_true rfl⟩) (z_preV hK hP hD hS hA hT hN hfo (va_recv hK hP (ci := 2) (q0 := 0) rfl rfl)) rfl rfl hl.1 rfl (lv_room (Nat.le_of_ble_eq_true rfl)) dX2_boil_1 ⟨Nat.zero_le _, Nat.zero_le _⟩) hP hD hS hA hfo (fun H locs hP hD hS => ?_)
  rcases oc_use hf with ⟨e4, hf⟩ | ⟨i3, e4, hf⟩
  · subst e4
    refine lv_astore_nN (lv' := [(2, .null), (0, .ref (a1 0)), (1, .int p1)]) hx hb dX2_boil_4 rfl hl (by decide) rfl (fun ls hl => ?_)
    refine lv_aload_nN hx hb dX2_boil_5 rfl (lv_at hl 0 rfl) ?_
    refine lv_ifnullN (tgt := 17) hx hb dX2_boil_6 (by decide) ?_
    obtain rfl := so1 hf
    exact ret_v hx hb hr hlocks hK hP hD hS dX2_boil_17
  · subst e4
    obtain ⟨h5, hf⟩ := ckk_use hf
    refine lv_astore_n (lv' := [(2, .ref (a1 (3 + i3))), (0, .ref (a1 0)), (1, .int p1)]) hx hb dX2_boil_4 rfl hl (by decide) rfl (fun ls hl => ?_)
    refine lv_aload_n hx hb dX2_boil_5 rfl (lv_at hl 0 rfl) ?_
    refine lv_ifnull hx hb dX2_boil_6 ?_
    refine lv_aload_n hx hb dX2_boil_9 rfl (lv_at hl 1 rfl) ?_
    refine lv_iload_n hx hb dX2_boil_10 rfl (lv_at hl 2 rfl) ?_
    obtain ⟨r6, q7, hf⟩ := bd_use hf
    have hfo : Foc (WDay z a1 m1) (WDay z a1 m1) (WDay z a1 m1) (WDay z a1 m1) := foc_all
    refine z_goI (ws1 := (WDay z a1 m1)) (va_runV (As := [.int p1]) (rest := []) ⟨hx, hb, hml, hown, hts⟩ (tX2_waitsForOwn l D z tt a1 m1 p1 fu r6 q7 _) (cwV 1 hts (gV4 aw479 aw480 aw481 aw46 aw482) rfl rfl rfl (by decide +kernel) ⟨Nat.le_of_ble_eq_true rfl, Nat.le_of_ble_eq_true rfl⟩) (z_preV hK hP hD hS hA hT hN hfo (va_recv hK hP (ci := 2) (q0 := 0) rfl rfl)) rfl rfl hl.1 rfl (lv_room (Nat.le_of_ble_eq_true rfl)) dX2_boil_11 ⟨Nat.zero_le _, Nat.zero_le _⟩) hP hD hS hA hfo (fun H locs hP hD hS => ?_)
    refine lv_if_eq (tgt := 18) hx hb dX2_boil_14 (by decide) (fun c8 => ?_) (fun c8 => ?_)
    · have hf := if_t c8 hf
      refine lv_aload_n hx hb dX2_boil_18 rfl (lv_at hl 1 rfl) ?_
      refine lv_aload_n hx hb dX2_boil_19 rfl (lv_at hl 1 rfl) ?_
      refine va_get (D := D) (ci := 2) (v := .ref (a1 13)) (C := RX2) (T := TX2) (N := 8) hx hb hts iX2 hown hK hP 0 rfl rfl 1 (by decide) (hts _ aw154) (fun _ h9 => h9) rfl dX2_boil_20 ?_
      refine lv_iload_n hx hb dX2_boil_23 rfl (lv_at hl 2 rfl) ?_
      obtain ⟨h9, hf⟩ := ck_use hf
      refine z_ald hx hb hK hP 13 1 (C := "FilledForOne$Comer") (g := (fun j => a1 (5 + j))) rfl rfl h9 dX2_boil_24 ?_
      refine lv_aload_n hx hb dX2_boil_25 rfl (lv_at hl 1 rfl) ?_
      refine va_get (D := D) (ci := 2) (v := .ref (a1 13)) (C := RX2) (T := TX2) (N := 8) hx hb hts iX2 hown hK hP 0 rfl rfl 1 (by decide) (hts _ aw154) (fun _ h9 => h9) rfl dX2_boil_26 ?_
      refine lv_iload_n hx hb dX2_boil_29 rfl (lv_at hl 2 rfl) ?_
      obtain ⟨h10, hf⟩ := ck_use hf
      refine z_ald hx hb hK hP 13 1 (C := "FilledForOne$Comer") (g := (fun j => a1 (5 + j))) rfl rfl h10 dX2_boil_30 ?_
      refine va_get (D := D) (ci := 1) (v := .int (m1 (5 + p1.toNatClampNeg) 0)) (C := RX1) (T := TX1) (N := 7) hx hb hts iX1 hown hK hP (5 + p1.toNatClampNeg) (WDay_c z a1 m1 (vp_lt h10)) rfl 0 (by decide) (hts _ aw88) (fun _ h9 => h9) rfl dX2_boil_31 ?_
      obtain ⟨r11, q12, hf⟩ := bd_use hf
      have hfo : Foc (WDay z a1 m1) (WDay z a1 m1) (WDay z a1 m1) (WDay z a1 m1) := foc_all
      refine z_goI (ws1 := (WDay z a1 m1)) (va_runV (As := [.ref (a1 (5 + p1.toNatClampNeg)), .int (m1 (5 + p1.toNatClampNeg) 0)]) (rest := []) ⟨hx, hb, hml, hown, hts⟩ (tX2_upTo l D z tt a1 m1 (p1.toNatClampNeg) (m1 (5 + p1.toNatClampNeg) 0) fu r11 q12 _) (cwV 2 hts (gV4 aw483 aw375 aw376 aw46 aw377) rfl rfl rfl (by decide +kernel) ⟨Nat.le_of_ble_eq_true rfl, Nat.le_of_ble_eq_true rfl⟩) (z_preV hK hP hD hS hA hT hN hfo (va_recv hK hP (ci := 2) (q0 := 0) rfl rfl)) rfl rfl hl.1 rfl (lv_room (Nat.le_of_ble_eq_true rfl)) dX2_boil_34 ⟨Nat.zero_le _, Nat.zero_le _⟩) hP hD hS hA hfo (fun H locs hP hD hS => ?_)
      refine lv_istore_n (lv' := [(3, .int r11), (2, .ref (a1 (3 + i3))), (0, .ref (a1 0)), (1, .int p1)]) hx hb dX2_boil_37 rfl hl (by decide) rfl (fun ls hl => ?_)
      refine lv_aload_n hx hb dX2_boil_38 rfl (lv_at hl 2 rfl) ?_
      refine va_get (D := D) (ci := 2) (v := .int (m1 0 6)) (C := RX2) (T := TX2) (N := 8) hx hb hts iX2 hown hK hP 0 rfl rfl 6 (by decide) (hts _ aw170) (fun _ h9 => h9) rfl dX2_boil_39 ?_
      refine lv_topi (fun x13 ex13 => ?_)
      have hf := lt_use ex13 hf
      refine lv_istore (lv' := [(4, .int x13), (3, .int r11), (2, .ref (a1 (3 + i3))), (0, .ref (a1 0)), (1, .int p1)]) hx hb dX2_boil_42 hl (by decide) rfl (fun ls hl => ?_)
      refine lv_aload_n hx hb dX2_boil_44 rfl (lv_at hl 2 rfl) ?_
      refine va_get (D := D) (ci := 3) (v := .int (m1 (3 + i3) 0)) (C := RX3) (T := TX3) (N := 5) hx hb hts iX3 hown hK hP (3 + i3) (WDay_k z a1 m1 h5) rfl 0 (by decide) (hts _ aw133) (fun _ h9 => h9) rfl dX2_boil_45 ?_
      refine lv_iload_n hx hb dX2_boil_48 rfl (lv_at hl 1 rfl) ?_
      obtain ⟨k16, ek16, hf⟩ := jn2_use hf
      have B68_k16 : ∀ (x14 : Int32) (y15 : Mem) (H : Heap) (locs : List Loc), va_P D vwCl (WDay z a1 y15) H → va_D A (WDay z a1 y15) → va_S A s.heap H locs → ∀ (ls : Array Slot), lv_has ls 5 [(0, .ref (a1 0)), (1, .int p1), (2, .ref (a1 (3 + i3))), (4, .int x14)] → k16 x14 y15 = some m1' → GV p l e (headSpec wsX2_boil ({ frames := 2, cells := 0, slots := 0, locals := 46 } : Room)).room s m ([.ref (a1 0), .int p1] : List Value).toArray below meth c A D z (WDay z a1 m1') H locs (F0 m 68 ls []) := by
        intro x14 y15 H locs hP hD hS ls hl hf
        have hf := jn2_ap ek16 hf
        refine lv_aload_n hx hb dX2_boil_68 rfl (lv_at hl 2 rfl) ?_
        refine lv_iload_n hx hb dX2_boil_69 rfl (lv_at hl 1 rfl) ?_
        refine lv_iload hx hb dX2_boil_70 (lv_at hl 3 rfl) ?_
        refine lv_aload_n hx hb dX2_boil_72 rfl (lv_at hl 0 rfl) ?_
        refine va_get (D := D) (ci := 2) (v := .ref (a1 1)) (C := RX2) (T := TX2) (N := 8) hx hb hts iX2 hown hK hP 0 rfl rfl 0 (by decide) (hts _ aw150) (fun _ h9 => h9) rfl dX2_boil_73 ?_
        refine lv_iconst (v := 2) hx hb dX2_boil_76 (by decide) ?_
        refine z_ialdc hx hb hK hP 1 rfl (i := 2) (k := 2) (by decide) (Nat.le_of_ble_eq_true rfl) dX2_boil_77 ?_
        obtain ⟨y17, q18, hf⟩ := bd_use hf
        obtain ⟨y19, ey19⟩ : ∃ w : Mem, w = va_up y15 (3 + i3) y17 := ⟨_, rfl⟩
        have hf := lt_use ey19 hf
        have hfo : Foc (WDay z a1 y15) (WKet (a1 (3 + i3)) (y15 (3 + i3))) (WDay z a1 y19) (WKet (a1 (3 + i3)) y17) := (foc_el (WDay_k z a1 y15 h5) (by rw [ey19]; exact WDay_sk z a1 y15 y17 h5))
        refine z_goV (ws1 := (WDay z a1 y19)) (va_runV (As := [.int p1, .int x14, .int (y15 1 2)]) (rest := []) ⟨hx, hb, hml, hown, hts⟩ (tX3_putOn l D z tt (a1 (3 + i3)) (y15 (3 + i3)) p1 x14 (y15 1 2) fu y17 q18 _) (cwV 3 hts (gV4 aw488 aw489 aw490 aw48 aw491) rfl rfl rfl (by decide +kernel) ⟨Nat.le_of_ble_eq_true rfl, Nat.le_of_ble_eq_true rfl⟩) (z_preV hK hP hD hS hA hT hN hfo (va_recv hK hP (ci := 3) (q0 := (3 + i3)) rfl (WDay_k z a1 y15 h5))) rfl rfl hl.1 rfl (lv_room (Nat.le_of_ble_eq_true rfl)) dX2_boil_78 ⟨Nat.zero_le _, Nat.zero_le _⟩) hP hD hS hA hfo (fun H locs hP hD hS => ?_)
        refine lv_aload_n hx hb dX2_boil_81 rfl (lv_at hl 0 rfl) ?_
        refine lv_dup hx hb dX2_boil_82 rfl ?_
        refine va_get (D := D) (ci := 2) (v := .int (y19 0 7)) (C := RX2) (T := TX2) (N := 8) hx hb hts iX2 hown hK hP 0 rfl rfl 7 (by decide) (hts _ aw173) (fun _ h9 => h9) rfl dX2_boil_83 ?_
        refine lv_iconst (v := 1) hx hb dX2_boil_86 (by decide) ?_
        refine lv_iadd hx hb dX2_boil_87 ?_
        refine z_put (ci := 2) (v := .int ((y19 0 7) + 1)) (ty := .int) (C := RX2) (T := TX2) (N := 8) hx hb hts iX2 tyX2 tyX2_ok nmX2 hown hK hP hD hS 0 rfl rfl 7 (by decide) (hts _ aw173) (fun _ h9 => h9) rfl (by decide +kernel) rfl rfl (Nat.le_of_ble_eq_true rfl) dX2_boil_88 (fun (w9 : Mem) => (WDay z a1 w9)) (up2 y19 0 7 ((y19 0 7) + 1)) rfl (fun y20 ey20 H locs hP hD hS => ?_)
        have hf := lt_use ey20 hf
        obtain rfl := so1 hf
        exact ret_v hx hb hr hlocks hK hP hD hS dX2_boil_91
      refine lv_icmp_ge (tgt := 68) hx hb dX2_boil_49 (by decide) (fun c21 => ?_) (fun c21 => ?_)
      · have hf := if_t c21 hf
        exact B68_k16 _ _ _ _ hP hD hS _ (lv_sub hl [3, 4, 2, 0] rfl) hf
      · have hf := if_f c21 hf
        refine lv_aload_n hx hb dX2_boil_52 rfl (lv_at hl 2 rfl) ?_
        refine lv_iload_n hx hb dX2_boil_53 rfl (lv_at hl 1 rfl) ?_
        obtain ⟨y22, q23, hf⟩ := bd_use hf
        obtain ⟨y24, ey24⟩ : ∃ w : Mem, w = va_up m1 (3 + i3) y22 := ⟨_, rfl⟩
        have hf := lt_use ey24 hf
        have hfo : Foc (WDay z a1 m1) (WKet (a1 (3 + i3)) (m1 (3 + i3))) (WDay z a1 y24) (WKet (a1 (3 + i3)) y22) := (foc_el (WDay_k z a1 m1 h5) (by rw [ey24]; exact WDay_sk z a1 m1 y22 h5))
        refine z_goV (ws1 := (WDay z a1 y24)) (va_runV (As := [.int r11]) (rest := []) ⟨hx, hb, hml, hown, hts⟩ (tX3_fill l D z tt (a1 (3 + i3)) (m1 (3 + i3)) r11 fu y22 q23 _) (cwV 1 hts (gV4 aw484 aw485 aw486 aw48 aw487) rfl rfl rfl (by decide +kernel) ⟨Nat.le_of_ble_eq_true rfl, Nat.le_of_ble_eq_true rfl⟩) (z_preV hK hP hD hS hA hT hN hfo (va_recv hK hP (ci := 3) (q0 := (3 + i3)) rfl (WDay_k z a1 m1 h5))) rfl rfl hl.1 rfl (lv_room (Nat.le_of_ble_eq_true rfl)) dX2_boil_54 ⟨Nat.zero_le _, Nat.zero_le _⟩) hP hD hS hA hfo (fun H locs hP hD hS => ?_)
        refine lv_iload hx hb dX2_boil_57 (lv_at hl 0 rfl) ?_
        refine lv_aload_n hx hb dX2_boil_59 rfl (lv_at hl 3 rfl) ?_
        refine va_get (D := D) (ci := 2) (v := .ref (a1 1)) (C := RX2) (T := TX2) (N := 8) hx hb hts iX2 hown hK hP 0 rfl rfl 0 (by decide) (hts _ aw150) (fun _ h9 => h9) rfl dX2_boil_60 ?_
        refine lv_iconst (v := 1) hx hb dX2_boil_63 (by decide) ?_
        refine z_ialdc hx hb hK hP 1 rfl (i := 1) (k := 1) (by decide) (Nat.le_of_ble_eq_true rfl) dX2_boil_64 ?_
        refine lv_iadd hx hb dX2_boil_65 ?_
        refine lv_topi (fun x25 ex25 => ?_)
        have hf := lt_use ex25 hf
        refine lv_istore (lv' := [(4, .int x25), (3, .int r11), (2, .ref (a1 (3 + i3))), (0, .ref (a1 0)), (1, .int p1)]) hx hb dX2_boil_66 hl (by decide) rfl (fun ls hl => ?_)
        exact B68_k16 _ _ _ _ hP hD hS _ (lv_sub hl [3, 4, 2, 0] rfl) hf
    · have hf := if_f c8 hf
      obtain rfl := so1 hf
      exact ret_v hx hb hr hlocks hK hP hD hS dX2_boil_17
def pX2_passMinute (fu : Nat) (m1 : Mem) : Option Mem :=
  bd (pX2_lineUp fu m1) fun y1 =>
  bd (pX2_loseImpatient fu y1) fun y3 =>
  zl2 (fun g8 (x5 : Int32) (y6 : Mem) =>
    if (y6 0 5) ≤ x5 then
      bd (pX2_closeUp fu y6) fun y11 =>
      bd (pX2_coolDown fu y11) fun y13 =>
      lt' (up2 y13 0 6 ((y13 0 6) + 1)) fun y15 =>
      some y15
    else
      ck x5 8 <|
      bd2 (pX2_serve fu y6 (y6 2 x5.toNatClampNeg)) fun r17 y18 =>
      if r17 = 0 then
        ck x5 8 <|
        bd (pX2_boil fu y18 (y18 2 x5.toNatClampNeg)) fun y23 =>
        lt' (x5 + 1) fun x25 =>
        g8 x25 y23
      else
        lt' (x5 + 1) fun x21 =>
        g8 x21 y18) fu 0 y3
set_option maxHeartbeats 4000000 in
set_option maxRecDepth 100000 in
theorem tX2_passMinute (l : Launch) (D : va_G) (z tt : Nat → Nat) (a1 : Nat → Nat) (m1 : Mem)  (fu : Nat) (m1' : Mem) (hf : pX2_passMinute fu m1 = some m1') : MetV l yX2_passMinute wsX2_passMinute ({ frames := 3, cells := 0, slots := 0, locals := 70 } : Room) D z tt ([.ref (a1 0)] : List Value) (WDay z a1 m1) (WDay z a1 m1') := by
  intro sz
  refine Met.ofW (cc := cX2_passMinute) (maxL := 2) (ret := none) (by decide) rfl ?_
  intro p e s m args below meth c s₁ B hml hv
  obtain ⟨rfl, hsz, hP, hK, hD0, hT, hN⟩ := hv
  have hx := B.exec
  have hb := B.bytes
  have hr := B.returns
  have hts : ∀ w ∈ wsA, w.before ([.ref (a1 0)] : List Value).toArray s = true := fun w h => atoms_spec (ws := wsX2_passMinute) B.pre w (List.mem_cons_of_mem _ h)
  have hown : s.vm.findClass RX2 = some m.cls := findClass_of_methodNamed B.named
  have hlocks := B.notSynchronized
  subst hsz
  have hD := hD0.self (sz := s.heap.size)
  generalize hAe : va_A (WDay z a1 m1) s.heap.size = A at hD hT ⊢
  have hA : ∀ q : Nat, s.heap.size ≤ q → A q := fun q h => by rw [← hAe]; exact Or.inr h
  have hS : va_S A s.heap s.heap [] := va_S.rf
  have hl := lv_entry ([.ref (a1 0)] : List Value) (n := 2) (Nat.le_of_ble_eq_true rfl)
  rw [lg_entry_eq]
  generalize (lg_sl ([.ref (a1 0)] : List Value) ++ List.replicate (2 - (lg_sl ([.ref (a1 0)] : List Value)).length) Slot.unset).toArray = ls at hl ⊢
  have hl : lv_has ls 2 [(0, .ref (a1 0))] := hl
  unfold pX2_passMinute at hf
  refine lv_aload_n hx hb dX2_passMinute_0 rfl (lv_at hl 0 rfl) ?_
  obtain ⟨y1, q2, hf⟩ := bd_use hf
  have hfo : Foc (WDay z a1 m1) (WDay z a1 m1) (WDay z a1 y1) (WDay z a1 y1) := foc_all
  refine z_goV (ws1 := (WDay z a1 y1)) (va_runV (As := []) (rest := []) ⟨hx, hb, hml, hown, hts⟩ (tX2_lineUp l D z tt a1 m1  fu y1 q2 _) (cwV 0 hts (gV4 aw447 aw448 aw449 aw46 aw450) rfl rfl rfl (by decide +kernel) ⟨Nat.le_of_ble_eq_true rfl, Nat.le_of_ble_eq_true rfl⟩) (z_preV hK hP hD hS hA hT hN hfo (va_recv hK hP (ci := 2) (q0 := 0) rfl rfl)) rfl rfl hl.1 rfl (lv_room (Nat.le_of_ble_eq_true rfl)) dX2_passMinute_1 ⟨Nat.zero_le _, Nat.zero_le _⟩) hP hD hS hA hfo (fun H locs hP hD hS => ?_)
  refine lv_aload_n hx hb dX2_passMinute_4 rfl (lv_at hl 0 rfl) ?_
  obtain ⟨y3, q4, hf⟩ := bd_use hf
  have hfo : Foc (WDay z a1 y1) (WDay z a1 y1) (WDay z a1 y3) (WDay z a1 y3) := foc_all
  refine z_goV (ws1 := (WDay z a1 y3)) (va_runV (As := []) (rest := []) ⟨hx, hb, hml, hown, hts⟩ (tX2_loseImpatient l D z tt a1 y1  fu y3 q4 _) (cwV 0 hts (gV4 aw451 aw452 aw453 aw46 aw454) rfl rfl rfl (by decide +kernel) ⟨Nat.le_of_ble_eq_true rfl, Nat.le_of_ble_eq_true rfl⟩) (z_preV hK hP hD hS hA hT hN hfo (va_recv hK hP (ci := 2) (q0 := 0) rfl rfl)) rfl rfl hl.1 rfl (lv_room (Nat.le_of_ble_eq_true rfl)) dX2_passMinute_5 ⟨Nat.zero_le _, Nat.zero_le _⟩) hP hD hS hA hfo (fun H locs hP hD hS => ?_)
  refine lv_iconst (v := 0) hx hb dX2_passMinute_8 (by decide) ?_
  refine lv_istore_n (lv' := [(1, .int 0), (0, .ref (a1 0))]) hx hb dX2_passMinute_9 rfl hl (by decide) rfl (fun ls hl => ?_)
  obtain ⟨F7, eF7, hf⟩ := zl2_use hf
  have L10_F7 : ∀ (n : Nat) (x5 : Int32) (y6 : Mem) (H : Heap) (locs : List Loc), va_P D vwCl (WDay z a1 y6) H → va_D A (WDay z a1 y6) → va_S A s.heap H locs → ∀ (ls : Array Slot), lv_has ls 2 [(0, .ref (a1 0)), (1, .int x5)] → zl2 F7 n x5 y6 = some m1' → GV p l e (headSpec wsX2_passMinute ({ frames := 3, cells := 0, slots := 0, locals := 70 } : Room)).room s m ([.ref (a1 0)] : List Value).toArray below meth c A D z (WDay z a1 m1') H locs (F0 m 10 ls []) := by
    intro n
    induction n with
    | zero =>
      intro x5 y6 H locs hP hD hS ls hl hf
      exact no_none hf
    | succ n ih9 =>
      intro x5 y6 H locs hP hD hS ls hl hf
      have hf := zl2_s eF7 hf
      refine lv_iload_n hx hb dX2_passMinute_10 rfl (lv_at hl 1 rfl) ?_
      refine lv_aload_n hx hb dX2_passMinute_11 rfl (lv_at hl 0 rfl) ?_
      refine va_get (D := D) (ci := 2) (v := .int (y6 0 5)) (C := RX2) (T := TX2) (N := 8) hx hb hts iX2 hown hK hP 0 rfl rfl 5 (by decide) (hts _ aw168) (fun _ h9 => h9) rfl dX2_passMinute_12 ?_
      refine lv_icmp_ge (tgt := 47) hx hb dX2_passMinute_15 (by decide) (fun c10 => ?_) (fun c10 => ?_)
      · have hf := if_t c10 hf
        refine lv_aload_n hx hb dX2_passMinute_47 rfl (lv_at hl 0 rfl) ?_
        obtain ⟨y11, q12, hf⟩ := bd_use hf
        have hfo : Foc (WDay z a1 y6) (WDay z a1 y6) (WDay z a1 y11) (WDay z a1 y11) := foc_all
        refine z_goV (ws1 := (WDay z a1 y11)) (va_runV (As := []) (rest := []) ⟨hx, hb, hml, hown, hts⟩ (tX2_closeUp l D z tt a1 y6  fu y11 q12 _) (cwV 0 hts (gV4 aw455 aw456 aw457 aw46 aw458) rfl rfl rfl (by decide +kernel) ⟨Nat.le_of_ble_eq_true rfl, Nat.le_of_ble_eq_true rfl⟩) (z_preV hK hP hD hS hA hT hN hfo (va_recv hK hP (ci := 2) (q0 := 0) rfl rfl)) rfl rfl hl.1 rfl (lv_room (Nat.le_of_ble_eq_true rfl)) dX2_passMinute_48 ⟨Nat.zero_le _, Nat.zero_le _⟩) hP hD hS hA hfo (fun H locs hP hD hS => ?_)
        refine lv_aload_n hx hb dX2_passMinute_51 rfl (lv_at hl 0 rfl) ?_
        obtain ⟨y13, q14, hf⟩ := bd_use hf
        have hfo : Foc (WDay z a1 y11) (WDay z a1 y11) (WDay z a1 y13) (WDay z a1 y13) := foc_all
        refine z_goV (ws1 := (WDay z a1 y13)) (va_runV (As := []) (rest := []) ⟨hx, hb, hml, hown, hts⟩ (tX2_coolDown l D z tt a1 y11  fu y13 q14 _) (cwV 0 hts (gV4 aw495 aw496 aw497 aw46 aw498) rfl rfl rfl (by decide +kernel) ⟨Nat.le_of_ble_eq_true rfl, Nat.le_of_ble_eq_true rfl⟩) (z_preV hK hP hD hS hA hT hN hfo (va_recv hK hP (ci := 2) (q0 := 0) rfl rfl)) rfl rfl hl.1 rfl (lv_room (Nat.le_of_ble_eq_true rfl)) dX2_passMinute_52 ⟨Nat.zero_le _, Nat.zero_le _⟩) hP hD hS hA hfo (fun H locs hP hD hS => ?_)
        refine lv_aload_n hx hb dX2_passMinute_55 rfl (lv_at hl 0 rfl) ?_
        refine lv_dup hx hb dX2_passMinute_56 rfl ?_
        refine va_get (D := D) (ci := 2) (v := .int (y13 0 6)) (C := RX2) (T := TX2) (N := 8) hx hb hts iX2 hown hK hP 0 rfl rfl 6 (by decide) (hts _ aw170) (fun _ h9 => h9) rfl dX2_passMinute_57 ?_
        refine lv_iconst (v := 1) hx hb dX2_passMinute_60 (by decide) ?_
        refine lv_iadd hx hb dX2_passMinute_61 ?_
        refine z_put (ci := 2) (v := .int ((y13 0 6) + 1)) (ty := .int) (C := RX2) (T := TX2) (N := 8) hx hb hts iX2 tyX2 tyX2_ok nmX2 hown hK hP hD hS 0 rfl rfl 6 (by decide) (hts _ aw170) (fun _ h9 => h9) rfl (by decide +kernel) rfl rfl (Nat.le_of_ble_eq_true rfl) dX2_passMinute_62 (fun (w9 : Mem) => (WDay z a1 w9)) (up2 y13 0 6 ((y13 0 6) + 1)) rfl (fun y15 ey15 H locs hP hD hS => ?_)
        have hf := lt_use ey15 hf
        obtain rfl := so1 hf
        exact ret_v hx hb hr hlocks hK hP hD hS dX2_passMinute_65
      · have hf := if_f c10 hf
        refine lv_aload_n hx hb dX2_passMinute_18 rfl (lv_at hl 0 rfl) ?_
        refine lv_aload_n hx hb dX2_passMinute_19 rfl (lv_at hl 0 rfl) ?_
        refine va_get (D := D) (ci := 2) (v := .ref (a1 2)) (C := RX2) (T := TX2) (N := 8) hx hb hts iX2 hown hK hP 0 rfl rfl 3 (by decide) (hts _ aw162) (fun _ h9 => h9) rfl dX2_passMinute_20 ?_
        refine lv_iload_n hx hb dX2_passMinute_23 rfl (lv_at hl 1 rfl) ?_
        obtain ⟨h16, hf⟩ := ck_use hf
        refine z_iald hx hb hK hP 2 rfl h16 dX2_passMinute_24 ?_
        obtain ⟨r17, y18, q19, hf⟩ := bd2_use hf
        have hfo : Foc (WDay z a1 y6) (WDay z a1 y6) (WDay z a1 y18) (WDay z a1 y18) := foc_all
        refine z_goI (ws1 := (WDay z a1 y18)) (va_runV (As := [.int (y6 2 x5.toNatClampNeg)]) (rest := []) ⟨hx, hb, hml, hown, hts⟩ (tX2_serve l D z tt a1 y6 (y6 2 x5.toNatClampNeg) fu r17 y18 q19 _) (cwV 1 hts (gV4 aw459 aw460 aw461 aw46 aw462) rfl rfl rfl (by decide +kernel) ⟨Nat.le_of_ble_eq_true rfl, Nat.le_of_ble_eq_true rfl⟩) (z_preV hK hP hD hS hA hT hN hfo (va_recv hK hP (ci := 2) (q0 := 0) rfl rfl)) rfl rfl hl.1 rfl (lv_room (Nat.le_of_ble_eq_true rfl)) dX2_passMinute_25 ⟨Nat.zero_le _, Nat.zero_le _⟩) hP hD hS hA hfo (fun H locs hP hD hS => ?_)
        refine lv_if_ne (tgt := 41) hx hb dX2_passMinute_28 (by decide) (fun c20 => ?_) (fun c20 => ?_)
        · have hf := if_f c20 hf
          obtain ⟨x21, ex21⟩ : ∃ y : Int32, y = x5 + 1 := ⟨_, rfl⟩
          have hf := lt_use ex21 hf
          refine lv_iinc (v := x21) (lv' := [(1, .int x21), (0, .ref (a1 0))]) hx hb dX2_passMinute_41 hl (k := 1) rfl (by rw [ex21]; rfl) (by decide) rfl (fun ls hl => ?_)
          refine lv_goto (tgt := 10) hx hb dX2_passMinute_44 (by decide) ?_
          exact ih9 _ _ _ _ hP hD hS _ (lv_sub hl [1, 0] rfl) hf
        · have hf := if_t c20 hf
          refine lv_aload_n hx hb dX2_passMinute_31 rfl (lv_at hl 0 rfl) ?_
          refine lv_aload_n hx hb dX2_passMinute_32 rfl (lv_at hl 0 rfl) ?_
          refine va_get (D := D) (ci := 2) (v := .ref (a1 2)) (C := RX2) (T := TX2) (N := 8) hx hb hts iX2 hown hK hP 0 rfl rfl 3 (by decide) (hts _ aw162) (fun _ h9 => h9) rfl dX2_passMinute_33 ?_
          refine lv_iload_n hx hb dX2_passMinute_36 rfl (lv_at hl 1 rfl) ?_
          obtain ⟨h22, hf⟩ := ck_use hf
          refine z_iald hx hb hK hP 2 rfl h22 dX2_passMinute_37 ?_
          obtain ⟨y23, q24, hf⟩ := bd_use hf
          have hfo : Foc (WDay z a1 y18) (WDay z a1 y18) (WDay z a1 y23) (WDay z a1 y23) := foc_all
          refine z_goV (ws1 := (WDay z a1 y23)) (va_runV (As := [.int (y18 2 x5.toNatClampNeg)]) (rest := []) ⟨hx, hb, hml, hown, hts⟩ (tX2_boil l D z tt a1 y18 (y18 2 x5.toNatClampNeg) fu y23 q24 _) (cwV 1 hts (gV4 aw471 aw472 aw473 aw46 aw474) rfl rfl rfl (by decide +kernel) ⟨Nat.le_of_ble_eq_true rfl, Nat.le_of_ble_eq_true rfl⟩) (z_preV hK hP hD hS hA hT hN hfo (va_recv hK hP (ci := 2) (q0 := 0) rfl rfl)) rfl rfl hl.1 rfl (lv_room (Nat.le_of_ble_eq_true rfl)) dX2_passMinute_38 ⟨Nat.zero_le _, Nat.zero_le _⟩) hP hD hS hA hfo (fun H locs hP hD hS => ?_)
          obtain ⟨x25, ex25⟩ : ∃ y : Int32, y = x5 + 1 := ⟨_, rfl⟩
          have hf := lt_use ex25 hf
          refine lv_iinc (v := x25) (lv' := [(1, .int x25), (0, .ref (a1 0))]) hx hb dX2_passMinute_41 hl (k := 1) rfl (by rw [ex25]; rfl) (by decide) rfl (fun ls hl => ?_)
          refine lv_goto (tgt := 10) hx hb dX2_passMinute_44 (by decide) ?_
          exact ih9 _ _ _ _ hP hD hS _ (lv_sub hl [1, 0] rfl) hf
  exact L10_F7 fu _ _ _ _ hP hD hS _ (lv_sub hl [1, 0] rfl) hf
def pX2_pass (fu : Nat) (m1 : Mem) (p1 : Int32) : Option Mem :=
  zl2 (fun g4 (x1 : Int32) (y2 : Mem) =>
    if p1 ≤ x1 then
      some y2
    else
      bd (pX2_isOver fu y2) fun r7 =>
      if r7 = 0 then
        bd (pX2_passMinute fu y2) fun y10 =>
        lt' (x1 + 1) fun x12 =>
        g4 x12 y10
      else
        some y2) fu 0 m1
set_option maxHeartbeats 4000000 in
set_option maxRecDepth 100000 in
theorem tX2_pass (l : Launch) (D : va_G) (z tt : Nat → Nat) (a1 : Nat → Nat) (m1 : Mem) (p1 : Int32) (fu : Nat) (m1' : Mem) (hf : pX2_pass fu m1 p1 = some m1') : MetV l yX2_pass wsX2_pass ({ frames := 4, cells := 0, slots := 0, locals := 91 } : Room) D z tt ([.ref (a1 0), .int p1] : List Value) (WDay z a1 m1) (WDay z a1 m1') := by
  intro sz
  refine Met.ofW (cc := cX2_pass) (maxL := 3) (ret := none) (by decide) rfl ?_
  intro p e s m args below meth c s₁ B hml hv
  obtain ⟨rfl, hsz, hP, hK, hD0, hT, hN⟩ := hv
  have hx := B.exec
  have hb := B.bytes
  have hr := B.returns
  have hts : ∀ w ∈ wsA, w.before ([.ref (a1 0), .int p1] : List Value).toArray s = true := fun w h => atoms_spec (ws := wsX2_pass) B.pre w (List.mem_cons_of_mem _ h)
  have hown : s.vm.findClass RX2 = some m.cls := findClass_of_methodNamed B.named
  have hlocks := B.notSynchronized
  subst hsz
  have hD := hD0.self (sz := s.heap.size)
  generalize hAe : va_A (WDay z a1 m1) s.heap.size = A at hD hT ⊢
  have hA : ∀ q : Nat, s.heap.size ≤ q → A q := fun q h => by rw [← hAe]; exact Or.inr h
  have hS : va_S A s.heap s.heap [] := va_S.rf
  have hl := lv_entry ([.ref (a1 0), .int p1] : List Value) (n := 3) (Nat.le_of_ble_eq_true rfl)
  rw [lg_entry_eq]
  generalize (lg_sl ([.ref (a1 0), .int p1] : List Value) ++ List.replicate (3 - (lg_sl ([.ref (a1 0), .int p1] : List Value)).length) Slot.unset).toArray = ls at hl ⊢
  have hl : lv_has ls 3 [(0, .ref (a1 0)), (1, .int p1)] := hl
  unfold pX2_pass at hf
  refine lv_iconst (v := 0) hx hb dX2_pass_0 (by decide) ?_
  refine lv_istore_n (lv' := [(2, .int 0), (0, .ref (a1 0)), (1, .int p1)]) hx hb dX2_pass_1 rfl hl (by decide) rfl (fun ls hl => ?_)
  obtain ⟨F3, eF3, hf⟩ := zl2_use hf
  have L2_F3 : ∀ (n : Nat) (x1 : Int32) (y2 : Mem) (H : Heap) (locs : List Loc), va_P D vwCl (WDay z a1 y2) H → va_D A (WDay z a1 y2) → va_S A s.heap H locs → ∀ (ls : Array Slot), lv_has ls 3 [(0, .ref (a1 0)), (1, .int p1), (2, .int x1)] → zl2 F3 n x1 y2 = some m1' → GV p l e (headSpec wsX2_pass ({ frames := 4, cells := 0, slots := 0, locals := 91 } : Room)).room s m ([.ref (a1 0), .int p1] : List Value).toArray below meth c A D z (WDay z a1 m1') H locs (F0 m 2 ls []) := by
    intro n
    induction n with
    | zero =>
      intro x1 y2 H locs hP hD hS ls hl hf
      exact no_none hf
    | succ n ih5 =>
      intro x1 y2 H locs hP hD hS ls hl hf
      have hf := zl2_s eF3 hf
      refine lv_iload_n hx hb dX2_pass_2 rfl (lv_at hl 2 rfl) ?_
      refine lv_iload_n hx hb dX2_pass_3 rfl (lv_at hl 1 rfl) ?_
      refine lv_icmp_ge (tgt := 24) hx hb dX2_pass_4 (by decide) (fun c6 => ?_) (fun c6 => ?_)
      · have hf := if_t c6 hf
        obtain rfl := so1 hf
        exact ret_v hx hb hr hlocks hK hP hD hS dX2_pass_24
      · have hf := if_f c6 hf
        refine lv_aload_n hx hb dX2_pass_7 rfl (lv_at hl 0 rfl) ?_
        obtain ⟨r7, q8, hf⟩ := bd_use hf
        have hfo : Foc (WDay z a1 y2) (WDay z a1 y2) (WDay z a1 y2) (WDay z a1 y2) := foc_all
        refine z_goI (ws1 := (WDay z a1 y2)) (va_runV (As := []) (rest := []) ⟨hx, hb, hml, hown, hts⟩ (tX2_isOver l D z tt a1 y2  fu r7 q8 _) (cwV 0 hts (gV4 aw442 aw423 aw424 aw46 aw425) rfl rfl rfl (by decide +kernel) ⟨Nat.le_of_ble_eq_true rfl, Nat.le_of_ble_eq_true rfl⟩) (z_preV hK hP hD hS hA hT hN hfo (va_recv hK hP (ci := 2) (q0 := 0) rfl rfl)) rfl rfl hl.1 rfl (lv_room (Nat.le_of_ble_eq_true rfl)) dX2_pass_8 ⟨Nat.zero_le _, Nat.zero_le _⟩) hP hD hS hA hfo (fun H locs hP hD hS => ?_)
        refine lv_if_ne (tgt := 24) hx hb dX2_pass_11 (by decide) (fun c9 => ?_) (fun c9 => ?_)
        · have hf := if_f c9 hf
          obtain rfl := so1 hf
          exact ret_v hx hb hr hlocks hK hP hD hS dX2_pass_24
        · have hf := if_t c9 hf
          refine lv_aload_n hx hb dX2_pass_14 rfl (lv_at hl 0 rfl) ?_
          obtain ⟨y10, q11, hf⟩ := bd_use hf
          have hfo : Foc (WDay z a1 y2) (WDay z a1 y2) (WDay z a1 y10) (WDay z a1 y10) := foc_all
          refine z_goV (ws1 := (WDay z a1 y10)) (va_runV (As := []) (rest := []) ⟨hx, hb, hml, hown, hts⟩ (tX2_passMinute l D z tt a1 y2  fu y10 q11 _) (cwV 0 hts (gV4 aw443 aw444 aw445 aw46 aw446) rfl rfl rfl (by decide +kernel) ⟨Nat.le_of_ble_eq_true rfl, Nat.le_of_ble_eq_true rfl⟩) (z_preV hK hP hD hS hA hT hN hfo (va_recv hK hP (ci := 2) (q0 := 0) rfl rfl)) rfl rfl hl.1 rfl (lv_room (Nat.le_of_ble_eq_true rfl)) dX2_pass_15 ⟨Nat.zero_le _, Nat.zero_le _⟩) hP hD hS hA hfo (fun H locs hP hD hS => ?_)
          obtain ⟨x12, ex12⟩ : ∃ y : Int32, y = x1 + 1 := ⟨_, rfl⟩
          have hf := lt_use ex12 hf
          refine lv_iinc (v := x12) (lv' := [(2, .int x12), (0, .ref (a1 0)), (1, .int p1)]) hx hb dX2_pass_18 hl (k := 2) rfl (by rw [ex12]; rfl) (by decide) rfl (fun ls hl => ?_)
          refine lv_goto (tgt := 2) hx hb dX2_pass_21 (by decide) ?_
          exact ih5 _ _ _ _ hP hD hS _ (lv_sub hl [1, 2, 0] rfl) hf
  exact L2_F3 fu _ _ _ _ hP hD hS _ (lv_sub hl [1, 2, 0] rfl) hf
def pX2_kindsThatFill (fu : Nat) (m1 : Mem) (p1 : Int32) : Option Int32 :=
  zl2 (fun g4 (x1 : Int32) (x2 : Int32) =>
    if 7 ≤ x2 then
      some x1
    else
      if (m1 0 5) ≤ 0 then
        some x1
      else
        ck (m1 2 0) 8 <|
        bd (pX2_upTo fu m1 ((m1 2 0).toNatClampNeg) x2) fun r9 =>
        if r9 = p1 then
          lt' ((x1 ||| (1 <<< (x2 &&& 31))) : Int32) fun x13 =>
          lt' (x2 + 1) fun x14 =>
          g4 x13 x14
        else
          lt' (x2 + 1) fun x12 =>
          g4 x1 x12) fu 0 0
set_option maxHeartbeats 4000000 in
set_option maxRecDepth 100000 in
theorem tX2_kindsThatFill (l : Launch) (D : va_G) (z tt : Nat → Nat) (a1 : Nat → Nat) (m1 : Mem) (p1 : Int32) (fu : Nat) (rr : Int32) (hf : pX2_kindsThatFill fu m1 p1 = some rr) : MetI l yX2_kindsThatFill wsX2_kindsThatFill ({ frames := 2, cells := 0, slots := 0, locals := 46 } : Room) D z tt ([.ref (a1 0), .int p1] : List Value) (WDay z a1 m1) rr (WDay z a1 m1) := by
  intro sz
  refine Met.ofW (cc := cX2_kindsThatFill) (maxL := 4) (ret := (some .int)) (by decide) rfl ?_
  intro p e s m args below meth c s₁ B hml hv
  obtain ⟨rfl, hsz, hP, hK, hD0, hT, hN⟩ := hv
  have hx := B.exec
  have hb := B.bytes
  have hr := B.returns
  have hts : ∀ w ∈ wsA, w.before ([.ref (a1 0), .int p1] : List Value).toArray s = true := fun w h => atoms_spec (ws := wsX2_kindsThatFill) B.pre w (List.mem_cons_of_mem _ h)
  have hown : s.vm.findClass RX2 = some m.cls := findClass_of_methodNamed B.named
  have hlocks := B.notSynchronized
  subst hsz
  have hD := hD0.self (sz := s.heap.size)
  generalize hAe : va_A (WDay z a1 m1) s.heap.size = A at hD hT ⊢
  have hA : ∀ q : Nat, s.heap.size ≤ q → A q := fun q h => by rw [← hAe]; exact Or.inr h
  have hS : va_S A s.heap s.heap [] := va_S.rf
  have hl := lv_entry ([.ref (a1 0), .int p1] : List Value) (n := 4) (Nat.le_of_ble_eq_true rfl)
  rw [lg_entry_eq]
  generalize (lg_sl ([.ref (a1 0), .int p1] : List Value) ++ List.replicate (4 - (lg_sl ([.ref (a1 0), .int p1] : List Value)).length) Slot.unset).toArray = ls at hl ⊢
  have hl : lv_has ls 4 [(0, .ref (a1 0)), (1, .int p1)] := hl
  unfold pX2_kindsThatFill at hf
  refine lv_iconst (v := 0) hx hb dX2_kindsThatFill_0 (by decide) ?_
  refine lv_istore_n (lv' := [(2, .int 0), (0, .ref (a1 0)), (1, .int p1)]) hx hb dX2_kindsThatFill_1 rfl hl (by decide) rfl (fun ls hl => ?_)
  refine lv_iconst (v := 0) hx hb dX2_kindsThatFill_2 (by decide) ?_
  refine lv_istore_n (lv' := [(3, .int 0), (2, .int 0), (0, .ref (a1 0)), (1, .int p1)]) hx hb dX2_kindsThatFill_3 rfl hl (by decide) rfl (fun ls hl => ?_)
  obtain ⟨F3, eF3, hf⟩ := zl2_use hf
  have L4_F3 : ∀ (n : Nat) (x1 : Int32) (x2 : Int32) (H : Heap) (locs : List Loc), va_P D vwCl (WDay z a1 m1) H → va_D A (WDay z a1 m1) → va_S A s.heap H locs → ∀ (ls : Array Slot), lv_has ls 4 [(0, .ref (a1 0)), (1, .int p1), (2, .int x1), (3, .int x2)] → zl2 F3 n x1 x2 = some rr → GI p l e (headSpec wsX2_kindsThatFill ({ frames := 2, cells := 0, slots := 0, locals := 46 } : Room)).room s m ([.ref (a1 0), .int p1] : List Value).toArray below meth c A D z rr (WDay z a1 m1) H locs (F0 m 4 ls []) := by
    intro n
    induction n with
    | zero =>
      intro x1 x2 H locs hP hD hS ls hl hf
      exact no_none hf
    | succ n ih5 =>
      intro x1 x2 H locs hP hD hS ls hl hf
      have hf := zl2_s eF3 hf
      refine lv_iload_n hx hb dX2_kindsThatFill_4 rfl (lv_at hl 3 rfl) ?_
      refine lv_bipush (v := 7) hx hb dX2_kindsThatFill_5 (by decide) ?_
      refine lv_icmp_ge (tgt := 49) hx hb dX2_kindsThatFill_7 (by decide) (fun c6 => ?_) (fun c6 => ?_)
      · have hf := if_t c6 hf
        refine lv_iload_n hx hb dX2_kindsThatFill_49 rfl (lv_at hl 2 rfl) ?_
        obtain rfl := so1 hf
        exact ret_i hx hb hr hlocks hK hP hD hS dX2_kindsThatFill_50
      · have hf := if_f c6 hf
        refine lv_aload_n hx hb dX2_kindsThatFill_10 rfl (lv_at hl 0 rfl) ?_
        refine va_get (D := D) (ci := 2) (v := .int (m1 0 5)) (C := RX2) (T := TX2) (N := 8) hx hb hts iX2 hown hK hP 0 rfl rfl 5 (by decide) (hts _ aw168) (fun _ h9 => h9) rfl dX2_kindsThatFill_11 ?_
        refine lv_if_le (tgt := 49) hx hb dX2_kindsThatFill_14 (by decide) (fun c7 => ?_) (fun c7 => ?_)
        · have hf := if_t c7 hf
          refine lv_iload_n hx hb dX2_kindsThatFill_49 rfl (lv_at hl 2 rfl) ?_
          obtain rfl := so1 hf
          exact ret_i hx hb hr hlocks hK hP hD hS dX2_kindsThatFill_50
        · have hf := if_f c7 hf
          refine lv_aload_n hx hb dX2_kindsThatFill_17 rfl (lv_at hl 0 rfl) ?_
          refine lv_aload_n hx hb dX2_kindsThatFill_18 rfl (lv_at hl 0 rfl) ?_
          refine va_get (D := D) (ci := 2) (v := .ref (a1 13)) (C := RX2) (T := TX2) (N := 8) hx hb hts iX2 hown hK hP 0 rfl rfl 1 (by decide) (hts _ aw154) (fun _ h9 => h9) rfl dX2_kindsThatFill_19 ?_
          refine lv_aload_n hx hb dX2_kindsThatFill_22 rfl (lv_at hl 0 rfl) ?_
          refine va_get (D := D) (ci := 2) (v := .ref (a1 2)) (C := RX2) (T := TX2) (N := 8) hx hb hts iX2 hown hK hP 0 rfl rfl 3 (by decide) (hts _ aw162) (fun _ h9 => h9) rfl dX2_kindsThatFill_23 ?_
          refine lv_iconst (v := 0) hx hb dX2_kindsThatFill_26 (by decide) ?_
          refine z_ialdc hx hb hK hP 2 rfl (i := 0) (k := 0) (by decide) (Nat.le_of_ble_eq_true rfl) dX2_kindsThatFill_27 ?_
          obtain ⟨h8, hf⟩ := ck_use hf
          refine z_ald hx hb hK hP 13 1 (C := "FilledForOne$Comer") (g := (fun j => a1 (5 + j))) rfl rfl h8 dX2_kindsThatFill_28 ?_
          refine lv_iload_n hx hb dX2_kindsThatFill_29 rfl (lv_at hl 3 rfl) ?_
          obtain ⟨r9, q10, hf⟩ := bd_use hf
          have hfo : Foc (WDay z a1 m1) (WDay z a1 m1) (WDay z a1 m1) (WDay z a1 m1) := foc_all
          refine z_goI (ws1 := (WDay z a1 m1)) (va_runV (As := [.ref (a1 (5 + (m1 2 0).toNatClampNeg)), .int x2]) (rest := []) ⟨hx, hb, hml, hown, hts⟩ (tX2_upTo l D z tt a1 m1 ((m1 2 0).toNatClampNeg) x2 fu r9 q10 _) (cwV 2 hts (gV4 aw483 aw375 aw376 aw46 aw377) rfl rfl rfl (by decide +kernel) ⟨Nat.le_of_ble_eq_true rfl, Nat.le_of_ble_eq_true rfl⟩) (z_preV hK hP hD hS hA hT hN hfo (va_recv hK hP (ci := 2) (q0 := 0) rfl rfl)) rfl rfl hl.1 rfl (lv_room (Nat.le_of_ble_eq_true rfl)) dX2_kindsThatFill_30 ⟨Nat.zero_le _, Nat.zero_le _⟩) hP hD hS hA hfo (fun H locs hP hD hS => ?_)
          refine lv_iload_n hx hb dX2_kindsThatFill_33 rfl (lv_at hl 1 rfl) ?_
          refine lv_icmp_ne (tgt := 43) hx hb dX2_kindsThatFill_34 (by decide) (fun c11 => ?_) (fun c11 => ?_)
          · have hf := if_f c11 hf
            obtain ⟨x12, ex12⟩ : ∃ y : Int32, y = x2 + 1 := ⟨_, rfl⟩
            have hf := lt_use ex12 hf
            refine lv_iinc (v := x12) (lv' := [(3, .int x12), (0, .ref (a1 0)), (1, .int p1), (2, .int x1)]) hx hb dX2_kindsThatFill_43 hl (k := 3) rfl (by rw [ex12]; rfl) (by decide) rfl (fun ls hl => ?_)
            refine lv_goto (tgt := 4) hx hb dX2_kindsThatFill_46 (by decide) ?_
            exact ih5 _ _ _ _ hP hD hS _ (lv_sub hl [1, 2, 3, 0] rfl) hf
          · have hf := if_t c11 hf
            refine lv_iload_n hx hb dX2_kindsThatFill_37 rfl (lv_at hl 2 rfl) ?_
            refine lv_iconst (v := 1) hx hb dX2_kindsThatFill_38 (by decide) ?_
            refine lv_iload_n hx hb dX2_kindsThatFill_39 rfl (lv_at hl 3 rfl) ?_
            refine lv_ishl hx hb dX2_kindsThatFill_40 ?_
            refine lv_ior hx hb dX2_kindsThatFill_41 ?_
            refine lv_topi (fun x13 ex13 => ?_)
            have hf := lt_use ex13 hf
            refine lv_istore_n (lv' := [(2, .int x13), (0, .ref (a1 0)), (1, .int p1), (3, .int x2)]) hx hb dX2_kindsThatFill_42 rfl hl (by decide) rfl (fun ls hl => ?_)
            obtain ⟨x14, ex14⟩ : ∃ y : Int32, y = x2 + 1 := ⟨_, rfl⟩
            have hf := lt_use ex14 hf
            refine lv_iinc (v := x14) (lv' := [(3, .int x14), (2, .int x13), (0, .ref (a1 0)), (1, .int p1)]) hx hb dX2_kindsThatFill_43 hl (k := 3) rfl (by rw [ex14]; rfl) (by decide) rfl (fun ls hl => ?_)
            refine lv_goto (tgt := 4) hx hb dX2_kindsThatFill_46 (by decide) ?_
            exact ih5 _ _ _ _ hP hD hS _ (lv_sub hl [2, 3, 1, 0] rfl) hf
  exact L4_F3 fu _ _ _ _ hP hD hS _ (lv_sub hl [2, 3, 1, 0] rfl) hf
