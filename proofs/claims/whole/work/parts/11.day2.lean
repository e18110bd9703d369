def pX2_someoneWantsTooMuch (fu : Nat) (m1 : Mem) : Option Int32 :=
  zl1 (fun g3 (x1 : Int32) =>
    if (m1 0 4) ≤ x1 then
      some 0
    else
      ck x1 8 <|
      if (m1 (5 + x1.toNatClampNeg) 3) ≤ (m1 1 0) then
        lt' (x1 + 1) fun x8 =>
        g3 x8
      else
        some 1) fu 0
set_option maxHeartbeats 4000000 in
set_option maxRecDepth 100000 in
theorem tX2_someoneWantsTooMuch (l : Launch) (D : va_G) (z tt : Nat → Nat) (a1 : Nat → Nat) (m1 : Mem)  (fu : Nat) (rr : Int32) (hf : pX2_someoneWantsTooMuch fu m1 = some rr) : MetI l yX2_someoneWantsTooMuch wsX2_someoneWantsTooMuch ({ frames := 0, cells := 0, slots := 0, locals := 0 } : Room) D z tt ([.ref (a1 0)] : List Value) (WDay z a1 m1) rr (WDay z a1 m1) := by
  intro sz
  refine Met.ofW (cc := cX2_someoneWantsTooMuch) (maxL := 2) (ret := (some .boolean)) (by decide) rfl ?_
  intro p e s m args below meth c s₁ B hml hv
  obtain ⟨rfl, hsz, hP, hK, hD0, hT, hN⟩ := hv
  have hx := B.exec
  have hb := B.bytes
  have hr := B.returns
  have hts : ∀ w ∈ wsA, w.before ([.ref (a1 0)] : List Value).toArray s = true := fun w h => atoms_spec (ws := wsX2_someoneWantsTooMuch) B.pre w (List.mem_cons_of_mem _ h)
  have hown : s.vm.findClass RX2 = some m.cls := findClass_of_methodNamed B.named
  have hlocks := B.notSynchronized
  subst hsz
  have hD := hD0.self (sz := s.heap.size)
  generalize hAe : va_A (WDay z a1 m1) s.heap.size = A at hD hT ⊢
  have hA : ∀ q : Nat, s.heap.size ≤ q → A q := fun q h => by rw [← hAe]; exact Or.inr h
  have hS : va_S A s.heap s.heap [] := va_S.rf
  have hl := lv_entry ([.ref (a1 0)] : List Value) (n := 2) (Nat.le_of_ble_eq_true rfl)
  rw [lg_entry_eq]
  generalize (lg_sl ([.ref (a1 0)] : List Value) ++ List.replicate (2 - (lg_sl ([.ref (a1 0)] : List Value)).length) Slot.unset).toArray = ls at hl ⊢
  have hl : lv_has ls 2 [(0, .ref (a1 0))] := hl
  unfold pX2_someoneWantsTooMuch at hf
  refine lv_iconst (v := 0) hx hb dX2_someoneWantsTooMuch_0 (by decide) ?_
  refine lv_istore_n (lv' := [(1, .int 0), (0, .ref (a1 0))]) hx hb dX2_someoneWantsTooMuch_1 rfl hl (by decide) rfl (fun ls hl => ?_)
  obtain ⟨F2, eF2, hf⟩ := zl1_use hf
  have L2_F2 : ∀ (n : Nat) (x1 : Int32) (H : Heap) (locs : List Loc), va_P D vwCl (WDay z a1 m1) H → va_D A (WDay z a1 m1) → va_S A s.heap H locs → ∀ (ls : Array Slot), lv_has ls 2 [(0, .ref (a1 0)), (1, .int x1)] → zl1 F2 n x1 = some rr → GI p l e (headSpec wsX2_someoneWantsTooMuch ({ frames := 0, cells := 0, slots := 0, locals := 0 } : Room)).room s m ([.ref (a1 0)] : List Value).toArray below meth c A D z rr (WDay z a1 m1) H locs (F0 m 2 ls []) := by
    intro n
    induction n with
    | zero =>
      intro x1 H locs hP hD hS ls hl hf
      exact no_none hf
    | succ n ih4 =>
      intro x1 H locs hP hD hS ls hl hf
      have hf := zl1_s eF2 hf
      refine lv_iload_n hx hb dX2_someoneWantsTooMuch_2 rfl (lv_at hl 1 rfl) ?_
      refine lv_aload_n hx hb dX2_someoneWantsTooMuch_3 rfl (lv_at hl 0 rfl) ?_
      refine va_get (D := D) (ci := 2) (v := .int (m1 0 4)) (C := RX2) (T := TX2) (N := 8) hx hb hts iX2 hown hK hP 0 rfl rfl 4 (by decide) (hts _ aw165) (fun _ h9 => h9) rfl dX2_someoneWantsTooMuch_4 ?_
      refine lv_icmp_ge (tgt := 36) hx hb dX2_someoneWantsTooMuch_7 (by decide) (fun c5 => ?_) (fun c5 => ?_)
      · have hf := if_t c5 hf
        refine lv_iconst (v := 0) hx hb dX2_someoneWantsTooMuch_36 (by decide) ?_
        obtain rfl := so1 hf
        exact ret_z hx hb hr hlocks hK hP hD hS (by decide) dX2_someoneWantsTooMuch_37
      · have hf := if_f c5 hf
        refine lv_aload_n hx hb dX2_someoneWantsTooMuch_10 rfl (lv_at hl 0 rfl) ?_
        refine va_get (D := D) (ci := 2) (v := .ref (a1 13)) (C := RX2) (T := TX2) (N := 8) hx hb hts iX2 hown hK hP 0 rfl rfl 1 (by decide) (hts _ aw154) (fun _ h9 => h9) rfl dX2_someoneWantsTooMuch_11 ?_
        refine lv_iload_n hx hb dX2_someoneWantsTooMuch_14 rfl (lv_at hl 1 rfl) ?_
        obtain ⟨h6, hf⟩ := ck_use hf
        refine z_ald hx hb hK hP 13 1 (C := "FilledForOne$Comer") (g := (fun j => a1 (5 + j))) rfl rfl h6 dX2_someoneWantsTooMuch_15 ?_
        refine va_get (D := D) (ci := 1) (v := .int (m1 (5 + x1.toNatClampNeg) 3)) (C := RX1) (T := TX1) (N := 7) hx hb hts iX1 hown hK hP (5 + x1.toNatClampNeg) (WDay_c z a1 m1 (vp_lt h6)) rfl 3 (by decide) (hts _ aw99) (fun _ h9 => h9) rfl dX2_someoneWantsTooMuch_16 ?_
        refine lv_aload_n hx hb dX2_someoneWantsTooMuch_19 rfl (lv_at hl 0 rfl) ?_
        refine va_get (D := D) (ci := 2) (v := .ref (a1 1)) (C := RX2) (T := TX2) (N := 8) hx hb hts iX2 hown hK hP 0 rfl rfl 0 (by decide) (hts _ aw150) (fun _ h9 => h9) rfl dX2_someoneWantsTooMuch_20 ?_
        refine lv_iconst (v := 0) hx hb dX2_someoneWantsTooMuch_23 (by decide) ?_
        refine z_ialdc hx hb hK hP 1 rfl (i := 0) (k := 0) (by decide) (Nat.le_of_ble_eq_true rfl) dX2_someoneWantsTooMuch_24 ?_
        refine lv_icmp_le (tgt := 30) hx hb dX2_someoneWantsTooMuch_25 (by decide) (fun c7 => ?_) (fun c7 => ?_)
        · have hf := if_t c7 hf
          obtain ⟨x8, ex8⟩ : ∃ y : Int32, y = x1 + 1 := ⟨_, rfl⟩
          have hf := lt_use ex8 hf
          refine lv_iinc (v := x8) (lv' := [(1, .int x8), (0, .ref (a1 0))]) hx hb dX2_someoneWantsTooMuch_30 hl (k := 1) rfl (by rw [ex8]; rfl) (by decide) rfl (fun ls hl => ?_)
          refine lv_goto (tgt := 2) hx hb dX2_someoneWantsTooMuch_33 (by decide) ?_
          exact ih4 _ _ _ hP hD hS _ (lv_sub hl [1, 0] rfl) hf
        · have hf := if_f c7 hf
          refine lv_iconst (v := 1) hx hb dX2_someoneWantsTooMuch_28 (by decide) ?_
          obtain rfl := so1 hf
          exact ret_z hx hb hr hlocks hK hP hD hS (by decide) dX2_someoneWantsTooMuch_29
  exact L2_F2 fu _ _ _ hP hD hS _ (lv_sub hl [1, 0] rfl) hf
def pX2_allWaited (fu : Nat) (m1 : Mem) : Option Int32 :=
  zl2 (fun g4 (x1 : Int32) (x2 : Int32) =>
    if (m1 0 4) ≤ x2 then
      some x1
    else
      ck x2 8 <|
      bd (pX1_waited fu (m1 (5 + x2.toNatClampNeg))) fun r8 =>
      lt' ((x1 + r8) : Int32) fun x10 =>
      lt' (x2 + 1) fun x11 =>
      g4 x10 x11) fu 0 0
set_option maxHeartbeats 4000000 in
set_option maxRecDepth 100000 in
theorem tX2_allWaited (l : Launch) (D : va_G) (z tt : Nat → Nat) (a1 : Nat → Nat) (m1 : Mem)  (fu : Nat) (rr : Int32) (hf : pX2_allWaited fu m1 = some rr) : MetI l yX2_allWaited wsX2_allWaited ({ frames := 1, cells := 0, slots := 0, locals := 20 } : Room) D z tt ([.ref (a1 0)] : List Value) (WDay z a1 m1) rr (WDay z a1 m1) := by
  intro sz
  refine Met.ofW (cc := cX2_allWaited) (maxL := 3) (ret := (some .int)) (by decide) rfl ?_
  intro p e s m args below meth c s₁ B hml hv
  obtain ⟨rfl, hsz, hP, hK, hD0, hT, hN⟩ := hv
  have hx := B.exec
  have hb := B.bytes
  have hr := B.returns
  have hts : ∀ w ∈ wsA, w.before ([.ref (a1 0)] : List Value).toArray s = true := fun w h => atoms_spec (ws := wsX2_allWaited) B.pre w (List.mem_cons_of_mem _ h)
  have hown : s.vm.findClass RX2 = some m.cls := findClass_of_methodNamed B.named
  have hlocks := B.notSynchronized
  subst hsz
  have hD := hD0.self (sz := s.heap.size)
  generalize hAe : va_A (WDay z a1 m1) s.heap.size = A at hD hT ⊢
  have hA : ∀ q : Nat, s.heap.size ≤ q → A q := fun q h => by rw [← hAe]; exact Or.inr h
  have hS : va_S A s.heap s.heap [] := va_S.rf
  have hl := lv_entry ([.ref (a1 0)] : List Value) (n := 3) (Nat.le_of_ble_eq_true rfl)
  rw [lg_entry_eq]
  generalize (lg_sl ([.ref (a1 0)] : List Value) ++ List.replicate (3 - (lg_sl ([.ref (a1 0)] : List Value)).length) Slot.unset).toArray = ls at hl ⊢
  have hl : lv_has ls 3 [(0, .ref (a1 0))] := hl
  unfold pX2_allWaited at hf
  refine lv_iconst (v := 0) hx hb dX2_allWaited_0 (by decide) ?_
  refine lv_istore_n (lv' := [(1, .int 0), (0, .ref (a1 0))]) hx hb dX2_allWaited_1 rfl hl (by decide) rfl (fun ls hl => ?_)
  refine lv_iconst (v := 0) hx hb dX2_allWaited_2 (by decide) ?_
  refine lv_istore_n (lv' := [(2, .int 0), (1, .int 0), (0, .ref (a1 0))]) hx hb dX2_allWaited_3 rfl hl (by decide) rfl (fun ls hl => ?_)
  obtain ⟨F3, eF3, hf⟩ := zl2_use hf
  have L4_F3 : ∀ (n : Nat) (x1 : Int32) (x2 : Int32) (H : Heap) (locs : List Loc), va_P D vwCl (WDay z a1 m1) H → va_D A (WDay z a1 m1) → va_S A s.heap H locs → ∀ (ls : Array Slot), lv_has ls 3 [(0, .ref (a1 0)), (1, .int x1), (2, .int x2)] → zl2 F3 n x1 x2 = some rr → GI p l e (headSpec wsX2_allWaited ({ frames := 1, cells := 0, slots := 0, locals := 20 } : Room)).room s m ([.ref (a1 0)] : List Value).toArray below meth c A D z rr (WDay z a1 m1) H locs (F0 m 4 ls []) := by
    intro n
    induction n with
    | zero =>
      intro x1 x2 H locs hP hD hS ls hl hf
      exact no_none hf
    | succ n ih5 =>
      intro x1 x2 H locs hP hD hS ls hl hf
      have hf := zl2_s eF3 hf
      refine lv_iload_n hx hb dX2_allWaited_4 rfl (lv_at hl 2 rfl) ?_
      refine lv_aload_n hx hb dX2_allWaited_5 rfl (lv_at hl 0 rfl) ?_
      refine va_get (D := D) (ci := 2) (v := .int (m1 0 4)) (C := RX2) (T := TX2) (N := 8) hx hb hts iX2 hown hK hP 0 rfl rfl 4 (by decide) (hts _ aw165) (fun _ h9 => h9) rfl dX2_allWaited_6 ?_
      refine lv_icmp_ge (tgt := 30) hx hb dX2_allWaited_9 (by decide) (fun c6 => ?_) (fun c6 => ?_)
      · have hf := if_t c6 hf
        refine lv_iload_n hx hb dX2_allWaited_30 rfl (lv_at hl 1 rfl) ?_
        obtain rfl := so1 hf
        exact ret_i hx hb hr hlocks hK hP hD hS dX2_allWaited_31
      · have hf := if_f c6 hf
        refine lv_iload_n hx hb dX2_allWaited_12 rfl (lv_at hl 1 rfl) ?_
        refine lv_aload_n hx hb dX2_allWaited_13 rfl (lv_at hl 0 rfl) ?_
        refine va_get (D := D) (ci := 2) (v := .ref (a1 13)) (C := RX2) (T := TX2) (N := 8) hx hb hts iX2 hown hK hP 0 rfl rfl 1 (by decide) (hts _ aw154) (fun _ h9 => h9) rfl dX2_allWaited_14 ?_
        refine lv_iload_n hx hb dX2_allWaited_17 rfl (lv_at hl 2 rfl) ?_
        obtain ⟨h7, hf⟩ := ck_use hf
        refine z_ald hx hb hK hP 13 1 (C := "FilledForOne$Comer") (g := (fun j => a1 (5 + j))) rfl rfl h7 dX2_allWaited_18 ?_
        obtain ⟨r8, q9, hf⟩ := bd_use hf
        have hfo : Foc (WDay z a1 m1) (WCom (a1 (5 + x2.toNatClampNeg)) (m1 (5 + x2.toNatClampNeg))) (WDay z a1 m1) (WCom (a1 (5 + x2.toNatClampNeg)) (m1 (5 + x2.toNatClampNeg))) := (foc_els (WDay_c z a1 m1 (vp_lt h7)))
        refine z_goI (ws1 := (WDay z a1 m1)) (va_runV (As := []) (rest := [.int x1]) ⟨hx, hb, hml, hown, hts⟩ (tX1_waited l D z tt (a1 (5 + x2.toNatClampNeg)) (m1 (5 + x2.toNatClampNeg))  fu r8 q9 _) (cwV 0 hts (gV4 aw532 aw394 aw395 aw47 aw396) rfl rfl rfl (by decide +kernel) ⟨Nat.le_of_ble_eq_true rfl, Nat.le_of_ble_eq_true rfl⟩) (z_preV hK hP hD hS hA hT hN hfo (va_recv hK hP (ci := 1) (q0 := (5 + x2.toNatClampNeg)) rfl (WDay_c z a1 m1 (vp_lt h7)))) rfl rfl hl.1 rfl (lv_room (Nat.le_of_ble_eq_true rfl)) dX2_allWaited_19 ⟨Nat.zero_le _, Nat.zero_le _⟩) hP hD hS hA hfo (fun H locs hP hD hS => ?_)
        refine lv_iadd hx hb dX2_allWaited_22 ?_
        refine lv_topi (fun x10 ex10 => ?_)
        have hf := lt_use ex10 hf
        refine lv_istore_n (lv' := [(1, .int x10), (0, .ref (a1 0)), (2, .int x2)]) hx hb dX2_allWaited_23 rfl hl (by decide) rfl (fun ls hl => ?_)
        obtain ⟨x11, ex11⟩ : ∃ y : Int32, y = x2 + 1 := ⟨_, rfl⟩
        have hf := lt_use ex11 hf
        refine lv_iinc (v := x11) (lv' := [(2, .int x11), (1, .int x10), (0, .ref (a1 0))]) hx hb dX2_allWaited_24 hl (k := 2) rfl (by rw [ex11]; rfl) (by decide) rfl (fun ls hl => ?_)
        refine lv_goto (tgt := 4) hx hb dX2_allWaited_27 (by decide) ?_
        exact ih5 _ _ _ _ hP hD hS _ (lv_sub hl [2, 1, 0] rfl) hf
  exact L4_F3 fu _ _ _ _ hP hD hS _ (lv_sub hl [2, 1, 0] rfl) hf
def pX2_cupsLeft (fu : Nat) (m1 : Mem) : Option Int32 :=
  zl2 (fun g4 (x1 : Int32) (x2 : Int32) =>
    bd (pX2_kettlesInUse fu m1) fun r6 =>
    if r6 ≤ x2 then
      some x1
    else
      ck x2 2 <|
      lt' ((x1 + (m1 (3 + x2.toNatClampNeg) 0)) : Int32) fun x10 =>
      lt' (x2 + 1) fun x11 =>
      g4 x10 x11) fu 0 0
set_option maxHeartbeats 4000000 in
set_option maxRecDepth 100000 in
theorem tX2_cupsLeft (l : Launch) (D : va_G) (z tt : Nat → Nat) (a1 : Nat → Nat) (m1 : Mem)  (fu : Nat) (rr : Int32) (hf : pX2_cupsLeft fu m1 = some rr) : MetI l yX2_cupsLeft wsX2_cupsLeft ({ frames := 1, cells := 0, slots := 0, locals := 20 } : Room) D z tt ([.ref (a1 0)] : List Value) (WDay z a1 m1) rr (WDay z a1 m1) := by
  intro sz
  refine Met.ofW (cc := cX2_cupsLeft) (maxL := 3) (ret := (some .int)) (by decide) rfl ?_
  intro p e s m args below meth c s₁ B hml hv
  obtain ⟨rfl, hsz, hP, hK, hD0, hT, hN⟩ := hv
  have hx := B.exec
  have hb := B.bytes
  have hr := B.returns
  have hts : ∀ w ∈ wsA, w.before ([.ref (a1 0)] : List Value).toArray s = true := fun w h => atoms_spec (ws := wsX2_cupsLeft) B.pre w (List.mem_cons_of_mem _ h)
  have hown : s.vm.findClass RX2 = some m.cls := findClass_of_methodNamed B.named
  have hlocks := B.notSynchronized
  subst hsz
  have hD := hD0.self (sz := s.heap.size)
  generalize hAe : va_A (WDay z a1 m1) s.heap.size = A at hD hT ⊢
  have hA : ∀ q : Nat, s.heap.size ≤ q → A q := fun q h => by rw [← hAe]; exact Or.inr h
  have hS : va_S A s.heap s.heap [] := va_S.rf
  have hl := lv_entry ([.ref (a1 0)] : List Value) (n := 3) (Nat.le_of_ble_eq_true rfl)
  rw [lg_entry_eq]
  generalize (lg_sl ([.ref (a1 0)] : List Value) ++ List.replicate (3 - (lg_sl ([.ref (a1 0)] : List Value)).length) Slot.unset).toArray = ls at hl ⊢
  have hl : lv_has ls 3 [(0, .ref (a1 0))] := hl
  unfold pX2_cupsLeft at hf
  refine lv_iconst (v := 0) hx hb dX2_cupsLeft_0 (by decide) ?_
  refine lv_istore_n (lv' := [(1, .int 0), (0, .ref (a1 0))]) hx hb dX2_cupsLeft_1 rfl hl (by decide) rfl (fun ls hl => ?_)
  refine lv_iconst (v := 0) hx hb dX2_cupsLeft_2 (by decide) ?_
  refine lv_istore_n (lv' := [(2, .int 0), (1, .int 0), (0, .ref (a1 0))]) hx hb dX2_cupsLeft_3 rfl hl (by decide) rfl (fun ls hl => ?_)
  obtain ⟨F3, eF3, hf⟩ := zl2_use hf
  have L4_F3 : ∀ (n : Nat) (x1 : Int32) (x2 : Int32) (H : Heap) (locs : List Loc), va_P D vwCl (WDay z a1 m1) H → va_D A (WDay z a1 m1) → va_S A s.heap H locs → ∀ (ls : Array Slot), lv_has ls 3 [(0, .ref (a1 0)), (1, .int x1), (2, .int x2)] → zl2 F3 n x1 x2 = some rr → GI p l e (headSpec wsX2_cupsLeft ({ frames := 1, cells := 0, slots := 0, locals := 20 } : Room)).room s m ([.ref (a1 0)] : List Value).toArray below meth c A D z rr (WDay z a1 m1) H locs (F0 m 4 ls []) := by
    intro n
    induction n with
    | zero =>
      intro x1 x2 H locs hP hD hS ls hl hf
      exact no_none hf
    | succ n ih5 =>
      intro x1 x2 H locs hP hD hS ls hl hf
      have hf := zl2_s eF3 hf
      refine lv_iload_n hx hb dX2_cupsLeft_4 rfl (lv_at hl 2 rfl) ?_
      refine lv_aload_n hx hb dX2_cupsLeft_5 rfl (lv_at hl 0 rfl) ?_
      obtain ⟨r6, q7, hf⟩ := bd_use hf
      have hfo : Foc (WDay z a1 m1) (WDay z a1 m1) (WDay z a1 m1) (WDay z a1 m1) := foc_all
      refine z_goI (ws1 := (WDay z a1 m1)) (va_runV (As := []) (rest := [.int x2]) ⟨hx, hb, hml, hown, hts⟩ (tX2_kettlesInUse l D z tt a1 m1  fu r6 q7 _) (cwV 0 hts (gV4 aw347 aw348 aw349 aw46 aw350) rfl rfl rfl (by decide +kernel) ⟨Nat.le_of_ble_eq_true rfl, Nat.le_of_ble_eq_true rfl⟩) (z_preV hK hP hD hS hA hT hN hfo (va_recv hK hP (ci := 2) (q0 := 0) rfl rfl)) rfl rfl hl.1 rfl (lv_room (Nat.le_of_ble_eq_true rfl)) dX2_cupsLeft_6 ⟨Nat.zero_le _, Nat.zero_le _⟩) hP hD hS hA hfo (fun H locs hP hD hS => ?_)
      refine lv_icmp_ge (tgt := 30) hx hb dX2_cupsLeft_9 (by decide) (fun c8 => ?_) (fun c8 => ?_)
      · have hf := if_t c8 hf
        refine lv_iload_n hx hb dX2_cupsLeft_30 rfl (lv_at hl 1 rfl) ?_
        obtain rfl := so1 hf
        exact ret_i hx hb hr hlocks hK hP hD hS dX2_cupsLeft_31
      · have hf := if_f c8 hf
        refine lv_iload_n hx hb dX2_cupsLeft_12 rfl (lv_at hl 1 rfl) ?_
        refine lv_aload_n hx hb dX2_cupsLeft_13 rfl (lv_at hl 0 rfl) ?_
        refine va_get (D := D) (ci := 2) (v := .ref (a1 14)) (C := RX2) (T := TX2) (N := 8) hx hb hts iX2 hown hK hP 0 rfl rfl 2 (by decide) (hts _ aw159) (fun _ h9 => h9) rfl dX2_cupsLeft_14 ?_
        refine lv_iload_n hx hb dX2_cupsLeft_17 rfl (lv_at hl 2 rfl) ?_
        obtain ⟨h9, hf⟩ := ck_use hf
        refine z_ald hx hb hK hP 14 2 (C := "FilledForOne$Kettle") (g := (fun j => a1 (3 + j))) rfl rfl h9 dX2_cupsLeft_18 ?_
        refine va_get (D := D) (ci := 3) (v := .int (m1 (3 + x2.toNatClampNeg) 0)) (C := RX3) (T := TX3) (N := 5) hx hb hts iX3 hown hK hP (3 + x2.toNatClampNeg) (WDay_k z a1 m1 (vp_lt h9)) rfl 0 (by decide) (hts _ aw133) (fun _ h9 => h9) rfl dX2_cupsLeft_19 ?_
        refine lv_iadd hx hb dX2_cupsLeft_22 ?_
        refine lv_topi (fun x10 ex10 => ?_)
        have hf := lt_use ex10 hf
        refine lv_istore_n (lv' := [(1, .int x10), (0, .ref (a1 0)), (2, .int x2)]) hx hb dX2_cupsLeft_23 rfl hl (by decide) rfl (fun ls hl => ?_)
        obtain ⟨x11, ex11⟩ : ∃ y : Int32, y = x2 + 1 := ⟨_, rfl⟩
        have hf := lt_use ex11 hf
        refine lv_iinc (v := x11) (lv' := [(2, .int x11), (1, .int x10), (0, .ref (a1 0))]) hx hb dX2_cupsLeft_24 hl (k := 2) rfl (by rw [ex11]; rfl) (by decide) rfl (fun ls hl => ?_)
        refine lv_goto (tgt := 4) hx hb dX2_cupsLeft_27 (by decide) ?_
        exact ih5 _ _ _ _ hP hD hS _ (lv_sub hl [2, 1, 0] rfl) hf
  exact L4_F3 fu _ _ _ _ hP hD hS _ (lv_sub hl [2, 1, 0] rfl) hf
def pX2_cost (fu : Nat) (m1 : Mem) : Option Int32 :=
  bd (pX2_allWaited fu m1) fun r1 =>
  bd (pX2_cupsLeft fu m1) fun r3 =>
  bd (pX2_comersWith fu m1 3) fun r5 =>
  some (((r1 * (m1 1 4)) + (r3 * (m1 1 5))) + (r5 * 9))
set_option maxHeartbeats 4000000 in
set_option maxRecDepth 100000 in
theorem tX2_cost (l : Launch) (D : va_G) (z tt : Nat → Nat) (a1 : Nat → Nat) (m1 : Mem)  (fu : Nat) (rr : Int32) (hf : pX2_cost fu m1 = some rr) : MetI l yX2_cost wsX2_cost ({ frames := 2, cells := 0, slots := 0, locals := 42 } : Room) D z tt ([.ref (a1 0)] : List Value) (WDay z a1 m1) rr (WDay z a1 m1) := by
  intro sz
  refine Met.ofW (cc := cX2_cost) (maxL := 1) (ret := (some .int)) (by decide) rfl ?_
  intro p e s m args below meth c s₁ B hml hv
  obtain ⟨rfl, hsz, hP, hK, hD0, hT, hN⟩ := hv
  have hx := B.exec
  have hb := B.bytes
  have hr := B.returns
  have hts : ∀ w ∈ wsA, w.before ([.ref (a1 0)] : List Value).toArray s = true := fun w h => atoms_spec (ws := wsX2_cost) B.pre w (List.mem_cons_of_mem _ h)
  have hown : s.vm.findClass RX2 = some m.cls := findClass_of_methodNamed B.named
  have hlocks := B.notSynchronized
  subst hsz
  have hD := hD0.self (sz := s.heap.size)
  generalize hAe : va_A (WDay z a1 m1) s.heap.size = A at hD hT ⊢
  have hA : ∀ q : Nat, s.heap.size ≤ q → A q := fun q h => by rw [← hAe]; exact Or.inr h
  have hS : va_S A s.heap s.heap [] := va_S.rf
  have hl := lv_entry ([.ref (a1 0)] : List Value) (n := 1) (Nat.le_of_ble_eq_true rfl)
  rw [lg_entry_eq]
  generalize (lg_sl ([.ref (a1 0)] : List Value) ++ List.replicate (1 - (lg_sl ([.ref (a1 0)] : List Value)).length) Slot.unset).toArray = ls at hl ⊢
  have hl : lv_has ls 1 [(0, .ref (a1 0))] := hl
  unfold pX2_cost at hf
  refine lv_aload_n hx hb dX2_cost_0 rfl (lv_at hl 0 rfl) ?_
  obtain ⟨r1, q2, hf⟩ := bd_use hf
  have hfo : Foc (WDay z a1 m1) (WDay z a1 m1) (WDay z a1 m1) (WDay z a1 m1) := foc_all
  refine z_goI (ws1 := (WDay z a1 m1)) (va_runV (As := []) (rest := []) ⟨hx, hb, hml, hown, hts⟩ (tX2_allWaited l D z tt a1 m1  fu r1 q2 _) (cwV 0 hts (gV4 aw542 aw529 aw530 aw46 aw531) rfl rfl rfl (by decide +kernel) ⟨Nat.le_of_ble_eq_true rfl, Nat.le_of_ble_eq_true rfl⟩) (z_preV hK hP hD hS hA hT hN hfo (va_recv hK hP (ci := 2) (q0 := 0) rfl rfl)) rfl rfl hl.1 rfl (lv_room (Nat.le_of_ble_eq_true rfl)) dX2_cost_1 ⟨Nat.zero_le _, Nat.zero_le _⟩) hP hD hS hA hfo (fun H locs hP hD hS => ?_)
  refine lv_aload_n hx hb dX2_cost_4 rfl (lv_at hl 0 rfl) ?_
  refine va_get (D := D) (ci := 2) (v := .ref (a1 1)) (C := RX2) (T := TX2) (N := 8) hx hb hts iX2 hown hK hP 0 rfl rfl 0 (by decide) (hts _ aw150) (fun _ h9 => h9) rfl dX2_cost_5 ?_
  refine lv_iconst (v := 4) hx hb dX2_cost_8 (by decide) ?_
  refine z_ialdc hx hb hK hP 1 rfl (i := 4) (k := 4) (by decide) (Nat.le_of_ble_eq_true rfl) dX2_cost_9 ?_
  refine lv_imul hx hb dX2_cost_10 ?_
  refine lv_aload_n hx hb dX2_cost_11 rfl (lv_at hl 0 rfl) ?_
  obtain ⟨r3, q4, hf⟩ := bd_use hf
  have hfo : Foc (WDay z a1 m1) (WDay z a1 m1) (WDay z a1 m1) (WDay z a1 m1) := foc_all
  refine z_goI (ws1 := (WDay z a1 m1)) (va_runV (As := []) (rest := [.int (r1 * (m1 1 4))]) ⟨hx, hb, hml, hown, hts⟩ (tX2_cupsLeft l D z tt a1 m1  fu r3 q4 _) (cwV 0 hts (gV4 aw543 aw535 aw536 aw46 aw537) rfl rfl rfl (by decide +kernel) ⟨Nat.le_of_ble_eq_true rfl, Nat.le_of_ble_eq_true rfl⟩) (z_preV hK hP hD hS hA hT hN hfo (va_recv hK hP (ci := 2) (q0 := 0) rfl rfl)) rfl rfl hl.1 rfl (lv_room (Nat.le_of_ble_eq_true rfl)) dX2_cost_12 ⟨Nat.zero_le _, Nat.zero_le _⟩) hP hD hS hA hfo (fun H locs hP hD hS => ?_)
  refine lv_aload_n hx hb dX2_cost_15 rfl (lv_at hl 0 rfl) ?_
  refine va_get (D := D) (ci := 2) (v := .ref (a1 1)) (C := RX2) (T := TX2) (N := 8) hx hb hts iX2 hown hK hP 0 rfl rfl 0 (by decide) (hts _ aw150) (fun _ h9 => h9) rfl dX2_cost_16 ?_
  refine lv_iconst (v := 5) hx hb dX2_cost_19 (by decide) ?_
  refine z_ialdc hx hb hK hP 1 rfl (i := 5) (k := 5) (by decide) (Nat.le_of_ble_eq_true rfl) dX2_cost_20 ?_
  refine lv_imul hx hb dX2_cost_21 ?_
  refine lv_iadd hx hb dX2_cost_22 ?_
  refine lv_aload_n hx hb dX2_cost_23 rfl (lv_at hl 0 rfl) ?_
  refine lv_iconst (v := 3) hx hb dX2_cost_24 (by decide) ?_
  obtain ⟨r5, q6, hf⟩ := bd_use hf
  have hfo : Foc (WDay z a1 m1) (WDay z a1 m1) (WDay z a1 m1) (WDay z a1 m1) := foc_all
  refine z_goI (ws1 := (WDay z a1 m1)) (va_runV (As := [.int 3]) (rest := [.int ((r1 * (m1 1 4)) + (r3 * (m1 1 5)))]) ⟨hx, hb, hml, hown, hts⟩ (tX2_comersWith l D z tt a1 m1 3 fu r5 q6 _) (cwV 1 hts (gV4 aw426 aw427 aw428 aw46 aw429) rfl rfl rfl (by decide +kernel) ⟨Nat.le_of_ble_eq_true rfl, Nat.le_of_ble_eq_true rfl⟩) (z_preV hK hP hD hS hA hT hN hfo (va_recv hK hP (ci := 2) (q0 := 0) rfl rfl)) rfl rfl hl.1 rfl (lv_room (Nat.le_of_ble_eq_true rfl)) dX2_cost_25 ⟨Nat.zero_le _, Nat.zero_le _⟩) hP hD hS hA hfo (fun H locs hP hD hS => ?_)
  refine lv_bipush (v := 9) hx hb dX2_cost_28 (by decide) ?_
  refine lv_imul hx hb dX2_cost_30 ?_
  refine lv_iadd hx hb dX2_cost_31 ?_
  obtain rfl := so1 hf
  exact ret_i hx hb hr hlocks hK hP hD hS dX2_cost_32
