def pX0_insert (fu : Nat) (m1 : Mem) (p1 : Int32) (p2 : Int32) : Option Mem :=
  lt' ((m1 0 2) : Int32) fun x1 =>
  zl2 (fun g5 (x2 : Int32) (y3 : Mem) =>
    jn1 (fun (u0 : Unit) =>
      ck x2 8 <|
      lt' (up2 y3 1 x2.toNatClampNeg p1) fun y8 =>
      ck x2 8 <|
      lt' (up2 y8 2 x2.toNatClampNeg p2) fun y10 =>
      lt' (up2 y10 0 2 ((y10 0 2) + 1)) fun y12 =>
      some y12) fun k7 =>
    if x2 ≤ 0 then
      k7 ()
    else
      ck (x2 - 1) 8 <|
      if (y3 1 (x2 - 1).toNatClampNeg) ≤ p1 then
        k7 ()
      else
        ck (x2 - 1) 8 <|
        ck x2 8 <|
        lt' (up2 y3 1 x2.toNatClampNeg (y3 1 (x2 - 1).toNatClampNeg)) fun y17 =>
        ck (x2 - 1) 8 <|
        ck x2 8 <|
        lt' (up2 y17 2 x2.toNatClampNeg (y17 2 (x2 - 1).toNatClampNeg)) fun y20 =>
        lt' (x2 + (-1)) fun x22 =>
        g5 x22 y20) fu x1 m1
set_option maxHeartbeats 4000000 in
set_option maxRecDepth 100000 in
theorem tX0_insert (l : Launch) (D : va_G) (z tt : Nat → Nat) (a1 : Nat → Nat) (m1 : Mem) (p1 : Int32) (p2 : Int32) (fu : Nat) (m1' : Mem) (hf : pX0_insert fu m1 p1 p2 = some m1') : MetV l yX0_insert wsX0_insert ({ frames := 0, cells := 0, slots := 0, locals := 0 } : Room) D z tt ([.ref (a1 0), .int p1, .int p2] : List Value) (WArr z a1 m1) (WArr z a1 m1') := by
  intro sz
  refine Met.ofW (cc := cX0_insert) (maxL := 4) (ret := none) (by decide) rfl ?_
  intro p e s m args below meth c s₁ B hml hv
  obtain ⟨rfl, hsz, hP, hK, hD0, hT, hN⟩ := hv
  have hx := B.exec
  have hb := B.bytes
  have hr := B.returns
  have hts : ∀ w ∈ wsA, w.before ([.ref (a1 0), .int p1, .int p2] : List Value).toArray s = true := fun w h => atoms_spec (ws := wsX0_insert) B.pre w (List.mem_cons_of_mem _ h)
  have hown : s.vm.findClass RX0 = some m.cls := findClass_of_methodNamed B.named
  have hlocks := B.notSynchronized
  subst hsz
  have hD := hD0.self (sz := s.heap.size)
  generalize hAe : va_A (WArr z a1 m1) s.heap.size = A at hD hT ⊢
  have hA : ∀ q : Nat, s.heap.size ≤ q → A q := fun q h => by rw [← hAe]; exact Or.inr h
  have hS : va_S A s.heap s.heap [] := va_S.rf
  have hl := lv_entry ([.ref (a1 0), .int p1, .int p2] : List Value) (n := 4) (Nat.le_of_ble_eq_true rfl)
  rw [lg_entry_eq]
  generalize (lg_sl ([.ref (a1 0), .int p1, .int p2] : List Value) ++ List.replicate (4 - (lg_sl ([.ref (a1 0), .int p1, .int p2] : List Value)).length) Slot.unset).toArray = ls at hl ⊢
  have hl : lv_has ls 4 [(0, .ref (a1 0)), (1, .int p1), (2, .int p2)] := hl
  unfold pX0_insert at hf
  refine lv_aload_n hx hb dX0_insert_0 rfl (lv_at hl 0 rfl) ?_
  refine va_get (D := D) (ci := 0) (v := .int (m1 0 2)) (C := RX0) (T := TX0) (N := 3) hx hb hts iX0 hown hK hP 0 rfl rfl 2 (by decide) (hts _ aw215) (fun _ h9 => h9) rfl dX0_insert_1 ?_
  refine lv_topi (fun x1 ex1 => ?_)
  have hf := lt_use ex1 hf
  refine lv_istore_n (lv' := [(3, .int x1), (0, .ref (a1 0)), (1, .int p1), (2, .int p2)]) hx hb dX0_insert_4 rfl hl (by decide) rfl (fun ls hl => ?_)
  obtain ⟨F4, eF4, hf⟩ := zl2_use hf
  have L5_F4 : ∀ (n : Nat) (x2 : Int32) (y3 : Mem) (H : Heap) (locs : List Loc), va_P D vwCl (WArr z a1 y3) H → va_D A (WArr z a1 y3) → va_S A s.heap H locs → ∀ (ls : Array Slot), lv_has ls 4 [(0, .ref (a1 0)), (1, .int p1), (2, .int p2), (3, .int x2)] → zl2 F4 n x2 y3 = some m1' → GV p l e (headSpec wsX0_insert ({ frames := 0, cells := 0, slots := 0, locals := 0 } : Room)).room s m ([.ref (a1 0), .int p1, .int p2] : List Value).toArray below meth c A D z (WArr z a1 m1') H locs (F0 m 5 ls []) := by
    intro n
    induction n with
    | zero =>
      intro x2 y3 H locs hP hD hS ls hl hf
      exact no_none hf
    | succ n ih6 =>
      intro x2 y3 H locs hP hD hS ls hl hf
      have hf := zl2_s eF4 hf
      refine lv_iload_n hx hb dX0_insert_5 rfl (lv_at hl 3 rfl) ?_
      obtain ⟨k7, ek7, hf⟩ := jn1_use hf
      have B55_k7 : ∀ (u0 : Unit) (H : Heap) (locs : List Loc), va_P D vwCl (WArr z a1 y3) H → va_D A (WArr z a1 y3) → va_S A s.heap H locs → ∀ (ls : Array Slot), lv_has ls 4 [(0, .ref (a1 0)), (1, .int p1), (2, .int p2), (3, .int x2)] → k7 u0 = some m1' → GV p l e (headSpec wsX0_insert ({ frames := 0, cells := 0, slots := 0, locals := 0 } : Room)).room s m ([.ref (a1 0), .int p1, .int p2] : List Value).toArray below meth c A D z (WArr z a1 m1') H locs (F0 m 55 ls []) := by
        intro u0 H locs hP hD hS ls hl hf
        have hf := jn1_ap ek7 hf
        refine lv_aload_n hx hb dX0_insert_55 rfl (lv_at hl 0 rfl) ?_
        refine va_get (D := D) (ci := 0) (v := .ref (a1 1)) (C := RX0) (T := TX0) (N := 3) hx hb hts iX0 hown hK hP 0 rfl rfl 0 (by decide) (hts _ aw213) (fun _ h9 => h9) rfl dX0_insert_56 ?_
        refine lv_iload_n hx hb dX0_insert_59 rfl (lv_at hl 3 rfl) ?_
        refine lv_iload_n hx hb dX0_insert_60 rfl (lv_at hl 1 rfl) ?_
        obtain ⟨h9, hf⟩ := ck_use hf
        refine z_iast hx hb hK hP hD hS 1 rfl h9 dX0_insert_61 (fun (w9 : Mem) => (WArr z a1 w9)) (up2 y3 1 x2.toNatClampNeg p1) rfl (fun y8 ey8 H locs hP hD hS => ?_)
        have hf := lt_use ey8 hf
        refine lv_aload_n hx hb dX0_insert_62 rfl (lv_at hl 0 rfl) ?_
        refine va_get (D := D) (ci := 0) (v := .ref (a1 2)) (C := RX0) (T := TX0) (N := 3) hx hb hts iX0 hown hK hP 0 rfl rfl 1 (by decide) (hts _ aw214) (fun _ h9 => h9) rfl dX0_insert_63 ?_
        refine lv_iload_n hx hb dX0_insert_66 rfl (lv_at hl 3 rfl) ?_
        refine lv_iload_n hx hb dX0_insert_67 rfl (lv_at hl 2 rfl) ?_
        obtain ⟨h11, hf⟩ := ck_use hf
        refine z_iast hx hb hK hP hD hS 2 rfl h11 dX0_insert_68 (fun (w9 : Mem) => (WArr z a1 w9)) (up2 y8 2 x2.toNatClampNeg p2) rfl (fun y10 ey10 H locs hP hD hS => ?_)
        have hf := lt_use ey10 hf
        refine lv_aload_n hx hb dX0_insert_69 rfl (lv_at hl 0 rfl) ?_
        refine lv_dup hx hb dX0_insert_70 rfl ?_
        refine va_get (D := D) (ci := 0) (v := .int (y10 0 2)) (C := RX0) (T := TX0) (N := 3) hx hb hts iX0 hown hK hP 0 rfl rfl 2 (by decide) (hts _ aw215) (fun _ h9 => h9) rfl dX0_insert_71 ?_
        refine lv_iconst (v := 1) hx hb dX0_insert_74 (by decide) ?_
        refine lv_iadd hx hb dX0_insert_75 ?_
        refine z_put (ci := 0) (v := .int ((y10 0 2) + 1)) (ty := .int) (C := RX0) (T := TX0) (N := 3) hx hb hts iX0 tyX0 tyX0_ok nmX0 hown hK hP hD hS 0 rfl rfl 2 (by decide) (hts _ aw215) (fun _ h9 => h9) rfl (by decide +kernel) rfl rfl (Nat.le_of_ble_eq_true rfl) dX0_insert_76 (fun (w9 : Mem) => (WArr z a1 w9)) (up2 y10 0 2 ((y10 0 2) + 1)) rfl (fun y12 ey12 H locs hP hD hS => ?_)
        have hf := lt_use ey12 hf
        obtain rfl := so1 hf
        exact ret_v hx hb hr hlocks hK hP hD hS dX0_insert_79
      refine lv_if_le (tgt := 55) hx hb dX0_insert_6 (by decide) (fun c13 => ?_) (fun c13 => ?_)
      · have hf := if_t c13 hf
        exact B55_k7 _ _ _ hP hD hS _ (lv_sub hl [0, 1, 2, 3] rfl) hf
      · have hf := if_f c13 hf
        refine lv_aload_n hx hb dX0_insert_9 rfl (lv_at hl 0 rfl) ?_
        refine va_get (D := D) (ci := 0) (v := .ref (a1 1)) (C := RX0) (T := TX0) (N := 3) hx hb hts iX0 hown hK hP 0 rfl rfl 0 (by decide) (hts _ aw213) (fun _ h9 => h9) rfl dX0_insert_10 ?_
        refine lv_iload_n hx hb dX0_insert_13 rfl (lv_at hl 3 rfl) ?_
        refine lv_iconst (v := 1) hx hb dX0_insert_14 (by decide) ?_
        refine lv_isub hx hb dX0_insert_15 ?_
        obtain ⟨h14, hf⟩ := ck_use hf
        refine z_iald hx hb hK hP 1 rfl h14 dX0_insert_16 ?_
        refine lv_iload_n hx hb dX0_insert_17 rfl (lv_at hl 1 rfl) ?_
        refine lv_icmp_le (tgt := 55) hx hb dX0_insert_18 (by decide) (fun c15 => ?_) (fun c15 => ?_)
        · have hf := if_t c15 hf
          exact B55_k7 _ _ _ hP hD hS _ (lv_sub hl [0, 1, 2, 3] rfl) hf
        · have hf := if_f c15 hf
          refine lv_aload_n hx hb dX0_insert_21 rfl (lv_at hl 0 rfl) ?_
          refine va_get (D := D) (ci := 0) (v := .ref (a1 1)) (C := RX0) (T := TX0) (N := 3) hx hb hts iX0 hown hK hP 0 rfl rfl 0 (by decide) (hts _ aw213) (fun _ h9 => h9) rfl dX0_insert_22 ?_
          refine lv_iload_n hx hb dX0_insert_25 rfl (lv_at hl 3 rfl) ?_
          refine lv_aload_n hx hb dX0_insert_26 rfl (lv_at hl 0 rfl) ?_
          refine va_get (D := D) (ci := 0) (v := .ref (a1 1)) (C := RX0) (T := TX0) (N := 3) hx hb hts iX0 hown hK hP 0 rfl rfl 0 (by decide) (hts _ aw213) (fun _ h9 => h9) rfl dX0_insert_27 ?_
          refine lv_iload_n hx hb dX0_insert_30 rfl (lv_at hl 3 rfl) ?_
          refine lv_iconst (v := 1) hx hb dX0_insert_31 (by decide) ?_
          refine lv_isub hx hb dX0_insert_32 ?_
          obtain ⟨h16, hf⟩ := ck_use hf
          refine z_iald hx hb hK hP 1 rfl h16 dX0_insert_33 ?_
          obtain ⟨h18, hf⟩ := ck_use hf
          refine z_iast hx hb hK hP hD hS 1 rfl h18 dX0_insert_34 (fun (w9 : Mem) => (WArr z a1 w9)) (up2 y3 1 x2.toNatClampNeg (y3 1 (x2 - 1).toNatClampNeg)) rfl (fun y17 ey17 H locs hP hD hS => ?_)
          have hf := lt_use ey17 hf
          refine lv_aload_n hx hb dX0_insert_35 rfl (lv_at hl 0 rfl) ?_
          refine va_get (D := D) (ci := 0) (v := .ref (a1 2)) (C := RX0) (T := TX0) (N := 3) hx hb hts iX0 hown hK hP 0 rfl rfl 1 (by decide) (hts _ aw214) (fun _ h9 => h9) rfl dX0_insert_36 ?_
          refine lv_iload_n hx hb dX0_insert_39 rfl (lv_at hl 3 rfl) ?_
          refine lv_aload_n hx hb dX0_insert_40 rfl (lv_at hl 0 rfl) ?_
          refine va_get (D := D) (ci := 0) (v := .ref (a1 2)) (C := RX0) (T := TX0) (N := 3) hx hb hts iX0 hown hK hP 0 rfl rfl 1 (by decide) (hts _ aw214) (fun _ h9 => h9) rfl dX0_insert_41 ?_
          refine lv_iload_n hx hb dX0_insert_44 rfl (lv_at hl 3 rfl) ?_
          refine lv_iconst (v := 1) hx hb dX0_insert_45 (by decide) ?_
          refine lv_isub hx hb dX0_insert_46 ?_
          obtain ⟨h19, hf⟩ := ck_use hf
          refine z_iald hx hb hK hP 2 rfl h19 dX0_insert_47 ?_
          obtain ⟨h21, hf⟩ := ck_use hf
          refine z_iast hx hb hK hP hD hS 2 rfl h21 dX0_insert_48 (fun (w9 : Mem) => (WArr z a1 w9)) (up2 y17 2 x2.toNatClampNeg (y17 2 (x2 - 1).toNatClampNeg)) rfl (fun y20 ey20 H locs hP hD hS => ?_)
          have hf := lt_use ey20 hf
          obtain ⟨x22, ex22⟩ : ∃ y : Int32, y = x2 + (-1) := ⟨_, rfl⟩
          have hf := lt_use ex22 hf
          refine lv_iinc (v := x22) (lv' := [(3, .int x22), (0, .ref (a1 0)), (1, .int p1), (2, .int p2)]) hx hb dX0_insert_49 hl (k := 3) rfl (by rw [ex22]; rfl) (by decide) rfl (fun ls hl => ?_)
          refine lv_goto (tgt := 5) hx hb dX0_insert_52 (by decide) ?_
          exact ih6 _ _ _ _ hP hD hS _ (lv_sub hl [1, 2, 3, 0] rfl) hf
  exact L5_F4 fu _ _ _ _ hP hD hS _ (lv_sub hl [1, 2, 3, 0] rfl) hf
def pX0_take (fu : Nat) (m1 : Mem) (m2 : Mem) : Option Mem :=
  lt' (up2 m1 0 2 0) fun y1 =>
  zl2 (fun g5 (x2 : Int32) (y3 : Mem) =>
    if (m2 0 4) ≤ x2 then
      some y3
    else
      if 8 ≤ (y3 0 2) then
        some y3
      else
        ck x2 8 <|
        ck x2 8 <|
        bd (pX0_insert fu y3 (m2 (5 + x2.toNatClampNeg) 2) (m2 (5 + x2.toNatClampNeg) 3)) fun y11 =>
        lt' (x2 + 1) fun x13 =>
        g5 x13 y11) fu 0 y1
set_option maxHeartbeats 4000000 in
set_option maxRecDepth 100000 in
theorem tX0_take (l : Launch) (D : va_G) (z tt : Nat → Nat) (a1 : Nat → Nat) (a2 : Nat → Nat) (m1 : Mem) (m2 : Mem)  (fu : Nat) (m1' : Mem) (hf : pX0_take fu m1 m2 = some m1') : MetV l yX0_take wsX0_take ({ frames := 1, cells := 0, slots := 0, locals := 23 } : Room) D z tt ([.ref (a1 0), .ref (a2 0)] : List Value) (WArr z a1 m1 ++ (WDay z a2 m2)) (WArr z a1 m1' ++ (WDay z a2 m2)) := by
  intro sz
  refine Met.ofW (cc := cX0_take) (maxL := 3) (ret := none) (by decide) rfl ?_
  intro p e s m args below meth c s₁ B hml hv
  obtain ⟨rfl, hsz, hP, hK, hD0, hT, hN⟩ := hv
  have hx := B.exec
  have hb := B.bytes
  have hr := B.returns
  have hts : ∀ w ∈ wsA, w.before ([.ref (a1 0), .ref (a2 0)] : List Value).toArray s = true := fun w h => atoms_spec (ws := wsX0_take) B.pre w (List.mem_cons_of_mem _ h)
  have hown : s.vm.findClass RX0 = some m.cls := findClass_of_methodNamed B.named
  have hlocks := B.notSynchronized
  subst hsz
  have hD := hD0.self (sz := s.heap.size)
  generalize hAe : va_A (WArr z a1 m1 ++ (WDay z a2 m2)) s.heap.size = A at hD hT ⊢
  have hA : ∀ q : Nat, s.heap.size ≤ q → A q := fun q h => by rw [← hAe]; exact Or.inr h
  have hS : va_S A s.heap s.heap [] := va_S.rf
  have hl := lv_entry ([.ref (a1 0), .ref (a2 0)] : List Value) (n := 3) (Nat.le_of_ble_eq_true rfl)
  rw [lg_entry_eq]
  generalize (lg_sl ([.ref (a1 0), .ref (a2 0)] : List Value) ++ List.replicate (3 - (lg_sl ([.ref (a1 0), .ref (a2 0)] : List Value)).length) Slot.unset).toArray = ls at hl ⊢
  have hl : lv_has ls 3 [(0, .ref (a1 0)), (1, .ref (a2 0))] := hl
  unfold pX0_take at hf
  refine lv_aload_n hx hb dX0_take_0 rfl (lv_at hl 0 rfl) ?_
  refine lv_iconst (v := 0) hx hb dX0_take_1 (by decide) ?_
  refine z_put (ci := 0) (v := .int 0) (ty := .int) (C := RX0) (T := TX0) (N := 3) hx hb hts iX0 tyX0 tyX0_ok nmX0 hown hK hP hD hS 0 rfl rfl 2 (by decide) (hts _ aw215) (fun _ h9 => h9) rfl (by decide +kernel) rfl rfl (Nat.le_of_ble_eq_true rfl) dX0_take_2 (fun (w9 : Mem) => (WArr z a1 w9 ++ (WDay z a2 m2))) (up2 m1 0 2 0) rfl (fun y1 ey1 H locs hP hD hS => ?_)
  have hf := lt_use ey1 hf
  refine lv_iconst (v := 0) hx hb dX0_take_5 (by decide) ?_
  refine lv_istore_n (lv' := [(2, .int 0), (0, .ref (a1 0)), (1, .ref (a2 0))]) hx hb dX0_take_6 rfl hl (by decide) rfl (fun ls hl => ?_)
  obtain ⟨F4, eF4, hf⟩ := zl2_use hf
  have L7_F4 : ∀ (n : Nat) (x2 : Int32) (y3 : Mem) (H : Heap) (locs : List Loc), va_P D vwCl (WArr z a1 y3 ++ (WDay z a2 m2)) H → va_D A (WArr z a1 y3 ++ (WDay z a2 m2)) → va_S A s.heap H locs → ∀ (ls : Array Slot), lv_has ls 3 [(0, .ref (a1 0)), (1, .ref (a2 0)), (2, .int x2)] → zl2 F4 n x2 y3 = some m1' → GV p l e (headSpec wsX0_take ({ frames := 1, cells := 0, slots := 0, locals := 23 } : Room)).room s m ([.ref (a1 0), .ref (a2 0)] : List Value).toArray below meth c A D z (WArr z a1 m1' ++ (WDay z a2 m2)) H locs (F0 m 7 ls []) := by
    intro n
    induction n with
    | zero =>
      intro x2 y3 H locs hP hD hS ls hl hf
      exact no_none hf
    | succ n ih6 =>
      intro x2 y3 H locs hP hD hS ls hl hf
      have hf := zl2_s eF4 hf
      refine lv_iload_n hx hb dX0_take_7 rfl (lv_at hl 2 rfl) ?_
      refine lv_aload_n hx hb dX0_take_8 rfl (lv_at hl 1 rfl) ?_
      refine va_get (D := D) (ci := 2) (v := .int (m2 0 4)) (C := RX2) (T := TX2) (N := 8) hx hb hts iX2 hown hK hP 3 rfl rfl 4 (by decide) (hts _ aw164) (fun _ h9 => h9) rfl dX0_take_9 ?_
      refine lv_icmp_ge (tgt := 55) hx hb dX0_take_12 (by decide) (fun c7 => ?_) (fun c7 => ?_)
      · have hf := if_t c7 hf
        obtain rfl := so1 hf
        exact ret_v hx hb hr hlocks hK hP hD hS dX0_take_55
      · have hf := if_f c7 hf
        refine lv_aload_n hx hb dX0_take_15 rfl (lv_at hl 0 rfl) ?_
        refine va_get (D := D) (ci := 0) (v := .int (y3 0 2)) (C := RX0) (T := TX0) (N := 3) hx hb hts iX0 hown hK hP 0 rfl rfl 2 (by decide) (hts _ aw215) (fun _ h9 => h9) rfl dX0_take_16 ?_
        refine lv_aload_n hx hb dX0_take_19 rfl (lv_at hl 0 rfl) ?_
        refine va_get (D := D) (ci := 0) (v := .ref (a1 1)) (C := RX0) (T := TX0) (N := 3) hx hb hts iX0 hown hK hP 0 rfl rfl 0 (by decide) (hts _ aw213) (fun _ h9 => h9) rfl dX0_take_20 ?_
        refine z_alen hx hb hK hP 1 0 rfl rfl (v := 8) rfl dX0_take_23 ?_
        refine lv_icmp_ge (tgt := 55) hx hb dX0_take_24 (by decide) (fun c8 => ?_) (fun c8 => ?_)
        · have hf := if_t c8 hf
          obtain rfl := so1 hf
          exact ret_v hx hb hr hlocks hK hP hD hS dX0_take_55
        · have hf := if_f c8 hf
          refine lv_aload_n hx hb dX0_take_27 rfl (lv_at hl 0 rfl) ?_
          refine lv_aload_n hx hb dX0_take_28 rfl (lv_at hl 1 rfl) ?_
          refine va_get (D := D) (ci := 2) (v := .ref (a2 13)) (C := RX2) (T := TX2) (N := 8) hx hb hts iX2 hown hK hP 3 rfl rfl 1 (by decide) (hts _ aw155) (fun _ h9 => h9) rfl dX0_take_29 ?_
          refine lv_iload_n hx hb dX0_take_32 rfl (lv_at hl 2 rfl) ?_
          obtain ⟨h9, hf⟩ := ck_use hf
          refine z_ald hx hb hK hP 16 1 (C := "FilledForOne$Comer") (g := (fun j => a2 (5 + j))) rfl rfl h9 dX0_take_33 ?_
          refine va_get (D := D) (ci := 1) (v := .int (m2 (5 + x2.toNatClampNeg) 2)) (C := RX1) (T := TX1) (N := 7) hx hb hts iX1 hown hK hP (3 + (5 + x2.toNatClampNeg)) (w_skip (n := 3) rfl (WDay_c z a2 m2 (vp_lt h9))) rfl 2 (by decide) (hts _ aw94) (fun _ h9 => h9) rfl dX0_take_34 ?_
          refine lv_aload_n hx hb dX0_take_37 rfl (lv_at hl 1 rfl) ?_
          refine va_get (D := D) (ci := 2) (v := .ref (a2 13)) (C := RX2) (T := TX2) (N := 8) hx hb hts iX2 hown hK hP 3 rfl rfl 1 (by decide) (hts _ aw155) (fun _ h9 => h9) rfl dX0_take_38 ?_
          refine lv_iload_n hx hb dX0_take_41 rfl (lv_at hl 2 rfl) ?_
          obtain ⟨h10, hf⟩ := ck_use hf
          refine z_ald hx hb hK hP 16 1 (C := "FilledForOne$Comer") (g := (fun j => a2 (5 + j))) rfl rfl h10 dX0_take_42 ?_
          refine va_get (D := D) (ci := 1) (v := .int (m2 (5 + x2.toNatClampNeg) 3)) (C := RX1) (T := TX1) (N := 7) hx hb hts iX1 hown hK hP (3 + (5 + x2.toNatClampNeg)) (w_skip (n := 3) rfl (WDay_c z a2 m2 (vp_lt h10))) rfl 3 (by decide) (hts _ aw98) (fun _ h9 => h9) rfl dX0_take_43 ?_
          obtain ⟨y11, q12, hf⟩ := bd_use hf
          have hfo : Foc (WArr z a1 y3 ++ (WDay z a2 m2)) (WArr z a1 y3) (WArr z a1 y11 ++ (WDay z a2 m2)) (WArr z a1 y11) := (foc_l foc_all)
          refine z_goV (ws1 := (WArr z a1 y11 ++ (WDay z a2 m2))) (va_runV (As := [.int (m2 (5 + x2.toNatClampNeg) 2), .int (m2 (5 + x2.toNatClampNeg) 3)]) (rest := []) ⟨hx, hb, hml, hown, hts⟩ (tX0_insert l D z tt a1 y3 (m2 (5 + x2.toNatClampNeg) 2) (m2 (5 + x2.toNatClampNeg) 3) fu y11 q12 _) (cwV 2 hts (gV4 aw613 aw614 aw615 aw50 aw616) rfl rfl rfl (by decide +kernel) ⟨Nat.le_of_ble_eq_true rfl, Nat.le_of_ble_eq_true rfl⟩) (z_preV hK hP hD hS hA hT hN hfo (va_recv hK hP (ci := 0) (q0 := 0) rfl rfl)) rfl rfl hl.1 rfl (lv_room (Nat.le_of_ble_eq_true rfl)) dX0_take_46 ⟨Nat.zero_le _, Nat.zero_le _⟩) hP hD hS hA hfo (fun H locs hP hD hS => ?_)
          obtain ⟨x13, ex13⟩ : ∃ y : Int32, y = x2 + 1 := ⟨_, rfl⟩
          have hf := lt_use ex13 hf
          refine lv_iinc (v := x13) (lv' := [(2, .int x13), (0, .ref (a1 0)), (1, .ref (a2 0))]) hx hb dX0_take_49 hl (k := 2) rfl (by rw [ex13]; rfl) (by decide) rfl (fun ls hl => ?_)
          refine lv_goto (tgt := 7) hx hb dX0_take_52 (by decide) ?_
          exact ih6 _ _ _ _ hP hD hS _ (lv_sub hl [1, 2, 0] rfl) hf
  exact L7_F4 fu _ _ _ _ hP hD hS _ (lv_sub hl [1, 2, 0] rfl) hf
def pX0_hours (fu : Nat) (m1 : Mem) : Option Int32 :=
  if (m1 0 2) = 0 then
    some 0
  else
    ck ((m1 0 2) - 1) 8 <|
    some (imax 1 (((((m1 1 ((m1 0 2) - 1).toNatClampNeg) - (m1 1 0)) + 60) - 1) / 60))
set_option maxHeartbeats 4000000 in
set_option maxRecDepth 100000 in
theorem tX0_hours (l : Launch) (D : va_G) (z tt : Nat → Nat) (a1 : Nat → Nat) (m1 : Mem)  (fu : Nat) (rr : Int32) (hf : pX0_hours fu m1 = some rr) : MetI l yX0_hours wsX0_hours ({ frames := 1, cells := 0, slots := 0, locals := 17 } : Room) D z tt ([.ref (a1 0)] : List Value) (WArr z a1 m1) rr (WArr z a1 m1) := by
  intro sz
  refine Met.ofW (cc := cX0_hours) (maxL := 1) (ret := (some .int)) (by decide) rfl ?_
  intro p e s m args below meth c s₁ B hml hv
  obtain ⟨rfl, hsz, hP, hK, hD0, hT, hN⟩ := hv
  have hx := B.exec
  have hb := B.bytes
  have hr := B.returns
  have hts : ∀ w ∈ wsA, w.before ([.ref (a1 0)] : List Value).toArray s = true := fun w h => atoms_spec (ws := wsX0_hours) B.pre w (List.mem_cons_of_mem _ h)
  have hown : s.vm.findClass RX0 = some m.cls := findClass_of_methodNamed B.named
  have hlocks := B.notSynchronized
  subst hsz
  have hD := hD0.self (sz := s.heap.size)
  generalize hAe : va_A (WArr z a1 m1) s.heap.size = A at hD hT ⊢
  have hA : ∀ q : Nat, s.heap.size ≤ q → A q := fun q h => by rw [← hAe]; exact Or.inr h
  have hS : va_S A s.heap s.heap [] := va_S.rf
  have hl := lv_entry ([.ref (a1 0)] : List Value) (n := 1) (Nat.le_of_ble_eq_true rfl)
  rw [lg_entry_eq]
  generalize (lg_sl ([.ref (a1 0)] : List Value) ++ List.replicate (1 - (lg_sl ([.ref (a1 0)] : List Value)).length) Slot.unset).toArray = ls at hl ⊢
  have hl : lv_has ls 1 [(0, .ref (a1 0))] := hl
  unfold pX0_hours at hf
  refine lv_aload_n hx hb dX0_hours_0 rfl (lv_at hl 0 rfl) ?_
  refine va_get (D := D) (ci := 0) (v := .int (m1 0 2)) (C := RX0) (T := TX0) (N := 3) hx hb hts iX0 hown hK hP 0 rfl rfl 2 (by decide) (hts _ aw215) (fun _ h9 => h9) rfl dX0_hours_1 ?_
  refine lv_if_ne (tgt := 9) hx hb dX0_hours_4 (by decide) (fun c1 => ?_) (fun c1 => ?_)
  · have hf := if_f c1 hf
    refine lv_iconst (v := 1) hx hb dX0_hours_9 (by decide) ?_
    refine lv_aload_n hx hb dX0_hours_10 rfl (lv_at hl 0 rfl) ?_
    refine va_get (D := D) (ci := 0) (v := .ref (a1 1)) (C := RX0) (T := TX0) (N := 3) hx hb hts iX0 hown hK hP 0 rfl rfl 0 (by decide) (hts _ aw213) (fun _ h9 => h9) rfl dX0_hours_11 ?_
    refine lv_aload_n hx hb dX0_hours_14 rfl (lv_at hl 0 rfl) ?_
    refine va_get (D := D) (ci := 0) (v := .int (m1 0 2)) (C := RX0) (T := TX0) (N := 3) hx hb hts iX0 hown hK hP 0 rfl rfl 2 (by decide) (hts _ aw215) (fun _ h9 => h9) rfl dX0_hours_15 ?_
    refine lv_iconst (v := 1) hx hb dX0_hours_18 (by decide) ?_
    refine lv_isub hx hb dX0_hours_19 ?_
    obtain ⟨h2, hf⟩ := ck_use hf
    refine z_iald hx hb hK hP 1 rfl h2 dX0_hours_20 ?_
    refine lv_aload_n hx hb dX0_hours_21 rfl (lv_at hl 0 rfl) ?_
    refine va_get (D := D) (ci := 0) (v := .ref (a1 1)) (C := RX0) (T := TX0) (N := 3) hx hb hts iX0 hown hK hP 0 rfl rfl 0 (by decide) (hts _ aw213) (fun _ h9 => h9) rfl dX0_hours_22 ?_
    refine lv_iconst (v := 0) hx hb dX0_hours_25 (by decide) ?_
    refine z_ialdc hx hb hK hP 1 rfl (i := 0) (k := 0) (by decide) (Nat.le_of_ble_eq_true rfl) dX0_hours_26 ?_
    refine lv_isub hx hb dX0_hours_27 ?_
    refine lv_bipush (v := 60) hx hb dX0_hours_28 (by decide) ?_
    refine lv_iadd hx hb dX0_hours_30 ?_
    refine lv_iconst (v := 1) hx hb dX0_hours_31 (by decide) ?_
    refine lv_isub hx hb dX0_hours_32 ?_
    refine lv_bipush (v := 60) hx hb dX0_hours_33 (by decide) ?_
    refine lv_idiv hx hb dX0_hours_35 (by decide) ?_
    refine z_max hx hb (by rw [hml]; exact hl.1.symm) hown (hts _ aw621) (hts _ aw352) (hts _ aw54) (hts _ aw353) (Nat.le_of_ble_eq_true rfl) (Nat.le_of_ble_eq_true rfl) dX0_hours_36 (Nat.zero_le _) (Nat.zero_le _) ?_
    obtain rfl := so1 hf
    exact ret_i hx hb hr hlocks hK hP hD hS dX0_hours_39
  · have hf := if_t c1 hf
    refine lv_iconst (v := 0) hx hb dX0_hours_7 (by decide) ?_
    obtain rfl := so1 hf
    exact ret_i hx hb hr hlocks hK hP hD hS dX0_hours_8
def pX0_waitedTill (fu : Nat) (m1 : Mem) (p1 : Int32) (p2 : Int32) (p3 : Int32) : Option Int32 :=
  zl2 (fun g4 (x1 : Int32) (x2 : Int32) =>
    if p3 < x2 then
      some x1
    else
      if (m1 0 2) ≤ x2 then
        some x1
      else
        ck x2 8 <|
        lt' ((x1 + (p1 - (m1 1 x2.toNatClampNeg))) : Int32) fun x9 =>
        lt' (x2 + 1) fun x10 =>
        g4 x9 x10) fu 0 p2
set_option maxHeartbeats 4000000 in
set_option maxRecDepth 100000 in
theorem tX0_waitedTill (l : Launch) (D : va_G) (z tt : Nat → Nat) (a1 : Nat → Nat) (m1 : Mem) (p1 : Int32) (p2 : Int32) (p3 : Int32) (fu : Nat) (rr : Int32) (hf : pX0_waitedTill fu m1 p1 p2 p3 = some rr) : MetI l yX0_waitedTill wsX0_waitedTill ({ frames := 0, cells := 0, slots := 0, locals := 0 } : Room) D z tt ([.ref (a1 0), .int p1, .int p2, .int p3] : List Value) (WArr z a1 m1) rr (WArr z a1 m1) := by
  intro sz
  refine Met.ofW (cc := cX0_waitedTill) (maxL := 6) (ret := (some .int)) (by decide) rfl ?_
  intro p e s m args below meth c s₁ B hml hv
  obtain ⟨rfl, hsz, hP, hK, hD0, hT, hN⟩ := hv
  have hx := B.exec
  have hb := B.bytes
  have hr := B.returns
  have hts : ∀ w ∈ wsA, w.before ([.ref (a1 0), .int p1, .int p2, .int p3] : List Value).toArray s = true := fun w h => atoms_spec (ws := wsX0_waitedTill) B.pre w (List.mem_cons_of_mem _ h)
  have hown : s.vm.findClass RX0 = some m.cls := findClass_of_methodNamed B.named
  have hlocks := B.notSynchronized
  subst hsz
  have hD := hD0.self (sz := s.heap.size)
  generalize hAe : va_A (WArr z a1 m1) s.heap.size = A at hD hT ⊢
  have hA : ∀ q : Nat, s.heap.size ≤ q → A q := fun q h => by rw [← hAe]; exact Or.inr h
  have hS : va_S A s.heap s.heap [] := va_S.rf
  have hl := lv_entry ([.ref (a1 0), .int p1, .int p2, .int p3] : List Value) (n := 6) (Nat.le_of_ble_eq_true rfl)
  rw [lg_entry_eq]
  generalize (lg_sl ([.ref (a1 0), .int p1, .int p2, .int p3] : List Value) ++ List.replicate (6 - (lg_sl ([.ref (a1 0), .int p1, .int p2, .int p3] : List Value)).length) Slot.unset).toArray = ls at hl ⊢
  have hl : lv_has ls 6 [(0, .ref (a1 0)), (1, .int p1), (2, .int p2), (3, .int p3)] := hl
  unfold pX0_waitedTill at hf
  refine lv_iconst (v := 0) hx hb dX0_waitedTill_0 (by decide) ?_
  refine lv_istore (lv' := [(4, .int 0), (0, .ref (a1 0)), (1, .int p1), (2, .int p2), (3, .int p3)]) hx hb dX0_waitedTill_1 hl (by decide) rfl (fun ls hl => ?_)
  refine lv_iload_n hx hb dX0_waitedTill_3 rfl (lv_at hl 3 rfl) ?_
  refine lv_istore (lv' := [(5, .int p2), (4, .int 0), (0, .ref (a1 0)), (1, .int p1), (2, .int p2), (3, .int p3)]) hx hb dX0_waitedTill_4 hl (by decide) rfl (fun ls hl => ?_)
  obtain ⟨F3, eF3, hf⟩ := zl2_use hf
  have L6_F3 : ∀ (n : Nat) (x1 : Int32) (x2 : Int32) (H : Heap) (locs : List Loc), va_P D vwCl (WArr z a1 m1) H → va_D A (WArr z a1 m1) → va_S A s.heap H locs → ∀ (ls : Array Slot), lv_has ls 6 [(0, .ref (a1 0)), (1, .int p1), (3, .int p3), (4, .int x1), (5, .int x2)] → zl2 F3 n x1 x2 = some rr → GI p l e (headSpec wsX0_waitedTill ({ frames := 0, cells := 0, slots := 0, locals := 0 } : Room)).room s m ([.ref (a1 0), .int p1, .int p2, .int p3] : List Value).toArray below meth c A D z rr (WArr z a1 m1) H locs (F0 m 6 ls []) := by
    intro n
    induction n with
    | zero =>
      intro x1 x2 H locs hP hD hS ls hl hf
      exact no_none hf
    | succ n ih5 =>
      intro x1 x2 H locs hP hD hS ls hl hf
      have hf := zl2_s eF3 hf
      refine lv_iload hx hb dX0_waitedTill_6 (lv_at hl 4 rfl) ?_
      refine lv_iload_n hx hb dX0_waitedTill_8 rfl (lv_at hl 2 rfl) ?_
      refine lv_icmp_gt (tgt := 41) hx hb dX0_waitedTill_9 (by decide) (fun c6 => ?_) (fun c6 => ?_)
      · have hf := if_t c6 hf
        refine lv_iload hx hb dX0_waitedTill_41 (lv_at hl 3 rfl) ?_
        obtain rfl := so1 hf
        exact ret_i hx hb hr hlocks hK hP hD hS dX0_waitedTill_43
      · have hf := if_f c6 hf
        refine lv_iload hx hb dX0_waitedTill_12 (lv_at hl 4 rfl) ?_
        refine lv_aload_n hx hb dX0_waitedTill_14 rfl (lv_at hl 0 rfl) ?_
        refine va_get (D := D) (ci := 0) (v := .int (m1 0 2)) (C := RX0) (T := TX0) (N := 3) hx hb hts iX0 hown hK hP 0 rfl rfl 2 (by decide) (hts _ aw215) (fun _ h9 => h9) rfl dX0_waitedTill_15 ?_
        refine lv_icmp_ge (tgt := 41) hx hb dX0_waitedTill_18 (by decide) (fun c7 => ?_) (fun c7 => ?_)
        · have hf := if_t c7 hf
          refine lv_iload hx hb dX0_waitedTill_41 (lv_at hl 3 rfl) ?_
          obtain rfl := so1 hf
          exact ret_i hx hb hr hlocks hK hP hD hS dX0_waitedTill_43
        · have hf := if_f c7 hf
          refine lv_iload hx hb dX0_waitedTill_21 (lv_at hl 3 rfl) ?_
          refine lv_iload_n hx hb dX0_waitedTill_23 rfl (lv_at hl 1 rfl) ?_
          refine lv_aload_n hx hb dX0_waitedTill_24 rfl (lv_at hl 0 rfl) ?_
          refine va_get (D := D) (ci := 0) (v := .ref (a1 1)) (C := RX0) (T := TX0) (N := 3) hx hb hts iX0 hown hK hP 0 rfl rfl 0 (by decide) (hts _ aw213) (fun _ h9 => h9) rfl dX0_waitedTill_25 ?_
          refine lv_iload hx hb dX0_waitedTill_28 (lv_at hl 4 rfl) ?_
          obtain ⟨h8, hf⟩ := ck_use hf
          refine z_iald hx hb hK hP 1 rfl h8 dX0_waitedTill_30 ?_
          refine lv_isub hx hb dX0_waitedTill_31 ?_
          refine lv_iadd hx hb dX0_waitedTill_32 ?_
          refine lv_topi (fun x9 ex9 => ?_)
          have hf := lt_use ex9 hf
          refine lv_istore (lv' := [(4, .int x9), (0, .ref (a1 0)), (1, .int p1), (3, .int p3), (5, .int x2)]) hx hb dX0_waitedTill_33 hl (by decide) rfl (fun ls hl => ?_)
          obtain ⟨x10, ex10⟩ : ∃ y : Int32, y = x2 + 1 := ⟨_, rfl⟩
          have hf := lt_use ex10 hf
          refine lv_iinc (v := x10) (lv' := [(5, .int x10), (4, .int x9), (0, .ref (a1 0)), (1, .int p1), (3, .int p3)]) hx hb dX0_waitedTill_35 hl (k := 4) rfl (by rw [ex10]; rfl) (by decide) rfl (fun ls hl => ?_)
          refine lv_goto (tgt := 6) hx hb dX0_waitedTill_38 (by decide) ?_
          exact ih5 _ _ _ _ hP hD hS _ (lv_sub hl [2, 3, 4, 1, 0] rfl) hf
  exact L6_F3 fu _ _ _ _ hP hD hS _ (lv_sub hl [2, 3, 5, 1, 0] rfl) hf
def pX0_boilsCost (fu : Nat) (m1 : Mem) (m2 : Rw) (p1 : Int32) : Option Int32 :=
  zl5 (fun g7 (x1 : Int32) (x2 : Int32) (x3 : Int32) (x4 : Int32) (x5 : Int32) =>
    if (m1 0 2) ≤ x5 then
      if x3 = (m1 0 2) then
        some x1
      else
        some 2147483647
    else
      ck x5 8 <|
      lt' ((x4 + (m1 2 x5.toNatClampNeg)) : Int32) fun x12 =>
      if x12 ≤ (m2 0) then
        if ((p1 >>> (x5 &&& 31)) &&& 1) = 1 then
          ck x5 8 <|
          bd (pX6_heatingMinutes fu x12 10 (m2 2)) fun r17 =>
          lt' ((((imax x2 (m1 1 x5.toNatClampNeg)) + (m2 1)) + r17) : Int32) fun x19 =>
          bd (pX0_waitedTill fu m1 x19 x3 x5) fun r20 =>
          lt' ((x1 + ((r20 * (m2 4)) + 3)) : Int32) fun x22 =>
          lt' ((x5 + 1) : Int32) fun x23 =>
          lt' (x5 + 1) fun x24 =>
          g7 x22 x19 x23 0 x24
        else
          lt' (x5 + 1) fun x15 =>
          g7 x1 x2 x3 x12 x15
      else
        some 2147483647) fu 0 0 0 0 0
set_option maxHeartbeats 4000000 in
set_option maxRecDepth 100000 in
theorem tX0_boilsCost (l : Launch) (D : va_G) (z tt : Nat → Nat) (a1 : Nat → Nat) (a2 : Nat) (m1 : Mem) (m2 : Rw) (p1 : Int32) (fu : Nat) (rr : Int32) (hf : pX0_boilsCost fu m1 m2 p1 = some rr) : MetI l yX0_boilsCost wsX0_boilsCost ({ frames := 1, cells := 0, slots := 0, locals := 25 } : Room) D z tt ([.ref (a1 0), .int p1, .ref a2] : List Value) (WArr z a1 m1 ++ (WRow z a2 8 m2)) rr (WArr z a1 m1 ++ (WRow z a2 8 m2)) := by
  intro sz
  refine Met.ofW (cc := cX0_boilsCost) (maxL := 8) (ret := (some .int)) (by decide) rfl ?_
  intro p e s m args below meth c s₁ B hml hv
  obtain ⟨rfl, hsz, hP, hK, hD0, hT, hN⟩ := hv
  have hx := B.exec
  have hb := B.bytes
  have hr := B.returns
  have hts : ∀ w ∈ wsA, w.before ([.ref (a1 0), .int p1, .ref a2] : List Value).toArray s = true := fun w h => atoms_spec (ws := wsX0_boilsCost) B.pre w (List.mem_cons_of_mem _ h)
  have hown : s.vm.findClass RX0 = some m.cls := findClass_of_methodNamed B.named
  have hlocks := B.notSynchronized
  subst hsz
  have hD := hD0.self (sz := s.heap.size)
  generalize hAe : va_A (WArr z a1 m1 ++ (WRow z a2 8 m2)) s.heap.size = A at hD hT ⊢
  have hA : ∀ q : Nat, s.heap.size ≤ q → A q := fun q h => by rw [← hAe]; exact Or.inr h
  have hS : va_S A s.heap s.heap [] := va_S.rf
  have hl := lv_entry ([.ref (a1 0), .int p1, .ref a2] : List Value) (n := 8) (Nat.le_of_ble_eq_true rfl)
  rw [lg_entry_eq]
  generalize (lg_sl ([.ref (a1 0), .int p1, .ref a2] : List Value) ++ List.replicate (8 - (lg_sl ([.ref (a1 0), .int p1, .ref a2] : List Value)).length) Slot.unset).toArray = ls at hl ⊢
  have hl : lv_has ls 8 [(0, .ref (a1 0)), (1, .int p1), (2, .ref a2)] := hl
  unfold pX0_boilsCost at hf
  refine lv_iconst (v := 0) hx hb dX0_boilsCost_0 (by decide) ?_
  refine lv_istore_n (lv' := [(3, .int 0), (0, .ref (a1 0)), (1, .int p1), (2, .ref a2)]) hx hb dX0_boilsCost_1 rfl hl (by decide) rfl (fun ls hl => ?_)
  refine lv_iconst (v := 0) hx hb dX0_boilsCost_2 (by decide) ?_
  refine lv_istore (lv' := [(4, .int 0), (3, .int 0), (0, .ref (a1 0)), (1, .int p1), (2, .ref a2)]) hx hb dX0_boilsCost_3 hl (by decide) rfl (fun ls hl => ?_)
  refine lv_iconst (v := 0) hx hb dX0_boilsCost_5 (by decide) ?_
  refine lv_istore (lv' := [(5, .int 0), (4, .int 0), (3, .int 0), (0, .ref (a1 0)), (1, .int p1), (2, .ref a2)]) hx hb dX0_boilsCost_6 hl (by decide) rfl (fun ls hl => ?_)
  refine lv_iconst (v := 0) hx hb dX0_boilsCost_8 (by decide) ?_
  refine lv_istore (lv' := [(6, .int 0), (5, .int 0), (4, .int 0), (3, .int 0), (0, .ref (a1 0)), (1, .int p1), (2, .ref a2)]) hx hb dX0_boilsCost_9 hl (by decide) rfl (fun ls hl => ?_)
  refine lv_iconst (v := 0) hx hb dX0_boilsCost_11 (by decide) ?_
  refine lv_istore (lv' := [(7, .int 0), (6, .int 0), (5, .int 0), (4, .int 0), (3, .int 0), (0, .ref (a1 0)), (1, .int p1), (2, .ref a2)]) hx hb dX0_boilsCost_12 hl (by decide) rfl (fun ls hl => ?_)
  obtain ⟨F6, eF6, hf⟩ := zl5_use hf
  have L14_F6 : ∀ (n : Nat) (x1 : Int32) (x2 : Int32) (x3 : Int32) (x4 : Int32) (x5 : Int32) (H : Heap) (locs : List Loc), va_P D vwCl (WArr z a1 m1 ++ (WRow z a2 8 m2)) H → va_D A (WArr z a1 m1 ++ (WRow z a2 8 m2)) → va_S A s.heap H locs → ∀ (ls : Array Slot), lv_has ls 8 [(0, .ref (a1 0)), (1, .int p1), (2, .ref a2), (3, .int x1), (4, .int x2), (5, .int x3), (6, .int x4), (7, .int x5)] → zl5 F6 n x1 x2 x3 x4 x5 = some rr → GI p l e (headSpec wsX0_boilsCost ({ frames := 1, cells := 0, slots := 0, locals := 25 } : Room)).room s m ([.ref (a1 0), .int p1, .ref a2] : List Value).toArray below meth c A D z rr (WArr z a1 m1 ++ (WRow z a2 8 m2)) H locs (F0 m 14 ls []) := by
    intro n
    induction n with
    | zero =>
      intro x1 x2 x3 x4 x5 H locs hP hD hS ls hl hf
      exact no_none hf
    | succ n ih8 =>
      intro x1 x2 x3 x4 x5 H locs hP hD hS ls hl hf
      have hf := zl5_s eF6 hf
      refine lv_iload hx hb dX0_boilsCost_14 (lv_at hl 7 rfl) ?_
      refine lv_aload_n hx hb dX0_boilsCost_16 rfl (lv_at hl 0 rfl) ?_
      refine va_get (D := D) (ci := 0) (v := .int (m1 0 2)) (C := RX0) (T := TX0) (N := 3) hx hb hts iX0 hown hK hP 0 rfl rfl 2 (by decide) (hts _ aw215) (fun _ h9 => h9) rfl dX0_boilsCost_17 ?_
      refine lv_icmp_ge (tgt := 119) hx hb dX0_boilsCost_20 (by decide) (fun c9 => ?_) (fun c9 => ?_)
      · have hf := if_t c9 hf
        refine lv_iload hx hb dX0_boilsCost_119 (lv_at hl 5 rfl) ?_
        refine lv_aload_n hx hb dX0_boilsCost_121 rfl (lv_at hl 0 rfl) ?_
        refine va_get (D := D) (ci := 0) (v := .int (m1 0 2)) (C := RX0) (T := TX0) (N := 3) hx hb hts iX0 hown hK hP 0 rfl rfl 2 (by decide) (hts _ aw215) (fun _ h9 => h9) rfl dX0_boilsCost_122 ?_
        refine lv_icmp_ne (tgt := 132) hx hb dX0_boilsCost_125 (by decide) (fun c10 => ?_) (fun c10 => ?_)
        · have hf := if_f c10 hf
          refine lv_ldc (v := 2147483647) hx hb hown (hts _ aw634) dX0_boilsCost_132 ?_
          obtain rfl := so1 hf
          exact ret_i hx hb hr hlocks hK hP hD hS dX0_boilsCost_134
        · have hf := if_t c10 hf
          refine lv_iload_n hx hb dX0_boilsCost_128 rfl (lv_at hl 3 rfl) ?_
          refine lv_goto (tgt := 134) hx hb dX0_boilsCost_129 (by decide) ?_
          obtain rfl := so1 hf
          exact ret_i hx hb hr hlocks hK hP hD hS dX0_boilsCost_134
      · have hf := if_f c9 hf
        refine lv_iload hx hb dX0_boilsCost_23 (lv_at hl 6 rfl) ?_
        refine lv_aload_n hx hb dX0_boilsCost_25 rfl (lv_at hl 0 rfl) ?_
        refine va_get (D := D) (ci := 0) (v := .ref (a1 2)) (C := RX0) (T := TX0) (N := 3) hx hb hts iX0 hown hK hP 0 rfl rfl 1 (by decide) (hts _ aw214) (fun _ h9 => h9) rfl dX0_boilsCost_26 ?_
        refine lv_iload hx hb dX0_boilsCost_29 (lv_at hl 7 rfl) ?_
        obtain ⟨h11, hf⟩ := ck_use hf
        refine z_iald hx hb hK hP 2 rfl h11 dX0_boilsCost_31 ?_
        refine lv_iadd hx hb dX0_boilsCost_32 ?_
        refine lv_topi (fun x12 ex12 => ?_)
        have hf := lt_use ex12 hf
        refine lv_istore (lv' := [(6, .int x12), (0, .ref (a1 0)), (1, .int p1), (2, .ref a2), (3, .int x1), (4, .int x2), (5, .int x3), (7, .int x5)]) hx hb dX0_boilsCost_33 hl (by decide) rfl (fun ls hl => ?_)
        refine lv_iload hx hb dX0_boilsCost_35 (lv_at hl 0 rfl) ?_
        refine lv_aload_n hx hb dX0_boilsCost_37 rfl (lv_at hl 3 rfl) ?_
        refine lv_iconst (v := 0) hx hb dX0_boilsCost_38 (by decide) ?_
        refine z_ialdc hx hb hK hP 3 rfl (i := 0) (k := 0) (by decide) (Nat.le_of_ble_eq_true rfl) dX0_boilsCost_39 ?_
        refine lv_icmp_le (tgt := 46) hx hb dX0_boilsCost_40 (by decide) (fun c13 => ?_) (fun c13 => ?_)
        · have hf := if_t c13 hf
          refine lv_iload_n hx hb dX0_boilsCost_46 rfl (lv_at hl 2 rfl) ?_
          refine lv_iload hx hb dX0_boilsCost_47 (lv_at hl 7 rfl) ?_
          refine lv_ishr hx hb dX0_boilsCost_49 ?_
          refine lv_iconst (v := 1) hx hb dX0_boilsCost_50 (by decide) ?_
          refine lv_iand hx hb dX0_boilsCost_51 ?_
          refine lv_iconst (v := 1) hx hb dX0_boilsCost_52 (by decide) ?_
          refine lv_icmp_ne (tgt := 113) hx hb dX0_boilsCost_53 (by decide) (fun c14 => ?_) (fun c14 => ?_)
          · have hf := if_f c14 hf
            obtain ⟨x15, ex15⟩ : ∃ y : Int32, y = x5 + 1 := ⟨_, rfl⟩
            have hf := lt_use ex15 hf
            refine lv_iinc (v := x15) (lv' := [(7, .int x15), (6, .int x12), (0, .ref (a1 0)), (1, .int p1), (2, .ref a2), (3, .int x1), (4, .int x2), (5, .int x3)]) hx hb dX0_boilsCost_113 hl (k := 7) rfl (by rw [ex15]; rfl) (by decide) rfl (fun ls hl => ?_)
            refine lv_goto (tgt := 14) hx hb dX0_boilsCost_116 (by decide) ?_
            exact ih8 _ _ _ _ _ _ _ hP hD hS _ (lv_sub hl [2, 3, 4, 5, 6, 7, 1, 0] rfl) hf
          · have hf := if_t c14 hf
            refine lv_iload hx hb dX0_boilsCost_56 (lv_at hl 5 rfl) ?_
            refine lv_aload_n hx hb dX0_boilsCost_58 rfl (lv_at hl 1 rfl) ?_
            refine va_get (D := D) (ci := 0) (v := .ref (a1 1)) (C := RX0) (T := TX0) (N := 3) hx hb hts iX0 hown hK hP 0 rfl rfl 0 (by decide) (hts _ aw213) (fun _ h9 => h9) rfl dX0_boilsCost_59 ?_
            refine lv_iload hx hb dX0_boilsCost_62 (lv_at hl 7 rfl) ?_
            obtain ⟨h16, hf⟩ := ck_use hf
            refine z_iald hx hb hK hP 1 rfl h16 dX0_boilsCost_64 ?_
            refine z_max hx hb (by rw [hml]; exact hl.1.symm) hown (hts _ aw621) (hts _ aw352) (hts _ aw54) (hts _ aw353) (Nat.le_of_ble_eq_true rfl) (Nat.le_of_ble_eq_true rfl) dX0_boilsCost_65 (Nat.zero_le _) (Nat.zero_le _) ?_
            refine lv_aload_n hx hb dX0_boilsCost_68 rfl (lv_at hl 3 rfl) ?_
            refine lv_iconst (v := 1) hx hb dX0_boilsCost_69 (by decide) ?_
            refine z_ialdc hx hb hK hP 3 rfl (i := 1) (k := 1) (by decide) (Nat.le_of_ble_eq_true rfl) dX0_boilsCost_70 ?_
            refine lv_iadd hx hb dX0_boilsCost_71 ?_
            refine lv_iload hx hb dX0_boilsCost_72 (lv_at hl 0 rfl) ?_
            refine lv_bipush (v := 10) hx hb dX0_boilsCost_74 (by decide) ?_
            refine lv_aload_n hx hb dX0_boilsCost_76 rfl (lv_at hl 3 rfl) ?_
            refine lv_iconst (v := 2) hx hb dX0_boilsCost_77 (by decide) ?_
            refine z_ialdc hx hb hK hP 3 rfl (i := 2) (k := 2) (by decide) (Nat.le_of_ble_eq_true rfl) dX0_boilsCost_78 ?_
            obtain ⟨r17, q18, hf⟩ := bd_use hf
            have hfo : Foc (WArr z a1 m1 ++ (WRow z a2 8 m2)) ([] : va_W) (WArr z a1 m1 ++ (WRow z a2 8 m2)) ([] : va_W) := foc_nil
            refine z_goI (ws1 := (WArr z a1 m1 ++ (WRow z a2 8 m2))) (va_runSN (As := [.int x12, .int 10, .int (m2 2)]) (rest := [.int ((imax x2 (m1 1 x5.toNatClampNeg)) + (m2 1))]) ⟨hx, hb, hml, hown, hts⟩ (tX6_heatingMinutes l D z tt  x12 10 (m2 2) fu r17 q18 _) ⟨va_cnB 3 hts (gC1 aw494) rfl rfl rfl hN.1 (hts _ aw45) (by decide +kernel) ⟨Nat.le_of_ble_eq_true rfl, Nat.le_of_ble_eq_true rfl⟩, (hts _ aw493), trivial⟩ (z_preS hK hP hD hS hA hT hN hfo) rfl rfl hl.1 rfl (lv_room (Nat.le_of_ble_eq_true rfl)) dX0_boilsCost_79 ⟨Nat.zero_le _, Nat.zero_le _⟩) hP hD hS hA hfo (fun H locs hP hD hS => ?_)
            refine lv_iadd hx hb dX0_boilsCost_82 ?_
            refine lv_topi (fun x19 ex19 => ?_)
            have hf := lt_use ex19 hf
            refine lv_istore (lv' := [(4, .int x19), (6, .int x12), (0, .ref (a1 0)), (1, .int p1), (2, .ref a2), (3, .int x1), (5, .int x3), (7, .int x5)]) hx hb dX0_boilsCost_83 hl (by decide) rfl (fun ls hl => ?_)
            refine lv_iload_n hx hb dX0_boilsCost_85 rfl (lv_at hl 5 rfl) ?_
            refine lv_aload_n hx hb dX0_boilsCost_86 rfl (lv_at hl 2 rfl) ?_
            refine lv_iload hx hb dX0_boilsCost_87 (lv_at hl 0 rfl) ?_
            refine lv_iload hx hb dX0_boilsCost_89 (lv_at hl 6 rfl) ?_
            refine lv_iload hx hb dX0_boilsCost_91 (lv_at hl 7 rfl) ?_
            obtain ⟨r20, q21, hf⟩ := bd_use hf
            have hfo : Foc (WArr z a1 m1 ++ (WRow z a2 8 m2)) (WArr z a1 m1) (WArr z a1 m1 ++ (WRow z a2 8 m2)) (WArr z a1 m1) := (foc_l foc_all)
            refine z_goI (ws1 := (WArr z a1 m1 ++ (WRow z a2 8 m2))) (va_runV (As := [.int x19, .int x3, .int x5]) (rest := [.int x1]) ⟨hx, hb, hml, hown, hts⟩ (tX0_waitedTill l D z tt a1 m1 x19 x3 x5 fu r20 q21 _) (cwV 3 hts (gV4 aw640 aw641 aw642 aw50 aw643) rfl rfl rfl (by decide +kernel) ⟨Nat.le_of_ble_eq_true rfl, Nat.le_of_ble_eq_true rfl⟩) (z_preV hK hP hD hS hA hT hN hfo (va_recv hK hP (ci := 0) (q0 := 0) rfl rfl)) rfl rfl hl.1 rfl (lv_room (Nat.le_of_ble_eq_true rfl)) dX0_boilsCost_93 ⟨Nat.zero_le _, Nat.zero_le _⟩) hP hD hS hA hfo (fun H locs hP hD hS => ?_)
            refine lv_aload_n hx hb dX0_boilsCost_96 rfl (lv_at hl 4 rfl) ?_
            refine lv_iconst (v := 4) hx hb dX0_boilsCost_97 (by decide) ?_
            refine z_ialdc hx hb hK hP 3 rfl (i := 4) (k := 4) (by decide) (Nat.le_of_ble_eq_true rfl) dX0_boilsCost_98 ?_
            refine lv_imul hx hb dX0_boilsCost_99 ?_
            refine lv_iconst (v := 3) hx hb dX0_boilsCost_100 (by decide) ?_
            refine lv_iadd hx hb dX0_boilsCost_101 ?_
            refine lv_iadd hx hb dX0_boilsCost_102 ?_
            refine lv_topi (fun x22 ex22 => ?_)
            have hf := lt_use ex22 hf
            refine lv_istore_n (lv' := [(3, .int x22), (4, .int x19), (6, .int x12), (0, .ref (a1 0)), (1, .int p1), (2, .ref a2), (5, .int x3), (7, .int x5)]) hx hb dX0_boilsCost_103 rfl hl (by decide) rfl (fun ls hl => ?_)
            refine lv_iload hx hb dX0_boilsCost_104 (lv_at hl 7 rfl) ?_
            refine lv_iconst (v := 1) hx hb dX0_boilsCost_106 (by decide) ?_
            refine lv_iadd hx hb dX0_boilsCost_107 ?_
            refine lv_topi (fun x23 ex23 => ?_)
            have hf := lt_use ex23 hf
            refine lv_istore (lv' := [(5, .int x23), (3, .int x22), (4, .int x19), (6, .int x12), (0, .ref (a1 0)), (1, .int p1), (2, .ref a2), (7, .int x5)]) hx hb dX0_boilsCost_108 hl (by decide) rfl (fun ls hl => ?_)
            refine lv_iconst (v := 0) hx hb dX0_boilsCost_110 (by decide) ?_
            refine lv_istore (lv' := [(6, .int 0), (5, .int x23), (3, .int x22), (4, .int x19), (0, .ref (a1 0)), (1, .int p1), (2, .ref a2), (7, .int x5)]) hx hb dX0_boilsCost_111 hl (by decide) rfl (fun ls hl => ?_)
            obtain ⟨x24, ex24⟩ : ∃ y : Int32, y = x5 + 1 := ⟨_, rfl⟩
            have hf := lt_use ex24 hf
            refine lv_iinc (v := x24) (lv' := [(7, .int x24), (6, .int 0), (5, .int x23), (3, .int x22), (4, .int x19), (0, .ref (a1 0)), (1, .int p1), (2, .ref a2)]) hx hb dX0_boilsCost_113 hl (k := 7) rfl (by rw [ex24]; rfl) (by decide) rfl (fun ls hl => ?_)
            refine lv_goto (tgt := 14) hx hb dX0_boilsCost_116 (by decide) ?_
            exact ih8 _ _ _ _ _ _ _ hP hD hS _ (lv_sub hl [5, 6, 7, 3, 4, 2, 1, 0] rfl) hf
        · have hf := if_f c13 hf
          refine lv_ldc (v := 2147483647) hx hb hown (hts _ aw634) dX0_boilsCost_43 ?_
          obtain rfl := so1 hf
          exact ret_i hx hb hr hlocks hK hP hD hS dX0_boilsCost_45
  exact L14_F6 fu _ _ _ _ _ _ _ hP hD hS _ (lv_sub hl [5, 6, 7, 4, 3, 2, 1, 0] rfl) hf
def pX0_leastBoils (fu : Nat) (m1 : Mem) (m2 : Mem) (p2 : Int32) : Option Int32 :=
  zl3 (fun g5 (x1 : Int32) (x2 : Int32) (x3 : Int32) =>
    if (1 <<< ((m1 0 2) &&& 31)) ≤ x3 then
      if p2 = 0 then
        some x1
      else
        some x2
    else
      bd (pX0_boilsCost fu m1 (m2 1) x3) fun r9 =>
      if x2 ≤ r9 then
        lt' (x3 + 1) fun x12 =>
        g5 x1 x2 x12
      else
        lt' (x3 + 1) fun x13 =>
        g5 x3 r9 x13) fu 0 2147483647 0
set_option maxHeartbeats 4000000 in
set_option maxRecDepth 100000 in
theorem tX0_leastBoils (l : Launch) (D : va_G) (z tt : Nat → Nat) (a1 : Nat → Nat) (a2 : Nat → Nat) (m1 : Mem) (m2 : Mem) (p2 : Int32) (fu : Nat) (rr : Int32) (hf : pX0_leastBoils fu m1 m2 p2 = some rr) : MetI l yX0_leastBoils wsX0_leastBoils ({ frames := 2, cells := 0, slots := 0, locals := 52 } : Room) D z tt ([.ref (a1 0), .ref (a2 0), .int p2] : List Value) (WArr z a1 m1 ++ (WDay z a2 m2)) rr (WArr z a1 m1 ++ (WDay z a2 m2)) := by
  intro sz
  refine Met.ofW (cc := cX0_leastBoils) (maxL := 7) (ret := (some .int)) (by decide) rfl ?_
  intro p e s m args below meth c s₁ B hml hv
  obtain ⟨rfl, hsz, hP, hK, hD0, hT, hN⟩ := hv
  have hx := B.exec
  have hb := B.bytes
  have hr := B.returns
  have hts : ∀ w ∈ wsA, w.before ([.ref (a1 0), .ref (a2 0), .int p2] : List Value).toArray s = true := fun w h => atoms_spec (ws := wsX0_leastBoils) B.pre w (List.mem_cons_of_mem _ h)
  have hown : s.vm.findClass RX0 = some m.cls := findClass_of_methodNamed B.named
  have hlocks := B.notSynchronized
  subst hsz
  have hD := hD0.self (sz := s.heap.size)
  generalize hAe : va_A (WArr z a1 m1 ++ (WDay z a2 m2)) s.heap.size = A at hD hT ⊢
  have hA : ∀ q : Nat, s.heap.size ≤ q → A q := fun q h => by rw [← hAe]; exact Or.inr h
  have hS : va_S A s.heap s.heap [] := va_S.rf
  have hl := lv_entry ([.ref (a1 0), .ref (a2 0), .int p2] : List Value) (n := 7) (Nat.le_of_ble_eq_true rfl)
  rw [lg_entry_eq]
  generalize (lg_sl ([.ref (a1 0), .ref (a2 0), .int p2] : List Value) ++ List.replicate (7 - (lg_sl ([.ref (a1 0), .ref (a2 0), .int p2] : List Value)).length) Slot.unset).toArray = ls at hl ⊢
  have hl : lv_has ls 7 [(0, .ref (a1 0)), (1, .ref (a2 0)), (2, .int p2)] := hl
  unfold pX0_leastBoils at hf
  refine lv_iconst (v := 0) hx hb dX0_leastBoils_0 (by decide) ?_
  refine lv_istore_n (lv' := [(3, .int 0), (0, .ref (a1 0)), (1, .ref (a2 0)), (2, .int p2)]) hx hb dX0_leastBoils_1 rfl hl (by decide) rfl (fun ls hl => ?_)
  refine lv_ldc (v := 2147483647) hx hb hown (hts _ aw634) dX0_leastBoils_2 ?_
  refine lv_istore (lv' := [(4, .int 2147483647), (3, .int 0), (0, .ref (a1 0)), (1, .ref (a2 0)), (2, .int p2)]) hx hb dX0_leastBoils_4 hl (by decide) rfl (fun ls hl => ?_)
  refine lv_iconst (v := 0) hx hb dX0_leastBoils_6 (by decide) ?_
  refine lv_istore (lv' := [(5, .int 0), (4, .int 2147483647), (3, .int 0), (0, .ref (a1 0)), (1, .ref (a2 0)), (2, .int p2)]) hx hb dX0_leastBoils_7 hl (by decide) rfl (fun ls hl => ?_)
  obtain ⟨F4, eF4, hf⟩ := zl3_use hf
  have L9_F4 : ∀ (n : Nat) (x1 : Int32) (x2 : Int32) (x3 : Int32) (H : Heap) (locs : List Loc), va_P D vwCl (WArr z a1 m1 ++ (WDay z a2 m2)) H → va_D A (WArr z a1 m1 ++ (WDay z a2 m2)) → va_S A s.heap H locs → ∀ (ls : Array Slot), lv_has ls 7 [(0, .ref (a1 0)), (1, .ref (a2 0)), (2, .int p2), (3, .int x1), (4, .int x2), (5, .int x3)] → zl3 F4 n x1 x2 x3 = some rr → GI p l e (headSpec wsX0_leastBoils ({ frames := 2, cells := 0, slots := 0, locals := 52 } : Room)).room s m ([.ref (a1 0), .ref (a2 0), .int p2] : List Value).toArray below meth c A D z rr (WArr z a1 m1 ++ (WDay z a2 m2)) H locs (F0 m 9 ls []) := by
    intro n
    induction n with
    | zero =>
      intro x1 x2 x3 H locs hP hD hS ls hl hf
      exact no_none hf
    | succ n ih6 =>
      intro x1 x2 x3 H locs hP hD hS ls hl hf
      have hf := zl3_s eF4 hf
      refine lv_iload hx hb dX0_leastBoils_9 (lv_at hl 5 rfl) ?_
      refine lv_iconst (v := 1) hx hb dX0_leastBoils_11 (by decide) ?_
      refine lv_aload_n hx hb dX0_leastBoils_12 rfl (lv_at hl 0 rfl) ?_
      refine va_get (D := D) (ci := 0) (v := .int (m1 0 2)) (C := RX0) (T := TX0) (N := 3) hx hb hts iX0 hown hK hP 0 rfl rfl 2 (by decide) (hts _ aw215) (fun _ h9 => h9) rfl dX0_leastBoils_13 ?_
      refine lv_ishl hx hb dX0_leastBoils_16 ?_
      refine lv_icmp_ge (tgt := 52) hx hb dX0_leastBoils_17 (by decide) (fun c7 => ?_) (fun c7 => ?_)
      · have hf := if_t c7 hf
        refine lv_iload_n hx hb dX0_leastBoils_52 rfl (lv_at hl 2 rfl) ?_
        refine lv_if_eq (tgt := 61) hx hb dX0_leastBoils_53 (by decide) (fun c8 => ?_) (fun c8 => ?_)
        · have hf := if_t c8 hf
          refine lv_iload_n hx hb dX0_leastBoils_61 rfl (lv_at hl 3 rfl) ?_
          obtain rfl := so1 hf
          exact ret_i hx hb hr hlocks hK hP hD hS dX0_leastBoils_62
        · have hf := if_f c8 hf
          refine lv_iload hx hb dX0_leastBoils_56 (lv_at hl 4 rfl) ?_
          refine lv_goto (tgt := 62) hx hb dX0_leastBoils_58 (by decide) ?_
          obtain rfl := so1 hf
          exact ret_i hx hb hr hlocks hK hP hD hS dX0_leastBoils_62
      · have hf := if_f c7 hf
        refine lv_aload_n hx hb dX0_leastBoils_20 rfl (lv_at hl 0 rfl) ?_
        refine lv_iload hx hb dX0_leastBoils_21 (lv_at hl 5 rfl) ?_
        refine lv_aload_n hx hb dX0_leastBoils_23 rfl (lv_at hl 1 rfl) ?_
        refine va_get (D := D) (ci := 2) (v := .ref (a2 1)) (C := RX2) (T := TX2) (N := 8) hx hb hts iX2 hown hK hP 3 rfl rfl 0 (by decide) (hts _ aw151) (fun _ h9 => h9) rfl dX0_leastBoils_24 ?_
        obtain ⟨r9, q10, hf⟩ := bd_use hf
        have hfo : Foc (WArr z a1 m1 ++ (WDay z a2 m2)) (WArr z a1 m1 ++ (WRow z (a2 1) 8 (m2 1))) (WArr z a1 m1 ++ (WDay z a2 m2)) (WArr z a1 m1 ++ (WRow z (a2 1) 8 (m2 1))) := (foc_app foc_all (foc_els (k := 1) rfl))
        refine z_goI (ws1 := (WArr z a1 m1 ++ (WDay z a2 m2))) (va_runV (As := [.int x3, .ref (a2 1)]) (rest := []) ⟨hx, hb, hml, hown, hts⟩ (tX0_boilsCost l D z tt a1 (a2 1) m1 (m2 1) x3 fu r9 q10 _) (cwV 2 hts (gV4 aw635 aw636 aw637 aw50 aw638) rfl rfl rfl (by decide +kernel) ⟨Nat.le_of_ble_eq_true rfl, Nat.le_of_ble_eq_true rfl⟩) (z_preV hK hP hD hS hA hT hN hfo (va_recv hK hP (ci := 0) (q0 := 0) rfl rfl)) rfl rfl hl.1 rfl (lv_room (Nat.le_of_ble_eq_true rfl)) dX0_leastBoils_27 ⟨Nat.zero_le _, Nat.zero_le _⟩) hP hD hS hA hfo (fun H locs hP hD hS => ?_)
        refine lv_istore (lv' := [(6, .int r9), (0, .ref (a1 0)), (1, .ref (a2 0)), (2, .int p2), (3, .int x1), (4, .int x2), (5, .int x3)]) hx hb dX0_leastBoils_30 hl (by decide) rfl (fun ls hl => ?_)
        refine lv_iload hx hb dX0_leastBoils_32 (lv_at hl 0 rfl) ?_
        refine lv_iload hx hb dX0_leastBoils_34 (lv_at hl 5 rfl) ?_
        refine lv_icmp_ge (tgt := 46) hx hb dX0_leastBoils_36 (by decide) (fun c11 => ?_) (fun c11 => ?_)
        · have hf := if_t c11 hf
          obtain ⟨x12, ex12⟩ : ∃ y : Int32, y = x3 + 1 := ⟨_, rfl⟩
          have hf := lt_use ex12 hf
          refine lv_iinc (v := x12) (lv' := [(5, .int x12), (6, .int r9), (0, .ref (a1 0)), (1, .ref (a2 0)), (2, .int p2), (3, .int x1), (4, .int x2)]) hx hb dX0_leastBoils_46 hl (k := 6) rfl (by rw [ex12]; rfl) (by decide) rfl (fun ls hl => ?_)
          refine lv_goto (tgt := 9) hx hb dX0_leastBoils_49 (by decide) ?_
          exact ih6 _ _ _ _ _ hP hD hS _ (lv_sub hl [2, 3, 4, 5, 6, 0] rfl) hf
        · have hf := if_f c11 hf
          refine lv_iload hx hb dX0_leastBoils_39 (lv_at hl 0 rfl) ?_
          refine lv_istore (lv' := [(4, .int r9), (6, .int r9), (0, .ref (a1 0)), (1, .ref (a2 0)), (2, .int p2), (3, .int x1), (5, .int x3)]) hx hb dX0_leastBoils_41 hl (by decide) rfl (fun ls hl => ?_)
          refine lv_iload hx hb dX0_leastBoils_43 (lv_at hl 6 rfl) ?_
          refine lv_istore_n (lv' := [(3, .int x3), (4, .int r9), (6, .int r9), (0, .ref (a1 0)), (1, .ref (a2 0)), (2, .int p2), (5, .int x3)]) hx hb dX0_leastBoils_45 rfl hl (by decide) rfl (fun ls hl => ?_)
          obtain ⟨x13, ex13⟩ : ∃ y : Int32, y = x3 + 1 := ⟨_, rfl⟩
          have hf := lt_use ex13 hf
          refine lv_iinc (v := x13) (lv' := [(5, .int x13), (3, .int x3), (4, .int r9), (6, .int r9), (0, .ref (a1 0)), (1, .ref (a2 0)), (2, .int p2)]) hx hb dX0_leastBoils_46 hl (k := 6) rfl (by rw [ex13]; rfl) (by decide) rfl (fun ls hl => ?_)
          refine lv_goto (tgt := 9) hx hb dX0_leastBoils_49 (by decide) ?_
          exact ih6 _ _ _ _ _ hP hD hS _ (lv_sub hl [4, 5, 6, 1, 2, 0] rfl) hf
  exact L9_F4 fu _ _ _ _ _ hP hD hS _ (lv_sub hl [3, 4, 5, 2, 1, 0] rfl) hf
def pX0_waitedForSeats (fu : Nat) (m1 : Mem) (p1 : Int32) (p2 : Int32) : Option Int32 :=
  zl3 (fun g5 (x1 : Int32) (x2 : Int32) (x3 : Int32) =>
    if (m1 0 2) ≤ x3 then
      if (m1 0 2) ≤ x2 then
        some x1
      else
        ck ((m1 0 2) - 1) 8 <|
        bd (pX0_waitedTill fu m1 ((m1 1 ((m1 0 2) - 1).toNatClampNeg) + p2) x2 ((m1 0 2) - 1)) fun r10 =>
        lt' ((x1 + r10) : Int32) fun x12 =>
        some x12
    else
      if ((x3 - x2) + 1) = p1 then
        ck x3 8 <|
        bd (pX0_waitedTill fu m1 (m1 1 x3.toNatClampNeg) x2 x3) fun r16 =>
        lt' ((x1 + r16) : Int32) fun x18 =>
        lt' ((x3 + 1) : Int32) fun x19 =>
        lt' (x3 + 1) fun x20 =>
        g5 x18 x19 x20
      else
        lt' (x3 + 1) fun x14 =>
        g5 x1 x2 x14) fu 0 0 0
set_option maxHeartbeats 4000000 in
set_option maxRecDepth 100000 in
theorem tX0_waitedForSeats (l : Launch) (D : va_G) (z tt : Nat → Nat) (a1 : Nat → Nat) (m1 : Mem) (p1 : Int32) (p2 : Int32) (fu : Nat) (rr : Int32) (hf : pX0_waitedForSeats fu m1 p1 p2 = some rr) : MetI l yX0_waitedForSeats wsX0_waitedForSeats ({ frames := 1, cells := 0, slots := 0, locals := 25 } : Room) D z tt ([.ref (a1 0), .int p1, .int p2] : List Value) (WArr z a1 m1) rr (WArr z a1 m1) := by
  intro sz
  refine Met.ofW (cc := cX0_waitedForSeats) (maxL := 6) (ret := (some .int)) (by decide) rfl ?_
  intro p e s m args below meth c s₁ B hml hv
  obtain ⟨rfl, hsz, hP, hK, hD0, hT, hN⟩ := hv
  have hx := B.exec
  have hb := B.bytes
  have hr := B.returns
  have hts : ∀ w ∈ wsA, w.before ([.ref (a1 0), .int p1, .int p2] : List Value).toArray s = true := fun w h => atoms_spec (ws := wsX0_waitedForSeats) B.pre w (List.mem_cons_of_mem _ h)
  have hown : s.vm.findClass RX0 = some m.cls := findClass_of_methodNamed B.named
  have hlocks := B.notSynchronized
  subst hsz
  have hD := hD0.self (sz := s.heap.size)
  generalize hAe : va_A (WArr z a1 m1) s.heap.size = A at hD hT ⊢
  have hA : ∀ q : Nat, s.heap.size ≤ q → A q := fun q h => by rw [← hAe]; exact Or.inr h
  have hS : va_S A s.heap s.heap [] := va_S.rf
  have hl := lv_entry ([.ref (a1 0), .int p1, .int p2] : List Value) (n := 6) (Nat.le_of_ble_eq_true rfl)
  rw [lg_entry_eq]
  generalize (lg_sl ([.ref (a1 0), .int p1, .int p2] : List Value) ++ List.replicate (6 - (lg_sl ([.ref (a1 0), .int p1, .int p2] : List Value)).length) Slot.unset).toArray = ls at hl ⊢
  have hl : lv_has ls 6 [(0, .ref (a1 0)), (1, .int p1), (2, .int p2)] := hl
  unfold pX0_waitedForSeats at hf
  refine lv_iconst (v := 0) hx hb dX0_waitedForSeats_0 (by decide) ?_
  refine lv_istore_n (lv' := [(3, .int 0), (0, .ref (a1 0)), (1, .int p1), (2, .int p2)]) hx hb dX0_waitedForSeats_1 rfl hl (by decide) rfl (fun ls hl => ?_)
  refine lv_iconst (v := 0) hx hb dX0_waitedForSeats_2 (by decide) ?_
  refine lv_istore (lv' := [(4, .int 0), (3, .int 0), (0, .ref (a1 0)), (1, .int p1), (2, .int p2)]) hx hb dX0_waitedForSeats_3 hl (by decide) rfl (fun ls hl => ?_)
  refine lv_iconst (v := 0) hx hb dX0_waitedForSeats_5 (by decide) ?_
  refine lv_istore (lv' := [(5, .int 0), (4, .int 0), (3, .int 0), (0, .ref (a1 0)), (1, .int p1), (2, .int p2)]) hx hb dX0_waitedForSeats_6 hl (by decide) rfl (fun ls hl => ?_)
  obtain ⟨F4, eF4, hf⟩ := zl3_use hf
  have L8_F4 : ∀ (n : Nat) (x1 : Int32) (x2 : Int32) (x3 : Int32) (H : Heap) (locs : List Loc), va_P D vwCl (WArr z a1 m1) H → va_D A (WArr z a1 m1) → va_S A s.heap H locs → ∀ (ls : Array Slot), lv_has ls 6 [(0, .ref (a1 0)), (1, .int p1), (2, .int p2), (3, .int x1), (4, .int x2), (5, .int x3)] → zl3 F4 n x1 x2 x3 = some rr → GI p l e (headSpec wsX0_waitedForSeats ({ frames := 1, cells := 0, slots := 0, locals := 25 } : Room)).room s m ([.ref (a1 0), .int p1, .int p2] : List Value).toArray below meth c A D z rr (WArr z a1 m1) H locs (F0 m 8 ls []) := by
    intro n
    induction n with
    | zero =>
      intro x1 x2 x3 H locs hP hD hS ls hl hf
      exact no_none hf
    | succ n ih6 =>
      intro x1 x2 x3 H locs hP hD hS ls hl hf
      have hf := zl3_s eF4 hf
      refine lv_iload hx hb dX0_waitedForSeats_8 (lv_at hl 5 rfl) ?_
      refine lv_aload_n hx hb dX0_waitedForSeats_10 rfl (lv_at hl 0 rfl) ?_
      refine va_get (D := D) (ci := 0) (v := .int (m1 0 2)) (C := RX0) (T := TX0) (N := 3) hx hb hts iX0 hown hK hP 0 rfl rfl 2 (by decide) (hts _ aw215) (fun _ h9 => h9) rfl dX0_waitedForSeats_11 ?_
      refine lv_icmp_ge (tgt := 58) hx hb dX0_waitedForSeats_14 (by decide) (fun c7 => ?_) (fun c7 => ?_)
      · have hf := if_t c7 hf
        refine lv_iload hx hb dX0_waitedForSeats_58 (lv_at hl 4 rfl) ?_
        refine lv_aload_n hx hb dX0_waitedForSeats_60 rfl (lv_at hl 0 rfl) ?_
        refine va_get (D := D) (ci := 0) (v := .int (m1 0 2)) (C := RX0) (T := TX0) (N := 3) hx hb hts iX0 hown hK hP 0 rfl rfl 2 (by decide) (hts _ aw215) (fun _ h9 => h9) rfl dX0_waitedForSeats_61 ?_
        refine lv_icmp_ge (tgt := 95) hx hb dX0_waitedForSeats_64 (by decide) (fun c8 => ?_) (fun c8 => ?_)
        · have hf := if_t c8 hf
          refine lv_iload_n hx hb dX0_waitedForSeats_95 rfl (lv_at hl 3 rfl) ?_
          obtain rfl := so1 hf
          exact ret_i hx hb hr hlocks hK hP hD hS dX0_waitedForSeats_96
        · have hf := if_f c8 hf
          refine lv_iload_n hx hb dX0_waitedForSeats_67 rfl (lv_at hl 3 rfl) ?_
          refine lv_aload_n hx hb dX0_waitedForSeats_68 rfl (lv_at hl 0 rfl) ?_
          refine lv_aload_n hx hb dX0_waitedForSeats_69 rfl (lv_at hl 0 rfl) ?_
          refine va_get (D := D) (ci := 0) (v := .ref (a1 1)) (C := RX0) (T := TX0) (N := 3) hx hb hts iX0 hown hK hP 0 rfl rfl 0 (by decide) (hts _ aw213) (fun _ h9 => h9) rfl dX0_waitedForSeats_70 ?_
          refine lv_aload_n hx hb dX0_waitedForSeats_73 rfl (lv_at hl 0 rfl) ?_
          refine va_get (D := D) (ci := 0) (v := .int (m1 0 2)) (C := RX0) (T := TX0) (N := 3) hx hb hts iX0 hown hK hP 0 rfl rfl 2 (by decide) (hts _ aw215) (fun _ h9 => h9) rfl dX0_waitedForSeats_74 ?_
          refine lv_iconst (v := 1) hx hb dX0_waitedForSeats_77 (by decide) ?_
          refine lv_isub hx hb dX0_waitedForSeats_78 ?_
          obtain ⟨h9, hf⟩ := ck_use hf
          refine z_iald hx hb hK hP 1 rfl h9 dX0_waitedForSeats_79 ?_
          refine lv_iload_n hx hb dX0_waitedForSeats_80 rfl (lv_at hl 2 rfl) ?_
          refine lv_iadd hx hb dX0_waitedForSeats_81 ?_
          refine lv_iload hx hb dX0_waitedForSeats_82 (lv_at hl 4 rfl) ?_
          refine lv_aload_n hx hb dX0_waitedForSeats_84 rfl (lv_at hl 0 rfl) ?_
          refine va_get (D := D) (ci := 0) (v := .int (m1 0 2)) (C := RX0) (T := TX0) (N := 3) hx hb hts iX0 hown hK hP 0 rfl rfl 2 (by decide) (hts _ aw215) (fun _ h9 => h9) rfl dX0_waitedForSeats_85 ?_
          refine lv_iconst (v := 1) hx hb dX0_waitedForSeats_88 (by decide) ?_
          refine lv_isub hx hb dX0_waitedForSeats_89 ?_
          obtain ⟨r10, q11, hf⟩ := bd_use hf
          have hfo : Foc (WArr z a1 m1) (WArr z a1 m1) (WArr z a1 m1) (WArr z a1 m1) := foc_all
          refine z_goI (ws1 := (WArr z a1 m1)) (va_runV (As := [.int ((m1 1 ((m1 0 2) - 1).toNatClampNeg) + p2), .int x2, .int ((m1 0 2) - 1)]) (rest := [.int x1]) ⟨hx, hb, hml, hown, hts⟩ (tX0_waitedTill l D z tt a1 m1 ((m1 1 ((m1 0 2) - 1).toNatClampNeg) + p2) x2 ((m1 0 2) - 1) fu r10 q11 _) (cwV 3 hts (gV4 aw640 aw641 aw642 aw50 aw643) rfl rfl rfl (by decide +kernel) ⟨Nat.le_of_ble_eq_true rfl, Nat.le_of_ble_eq_true rfl⟩) (z_preV hK hP hD hS hA hT hN hfo (va_recv hK hP (ci := 0) (q0 := 0) rfl rfl)) rfl rfl hl.1 rfl (lv_room (Nat.le_of_ble_eq_true rfl)) dX0_waitedForSeats_90 ⟨Nat.zero_le _, Nat.zero_le _⟩) hP hD hS hA hfo (fun H locs hP hD hS => ?_)
          refine lv_iadd hx hb dX0_waitedForSeats_93 ?_
          refine lv_topi (fun x12 ex12 => ?_)
          have hf := lt_use ex12 hf
          refine lv_istore_n (lv' := [(3, .int x12), (0, .ref (a1 0)), (1, .int p1), (2, .int p2), (4, .int x2), (5, .int x3)]) hx hb dX0_waitedForSeats_94 rfl hl (by decide) rfl (fun ls hl => ?_)
          refine lv_iload_n hx hb dX0_waitedForSeats_95 rfl (lv_at hl 0 rfl) ?_
          obtain rfl := so1 hf
          exact ret_i hx hb hr hlocks hK hP hD hS dX0_waitedForSeats_96
      · have hf := if_f c7 hf
        refine lv_iload hx hb dX0_waitedForSeats_17 (lv_at hl 5 rfl) ?_
        refine lv_iload hx hb dX0_waitedForSeats_19 (lv_at hl 4 rfl) ?_
        refine lv_isub hx hb dX0_waitedForSeats_21 ?_
        refine lv_iconst (v := 1) hx hb dX0_waitedForSeats_22 (by decide) ?_
        refine lv_iadd hx hb dX0_waitedForSeats_23 ?_
        refine lv_iload_n hx hb dX0_waitedForSeats_24 rfl (lv_at hl 1 rfl) ?_
        refine lv_icmp_ne (tgt := 52) hx hb dX0_waitedForSeats_25 (by decide) (fun c13 => ?_) (fun c13 => ?_)
        · have hf := if_f c13 hf
          obtain ⟨x14, ex14⟩ : ∃ y : Int32, y = x3 + 1 := ⟨_, rfl⟩
          have hf := lt_use ex14 hf
          refine lv_iinc (v := x14) (lv' := [(5, .int x14), (0, .ref (a1 0)), (1, .int p1), (2, .int p2), (3, .int x1), (4, .int x2)]) hx hb dX0_waitedForSeats_52 hl (k := 5) rfl (by rw [ex14]; rfl) (by decide) rfl (fun ls hl => ?_)
          refine lv_goto (tgt := 8) hx hb dX0_waitedForSeats_55 (by decide) ?_
          exact ih6 _ _ _ _ _ hP hD hS _ (lv_sub hl [1, 2, 3, 4, 5, 0] rfl) hf
        · have hf := if_t c13 hf
          refine lv_iload_n hx hb dX0_waitedForSeats_28 rfl (lv_at hl 3 rfl) ?_
          refine lv_aload_n hx hb dX0_waitedForSeats_29 rfl (lv_at hl 0 rfl) ?_
          refine lv_aload_n hx hb dX0_waitedForSeats_30 rfl (lv_at hl 0 rfl) ?_
          refine va_get (D := D) (ci := 0) (v := .ref (a1 1)) (C := RX0) (T := TX0) (N := 3) hx hb hts iX0 hown hK hP 0 rfl rfl 0 (by decide) (hts _ aw213) (fun _ h9 => h9) rfl dX0_waitedForSeats_31 ?_
          refine lv_iload hx hb dX0_waitedForSeats_34 (lv_at hl 5 rfl) ?_
          obtain ⟨h15, hf⟩ := ck_use hf
          refine z_iald hx hb hK hP 1 rfl h15 dX0_waitedForSeats_36 ?_
          refine lv_iload hx hb dX0_waitedForSeats_37 (lv_at hl 4 rfl) ?_
          refine lv_iload hx hb dX0_waitedForSeats_39 (lv_at hl 5 rfl) ?_
          obtain ⟨r16, q17, hf⟩ := bd_use hf
          have hfo : Foc (WArr z a1 m1) (WArr z a1 m1) (WArr z a1 m1) (WArr z a1 m1) := foc_all
          refine z_goI (ws1 := (WArr z a1 m1)) (va_runV (As := [.int (m1 1 x3.toNatClampNeg), .int x2, .int x3]) (rest := [.int x1]) ⟨hx, hb, hml, hown, hts⟩ (tX0_waitedTill l D z tt a1 m1 (m1 1 x3.toNatClampNeg) x2 x3 fu r16 q17 _) (cwV 3 hts (gV4 aw640 aw641 aw642 aw50 aw643) rfl rfl rfl (by decide +kernel) ⟨Nat.le_of_ble_eq_true rfl, Nat.le_of_ble_eq_true rfl⟩) (z_preV hK hP hD hS hA hT hN hfo (va_recv hK hP (ci := 0) (q0 := 0) rfl rfl)) rfl rfl hl.1 rfl (lv_room (Nat.le_of_ble_eq_true rfl)) dX0_waitedForSeats_41 ⟨Nat.zero_le _, Nat.zero_le _⟩) hP hD hS hA hfo (fun H locs hP hD hS => ?_)
          refine lv_iadd hx hb dX0_waitedForSeats_44 ?_
          refine lv_topi (fun x18 ex18 => ?_)
          have hf := lt_use ex18 hf
          refine lv_istore_n (lv' := [(3, .int x18), (0, .ref (a1 0)), (1, .int p1), (2, .int p2), (4, .int x2), (5, .int x3)]) hx hb dX0_waitedForSeats_45 rfl hl (by decide) rfl (fun ls hl => ?_)
          refine lv_iload hx hb dX0_waitedForSeats_46 (lv_at hl 5 rfl) ?_
          refine lv_iconst (v := 1) hx hb dX0_waitedForSeats_48 (by decide) ?_
          refine lv_iadd hx hb dX0_waitedForSeats_49 ?_
          refine lv_topi (fun x19 ex19 => ?_)
          have hf := lt_use ex19 hf
          refine lv_istore (lv' := [(4, .int x19), (3, .int x18), (0, .ref (a1 0)), (1, .int p1), (2, .int p2), (5, .int x3)]) hx hb dX0_waitedForSeats_50 hl (by decide) rfl (fun ls hl => ?_)
          obtain ⟨x20, ex20⟩ : ∃ y : Int32, y = x3 + 1 := ⟨_, rfl⟩
          have hf := lt_use ex20 hf
          refine lv_iinc (v := x20) (lv' := [(5, .int x20), (4, .int x19), (3, .int x18), (0, .ref (a1 0)), (1, .int p1), (2, .int p2)]) hx hb dX0_waitedForSeats_52 hl (k := 5) rfl (by rw [ex20]; rfl) (by decide) rfl (fun ls hl => ?_)
          refine lv_goto (tgt := 8) hx hb dX0_waitedForSeats_55 (by decide) ?_
          exact ih6 _ _ _ _ _ hP hD hS _ (lv_sub hl [3, 4, 5, 2, 1, 0] rfl) hf
  exact L8_F4 fu _ _ _ _ _ hP hD hS _ (lv_sub hl [3, 4, 5, 2, 1, 0] rfl) hf
def pX0_waitedForTimes (fu : Nat) (m1 : Mem) (p1 : Int32) : Option Int32 :=
  zl2 (fun g4 (x1 : Int32) (x2 : Int32) =>
    if (m1 0 2) ≤ x2 then
      some x1
    else
      if p1 ≤ 0 then
        some x1
      else
        ck x2 8 <|
        bd (pJ9_floorMod_7cf53 fu (-(m1 1 x2.toNatClampNeg)) p1) fun r9 =>
        lt' ((x1 + r9) : Int32) fun x11 =>
        lt' (x2 + 1) fun x12 =>
        g4 x11 x12) fu 0 0
set_option maxHeartbeats 4000000 in
set_option maxRecDepth 100000 in
theorem tX0_waitedForTimes (l : Launch) (D : va_G) (z tt : Nat → Nat) (a1 : Nat → Nat) (m1 : Mem) (p1 : Int32) (fu : Nat) (rr : Int32) (hf : pX0_waitedForTimes fu m1 p1 = some rr) : MetI l yX0_waitedForTimes wsX0_waitedForTimes ({ frames := 1, cells := 0, slots := 0, locals := 22 } : Room) D z tt ([.ref (a1 0), .int p1] : List Value) (WArr z a1 m1) rr (WArr z a1 m1) := by
  intro sz
  refine Met.ofW (cc := cX0_waitedForTimes) (maxL := 4) (ret := (some .int)) (by decide) rfl ?_
  intro p e s m args below meth c s₁ B hml hv
  obtain ⟨rfl, hsz, hP, hK, hD0, hT, hN⟩ := hv
  have hx := B.exec
  have hb := B.bytes
  have hr := B.returns
  have hts : ∀ w ∈ wsA, w.before ([.ref (a1 0), .int p1] : List Value).toArray s = true := fun w h => atoms_spec (ws := wsX0_waitedForTimes) B.pre w (List.mem_cons_of_mem _ h)
  have hown : s.vm.findClass RX0 = some m.cls := findClass_of_methodNamed B.named
  have hlocks := B.notSynchronized
  subst hsz
  have hD := hD0.self (sz := s.heap.size)
  generalize hAe : va_A (WArr z a1 m1) s.heap.size = A at hD hT ⊢
  have hA : ∀ q : Nat, s.heap.size ≤ q → A q := fun q h => by rw [← hAe]; exact Or.inr h
  have hS : va_S A s.heap s.heap [] := va_S.rf
  have hl := lv_entry ([.ref (a1 0), .int p1] : List Value) (n := 4) (Nat.le_of_ble_eq_true rfl)
  rw [lg_entry_eq]
  generalize (lg_sl ([.ref (a1 0), .int p1] : List Value) ++ List.replicate (4 - (lg_sl ([.ref (a1 0), .int p1] : List Value)).length) Slot.unset).toArray = ls at hl ⊢
  have hl : lv_has ls 4 [(0, .ref (a1 0)), (1, .int p1)] := hl
  unfold pX0_waitedForTimes at hf
  refine lv_iconst (v := 0) hx hb dX0_waitedForTimes_0 (by decide) ?_
  refine lv_istore_n (lv' := [(2, .int 0), (0, .ref (a1 0)), (1, .int p1)]) hx hb dX0_waitedForTimes_1 rfl hl (by decide) rfl (fun ls hl => ?_)
  refine lv_iconst (v := 0) hx hb dX0_waitedForTimes_2 (by decide) ?_
  refine lv_istore_n (lv' := [(3, .int 0), (2, .int 0), (0, .ref (a1 0)), (1, .int p1)]) hx hb dX0_waitedForTimes_3 rfl hl (by decide) rfl (fun ls hl => ?_)
  obtain ⟨F3, eF3, hf⟩ := zl2_use hf
  have L4_F3 : ∀ (n : Nat) (x1 : Int32) (x2 : Int32) (H : Heap) (locs : List Loc), va_P D vwCl (WArr z a1 m1) H → va_D A (WArr z a1 m1) → va_S A s.heap H locs → ∀ (ls : Array Slot), lv_has ls 4 [(0, .ref (a1 0)), (1, .int p1), (2, .int x1), (3, .int x2)] → zl2 F3 n x1 x2 = some rr → GI p l e (headSpec wsX0_waitedForTimes ({ frames := 1, cells := 0, slots := 0, locals := 22 } : Room)).room s m ([.ref (a1 0), .int p1] : List Value).toArray below meth c A D z rr (WArr z a1 m1) H locs (F0 m 4 ls []) := by
    intro n
    induction n with
    | zero =>
      intro x1 x2 H locs hP hD hS ls hl hf
      exact no_none hf
    | succ n ih5 =>
      intro x1 x2 H locs hP hD hS ls hl hf
      have hf := zl2_s eF3 hf
      refine lv_iload_n hx hb dX0_waitedForTimes_4 rfl (lv_at hl 3 rfl) ?_
      refine lv_aload_n hx hb dX0_waitedForTimes_5 rfl (lv_at hl 0 rfl) ?_
      refine va_get (D := D) (ci := 0) (v := .int (m1 0 2)) (C := RX0) (T := TX0) (N := 3) hx hb hts iX0 hown hK hP 0 rfl rfl 2 (by decide) (hts _ aw215) (fun _ h9 => h9) rfl dX0_waitedForTimes_6 ?_
      refine lv_icmp_ge (tgt := 36) hx hb dX0_waitedForTimes_9 (by decide) (fun c6 => ?_) (fun c6 => ?_)
      · have hf := if_t c6 hf
        refine lv_iload_n hx hb dX0_waitedForTimes_36 rfl (lv_at hl 2 rfl) ?_
        obtain rfl := so1 hf
        exact ret_i hx hb hr hlocks hK hP hD hS dX0_waitedForTimes_37
      · have hf := if_f c6 hf
        refine lv_iload_n hx hb dX0_waitedForTimes_12 rfl (lv_at hl 1 rfl) ?_
        refine lv_if_le (tgt := 36) hx hb dX0_waitedForTimes_13 (by decide) (fun c7 => ?_) (fun c7 => ?_)
        · have hf := if_t c7 hf
          refine lv_iload_n hx hb dX0_waitedForTimes_36 rfl (lv_at hl 2 rfl) ?_
          obtain rfl := so1 hf
          exact ret_i hx hb hr hlocks hK hP hD hS dX0_waitedForTimes_37
        · have hf := if_f c7 hf
          refine lv_iload_n hx hb dX0_waitedForTimes_16 rfl (lv_at hl 2 rfl) ?_
          refine lv_aload_n hx hb dX0_waitedForTimes_17 rfl (lv_at hl 0 rfl) ?_
          refine va_get (D := D) (ci := 0) (v := .ref (a1 1)) (C := RX0) (T := TX0) (N := 3) hx hb hts iX0 hown hK hP 0 rfl rfl 0 (by decide) (hts _ aw213) (fun _ h9 => h9) rfl dX0_waitedForTimes_18 ?_
          refine lv_iload_n hx hb dX0_waitedForTimes_21 rfl (lv_at hl 3 rfl) ?_
          obtain ⟨h8, hf⟩ := ck_use hf
          refine z_iald hx hb hK hP 1 rfl h8 dX0_waitedForTimes_22 ?_
          refine lv_ineg hx hb dX0_waitedForTimes_23 ?_
          refine lv_iload_n hx hb dX0_waitedForTimes_24 rfl (lv_at hl 1 rfl) ?_
          obtain ⟨r9, q10, hf⟩ := bd_use hf
          have hfo : Foc (WArr z a1 m1) ([] : va_W) (WArr z a1 m1) ([] : va_W) := foc_nil
          refine z_goI (ws1 := (WArr z a1 m1)) (va_runS (As := [.int (-(m1 1 x2.toNatClampNeg)), .int p1]) (rest := [.int x1]) ⟨hx, hb, hml, hown, hts⟩ (tJ9_floorMod_7cf53 l D z tt  (-(m1 1 x2.toNatClampNeg)) p1 fu r9 q10 _) (va_cwS 2 hts (gS3 aw660 aw661 aw54 aw662) rfl rfl rfl (by decide +kernel) ⟨Nat.le_of_ble_eq_true rfl, Nat.le_of_ble_eq_true rfl⟩) (z_preS hK hP hD hS hA hT hN hfo) rfl rfl hl.1 rfl (lv_room (Nat.le_of_ble_eq_true rfl)) dX0_waitedForTimes_25 ⟨Nat.zero_le _, Nat.zero_le _⟩) hP hD hS hA hfo (fun H locs hP hD hS => ?_)
          refine lv_iadd hx hb dX0_waitedForTimes_28 ?_
          refine lv_topi (fun x11 ex11 => ?_)
          have hf := lt_use ex11 hf
          refine lv_istore_n (lv' := [(2, .int x11), (0, .ref (a1 0)), (1, .int p1), (3, .int x2)]) hx hb dX0_waitedForTimes_29 rfl hl (by decide) rfl (fun ls hl => ?_)
          obtain ⟨x12, ex12⟩ : ∃ y : Int32, y = x2 + 1 := ⟨_, rfl⟩
          have hf := lt_use ex12 hf
          refine lv_iinc (v := x12) (lv' := [(3, .int x12), (2, .int x11), (0, .ref (a1 0)), (1, .int p1)]) hx hb dX0_waitedForTimes_30 hl (k := 3) rfl (by rw [ex12]; rfl) (by decide) rfl (fun ls hl => ?_)
          refine lv_goto (tgt := 4) hx hb dX0_waitedForTimes_33 (by decide) ?_
          exact ih5 _ _ _ _ hP hD hS _ (lv_sub hl [2, 3, 1, 0] rfl) hf
  exact L4_F3 fu _ _ _ _ hP hD hS _ (lv_sub hl [2, 3, 1, 0] rfl) hf
def pX0_bestSeats (fu : Nat) (m1 : Mem) (p1 : Int32) : Option Int32 :=
  zl3 (fun g5 (x1 : Int32) (x2 : Int32) (x3 : Int32) =>
    if 8 < x3 then
      some x1
    else
      bd (pX0_waitedForTimes fu m1 p1) fun r8 =>
      bd (pX0_waitedForSeats fu m1 x3 p1) fun r10 =>
      lt' ((r8 - r10) : Int32) fun x12 =>
      if x12 ≤ x2 then
        lt' (x3 + 1) fun x14 =>
        g5 x1 x2 x14
      else
        lt' (x3 + 1) fun x15 =>
        g5 x3 x12 x15) fu (-9) 0 1
set_option maxHeartbeats 4000000 in
set_option maxRecDepth 100000 in
theorem tX0_bestSeats (l : Launch) (D : va_G) (z tt : Nat → Nat) (a1 : Nat → Nat) (m1 : Mem) (p1 : Int32) (fu : Nat) (rr : Int32) (hf : pX0_bestSeats fu m1 p1 = some rr) : MetI l yX0_bestSeats wsX0_bestSeats ({ frames := 2, cells := 0, slots := 0, locals := 50 } : Room) D z tt ([.ref (a1 0), .int p1] : List Value) (WArr z a1 m1) rr (WArr z a1 m1) := by
  intro sz
  refine Met.ofW (cc := cX0_bestSeats) (maxL := 6) (ret := (some .int)) (by decide) rfl ?_
  intro p e s m args below meth c s₁ B hml hv
  obtain ⟨rfl, hsz, hP, hK, hD0, hT, hN⟩ := hv
  have hx := B.exec
  have hb := B.bytes
  have hr := B.returns
  have hts : ∀ w ∈ wsA, w.before ([.ref (a1 0), .int p1] : List Value).toArray s = true := fun w h => atoms_spec (ws := wsX0_bestSeats) B.pre w (List.mem_cons_of_mem _ h)
  have hown : s.vm.findClass RX0 = some m.cls := findClass_of_methodNamed B.named
  have hlocks := B.notSynchronized
  subst hsz
  have hD := hD0.self (sz := s.heap.size)
  generalize hAe : va_A (WArr z a1 m1) s.heap.size = A at hD hT ⊢
  have hA : ∀ q : Nat, s.heap.size ≤ q → A q := fun q h => by rw [← hAe]; exact Or.inr h
  have hS : va_S A s.heap s.heap [] := va_S.rf
  have hl := lv_entry ([.ref (a1 0), .int p1] : List Value) (n := 6) (Nat.le_of_ble_eq_true rfl)
  rw [lg_entry_eq]
  generalize (lg_sl ([.ref (a1 0), .int p1] : List Value) ++ List.replicate (6 - (lg_sl ([.ref (a1 0), .int p1] : List Value)).length) Slot.unset).toArray = ls at hl ⊢
  have hl : lv_has ls 6 [(0, .ref (a1 0)), (1, .int p1)] := hl
  unfold pX0_bestSeats at hf
  refine lv_bipush (v := (-9)) hx hb dX0_bestSeats_0 (by decide) ?_
  refine lv_istore_n (lv' := [(2, .int (-9)), (0, .ref (a1 0)), (1, .int p1)]) hx hb dX0_bestSeats_2 rfl hl (by decide) rfl (fun ls hl => ?_)
  refine lv_iconst (v := 0) hx hb dX0_bestSeats_3 (by decide) ?_
  refine lv_istore_n (lv' := [(3, .int 0), (2, .int (-9)), (0, .ref (a1 0)), (1, .int p1)]) hx hb dX0_bestSeats_4 rfl hl (by decide) rfl (fun ls hl => ?_)
  refine lv_iconst (v := 1) hx hb dX0_bestSeats_5 (by decide) ?_
  refine lv_istore (lv' := [(4, .int 1), (3, .int 0), (2, .int (-9)), (0, .ref (a1 0)), (1, .int p1)]) hx hb dX0_bestSeats_6 hl (by decide) rfl (fun ls hl => ?_)
  obtain ⟨F4, eF4, hf⟩ := zl3_use hf
  have L8_F4 : ∀ (n : Nat) (x1 : Int32) (x2 : Int32) (x3 : Int32) (H : Heap) (locs : List Loc), va_P D vwCl (WArr z a1 m1) H → va_D A (WArr z a1 m1) → va_S A s.heap H locs → ∀ (ls : Array Slot), lv_has ls 6 [(0, .ref (a1 0)), (1, .int p1), (2, .int x1), (3, .int x2), (4, .int x3)] → zl3 F4 n x1 x2 x3 = some rr → GI p l e (headSpec wsX0_bestSeats ({ frames := 2, cells := 0, slots := 0, locals := 50 } : Room)).room s m ([.ref (a1 0), .int p1] : List Value).toArray below meth c A D z rr (WArr z a1 m1) H locs (F0 m 8 ls []) := by
    intro n
    induction n with
    | zero =>
      intro x1 x2 x3 H locs hP hD hS ls hl hf
      exact no_none hf
    | succ n ih6 =>
      intro x1 x2 x3 H locs hP hD hS ls hl hf
      have hf := zl3_s eF4 hf
      refine lv_iload hx hb dX0_bestSeats_8 (lv_at hl 4 rfl) ?_
      refine lv_bipush (v := 8) hx hb dX0_bestSeats_10 (by decide) ?_
      refine lv_icmp_gt (tgt := 48) hx hb dX0_bestSeats_12 (by decide) (fun c7 => ?_) (fun c7 => ?_)
      · have hf := if_t c7 hf
        refine lv_iload_n hx hb dX0_bestSeats_48 rfl (lv_at hl 2 rfl) ?_
        obtain rfl := so1 hf
        exact ret_i hx hb hr hlocks hK hP hD hS dX0_bestSeats_49
      · have hf := if_f c7 hf
        refine lv_aload_n hx hb dX0_bestSeats_15 rfl (lv_at hl 0 rfl) ?_
        refine lv_iload_n hx hb dX0_bestSeats_16 rfl (lv_at hl 1 rfl) ?_
        obtain ⟨r8, q9, hf⟩ := bd_use hf
        have hfo : Foc (WArr z a1 m1) (WArr z a1 m1) (WArr z a1 m1) (WArr z a1 m1) := foc_all
        refine z_goI (ws1 := (WArr z a1 m1)) (va_runV (As := [.int p1]) (rest := []) ⟨hx, hb, hml, hown, hts⟩ (tX0_waitedForTimes l D z tt a1 m1 p1 fu r8 q9 _) (cwV 1 hts (gV4 aw671 aw657 aw658 aw50 aw659) rfl rfl rfl (by decide +kernel) ⟨Nat.le_of_ble_eq_true rfl, Nat.le_of_ble_eq_true rfl⟩) (z_preV hK hP hD hS hA hT hN hfo (va_recv hK hP (ci := 0) (q0 := 0) rfl rfl)) rfl rfl hl.1 rfl (lv_room (Nat.le_of_ble_eq_true rfl)) dX0_bestSeats_17 ⟨Nat.zero_le _, Nat.zero_le _⟩) hP hD hS hA hfo (fun H locs hP hD hS => ?_)
        refine lv_aload_n hx hb dX0_bestSeats_20 rfl (lv_at hl 0 rfl) ?_
        refine lv_iload hx hb dX0_bestSeats_21 (lv_at hl 4 rfl) ?_
        refine lv_iload_n hx hb dX0_bestSeats_23 rfl (lv_at hl 1 rfl) ?_
        obtain ⟨r10, q11, hf⟩ := bd_use hf
        have hfo : Foc (WArr z a1 m1) (WArr z a1 m1) (WArr z a1 m1) (WArr z a1 m1) := foc_all
        refine z_goI (ws1 := (WArr z a1 m1)) (va_runV (As := [.int x3, .int p1]) (rest := [.int r8]) ⟨hx, hb, hml, hown, hts⟩ (tX0_waitedForSeats l D z tt a1 m1 x3 p1 fu r10 q11 _) (cwV 2 hts (gV4 aw672 aw649 aw650 aw50 aw651) rfl rfl rfl (by decide +kernel) ⟨Nat.le_of_ble_eq_true rfl, Nat.le_of_ble_eq_true rfl⟩) (z_preV hK hP hD hS hA hT hN hfo (va_recv hK hP (ci := 0) (q0 := 0) rfl rfl)) rfl rfl hl.1 rfl (lv_room (Nat.le_of_ble_eq_true rfl)) dX0_bestSeats_24 ⟨Nat.zero_le _, Nat.zero_le _⟩) hP hD hS hA hfo (fun H locs hP hD hS => ?_)
        refine lv_isub hx hb dX0_bestSeats_27 ?_
        refine lv_topi (fun x12 ex12 => ?_)
        have hf := lt_use ex12 hf
        refine lv_istore (lv' := [(5, .int x12), (0, .ref (a1 0)), (1, .int p1), (2, .int x1), (3, .int x2), (4, .int x3)]) hx hb dX0_bestSeats_28 hl (by decide) rfl (fun ls hl => ?_)
        refine lv_iload hx hb dX0_bestSeats_30 (lv_at hl 0 rfl) ?_
        refine lv_iload_n hx hb dX0_bestSeats_32 rfl (lv_at hl 4 rfl) ?_
        refine lv_icmp_le (tgt := 42) hx hb dX0_bestSeats_33 (by decide) (fun c13 => ?_) (fun c13 => ?_)
        · have hf := if_t c13 hf
          obtain ⟨x14, ex14⟩ : ∃ y : Int32, y = x3 + 1 := ⟨_, rfl⟩
          have hf := lt_use ex14 hf
          refine lv_iinc (v := x14) (lv' := [(4, .int x14), (5, .int x12), (0, .ref (a1 0)), (1, .int p1), (2, .int x1), (3, .int x2)]) hx hb dX0_bestSeats_42 hl (k := 5) rfl (by rw [ex14]; rfl) (by decide) rfl (fun ls hl => ?_)
          refine lv_goto (tgt := 8) hx hb dX0_bestSeats_45 (by decide) ?_
          exact ih6 _ _ _ _ _ hP hD hS _ (lv_sub hl [2, 3, 4, 5, 0] rfl) hf
        · have hf := if_f c13 hf
          refine lv_iload hx hb dX0_bestSeats_36 (lv_at hl 0 rfl) ?_
          refine lv_istore_n (lv' := [(3, .int x12), (5, .int x12), (0, .ref (a1 0)), (1, .int p1), (2, .int x1), (4, .int x3)]) hx hb dX0_bestSeats_38 rfl hl (by decide) rfl (fun ls hl => ?_)
          refine lv_iload hx hb dX0_bestSeats_39 (lv_at hl 5 rfl) ?_
          refine lv_istore_n (lv' := [(2, .int x3), (3, .int x12), (5, .int x12), (0, .ref (a1 0)), (1, .int p1), (4, .int x3)]) hx hb dX0_bestSeats_41 rfl hl (by decide) rfl (fun ls hl => ?_)
          obtain ⟨x15, ex15⟩ : ∃ y : Int32, y = x3 + 1 := ⟨_, rfl⟩
          have hf := lt_use ex15 hf
          refine lv_iinc (v := x15) (lv' := [(4, .int x15), (2, .int x3), (3, .int x12), (5, .int x12), (0, .ref (a1 0)), (1, .int p1)]) hx hb dX0_bestSeats_42 hl (k := 5) rfl (by rw [ex15]; rfl) (by decide) rfl (fun ls hl => ?_)
          refine lv_goto (tgt := 8) hx hb dX0_bestSeats_45 (by decide) ?_
          exact ih6 _ _ _ _ _ hP hD hS _ (lv_sub hl [4, 5, 1, 2, 0] rfl) hf
  exact L8_F4 fu _ _ _ _ _ hP hD hS _ (lv_sub hl [3, 4, 2, 1, 0] rfl) hf
