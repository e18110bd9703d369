def pX7_passes_8 (fu : Nat) (m1 : Mem) : Option Mem :=
  zl2 (fun g4 (x1 : Int32) (y2 : Mem) =>
    if 8 ≤ x1 then
      some y2
    else
      if (y2 0 28) = 0 then
        ck (y2 0 29) 300 <|
        ck x1 8 <|
        lt' (up2 y2 8 x1.toNatClampNeg (y2 20 (y2 0 29).toNatClampNeg)) fun y9 =>
        lt' (up2 y9 0 29 ((y9 0 29) + 1)) fun y11 =>
        lt' (x1 + 1) fun x12 =>
        g4 x12 y11
      else
        ck x1 8 <|
        ck (y2 0 29) 300 <|
        lt' (up2 y2 20 (y2 0 29).toNatClampNeg (y2 8 x1.toNatClampNeg)) fun y14 =>
        lt' (up2 y14 0 29 ((y14 0 29) + 1)) fun y16 =>
        lt' (x1 + 1) fun x17 =>
        g4 x17 y16) fu 0 m1
set_option maxHeartbeats 4000000 in
set_option maxRecDepth 100000 in
theorem tX7_passes_8 (l : Launch) (D : va_G) (z tt : Nat → Nat) (a1 : Nat → Nat) (m1 : Mem)  (fu : Nat) (m1' : Mem) (hf : pX7_passes_8 fu m1 = some m1') : MetV l yX7_passes wsX7_passes ({ frames := 0, cells := 0, slots := 0, locals := 0 } : Room) D z tt ([.ref (a1 0), .ref (a1 8)] : List Value) (WMod z a1 m1) (WMod z a1 m1') := by
  intro sz
  refine Met.ofW (cc := cX7_passes) (maxL := 3) (ret := none) (by decide) rfl ?_
  intro p e s m args below meth c s₁ B hml hv
  obtain ⟨rfl, hsz, hP, hK, hD0, hT, hN⟩ := hv
  have hx := B.exec
  have hb := B.bytes
  have hr := B.returns
  have hts : ∀ w ∈ wsA, w.before ([.ref (a1 0), .ref (a1 8)] : List Value).toArray s = true := fun w h => atoms_spec (ws := wsX7_passes) B.pre w (List.mem_cons_of_mem _ h)
  have hown : s.vm.findClass RX7 = some m.cls := findClass_of_methodNamed B.named
  have hlocks := B.notSynchronized
  subst hsz
  have hD := hD0.self (sz := s.heap.size)
  generalize hAe : va_A (WMod z a1 m1) s.heap.size = A at hD hT ⊢
  have hA : ∀ q : Nat, s.heap.size ≤ q → A q := fun q h => by rw [← hAe]; exact Or.inr h
  have hS : va_S A s.heap s.heap [] := va_S.rf
  have hl := lv_entry ([.ref (a1 0), .ref (a1 8)] : List Value) (n := 3) (Nat.le_of_ble_eq_true rfl)
  rw [lg_entry_eq]
  generalize (lg_sl ([.ref (a1 0), .ref (a1 8)] : List Value) ++ List.replicate (3 - (lg_sl ([.ref (a1 0), .ref (a1 8)] : List Value)).length) Slot.unset).toArray = ls at hl ⊢
  have hl : lv_has ls 3 [(0, .ref (a1 0)), (1, .ref (a1 8))] := hl
  unfold pX7_passes_8 at hf
  refine lv_iconst (v := 0) hx hb dX7_passes_0 (by decide) ?_
  refine lv_istore_n (lv' := [(2, .int 0), (0, .ref (a1 0)), (1, .ref (a1 8))]) hx hb dX7_passes_1 rfl hl (by decide) rfl (fun ls hl => ?_)
  obtain ⟨F3, eF3, hf⟩ := zl2_use hf
  have L2_F3 : ∀ (n : Nat) (x1 : Int32) (y2 : Mem) (H : Heap) (locs : List Loc), va_P D vwCl (WMod z a1 y2) H → va_D A (WMod z a1 y2) → va_S A s.heap H locs → ∀ (ls : Array Slot), lv_has ls 3 [(0, .ref (a1 0)), (1, .ref (a1 8)), (2, .int x1)] → zl2 F3 n x1 y2 = some m1' → GV p l e (headSpec wsX7_passes ({ frames := 0, cells := 0, slots := 0, locals := 0 } : Room)).room s m ([.ref (a1 0), .ref (a1 8)] : List Value).toArray below meth c A D z (WMod z a1 m1') H locs (F0 m 2 ls []) := by
    intro n
    induction n with
    | zero =>
      intro x1 y2 H locs hP hD hS ls hl hf
      exact no_none hf
    | succ n ih5 =>
      intro x1 y2 H locs hP hD hS ls hl hf
      have hf := zl2_s eF3 hf
      refine lv_iload_n hx hb dX7_passes_2 rfl (lv_at hl 2 rfl) ?_
      refine lv_aload_n hx hb dX7_passes_3 rfl (lv_at hl 1 rfl) ?_
      refine z_alen hx hb hK hP 8 0 rfl rfl (v := 8) rfl dX7_passes_4 ?_
      refine lv_icmp_ge (tgt := 58) hx hb dX7_passes_5 (by decide) (fun c6 => ?_) (fun c6 => ?_)
      · have hf := if_t c6 hf
        obtain rfl := so1 hf
        exact ret_v hx hb hr hlocks hK hP hD hS dX7_passes_58
      · have hf := if_f c6 hf
        refine lv_aload_n hx hb dX7_passes_8 rfl (lv_at hl 0 rfl) ?_
        refine va_get (D := D) (ci := 7) (v := .int (y2 0 28)) (C := RX7) (T := TX7) (N := 33) hx hb hts iX7 hown hK hP 0 rfl rfl 28 (by decide) (hts _ aw764) (fun _ h9 => h9) rfl dX7_passes_9 ?_
        refine lv_if_eq (tgt := 30) hx hb dX7_passes_12 (by decide) (fun c7 => ?_) (fun c7 => ?_)
        · have hf := if_t c7 hf
          refine lv_aload_n hx hb dX7_passes_30 rfl (lv_at hl 1 rfl) ?_
          refine lv_iload_n hx hb dX7_passes_31 rfl (lv_at hl 2 rfl) ?_
          refine lv_aload_n hx hb dX7_passes_32 rfl (lv_at hl 0 rfl) ?_
          refine va_get (D := D) (ci := 7) (v := .ref (a1 20)) (C := RX7) (T := TX7) (N := 33) hx hb hts iX7 hown hK hP 0 rfl rfl 26 (by decide) (hts _ aw762) (fun _ h9 => h9) rfl dX7_passes_33 ?_
          refine lv_aload_n hx hb dX7_passes_36 rfl (lv_at hl 0 rfl) ?_
          refine va_get (D := D) (ci := 7) (v := .int (y2 0 29)) (C := RX7) (T := TX7) (N := 33) hx hb hts iX7 hown hK hP 0 rfl rfl 29 (by decide) (hts _ aw765) (fun _ h9 => h9) rfl dX7_passes_37 ?_
          obtain ⟨h8, hf⟩ := ck_use hf
          refine z_iald hx hb hK hP 20 rfl h8 dX7_passes_40 ?_
          obtain ⟨h10, hf⟩ := ck_use hf
          refine z_iast hx hb hK hP hD hS 8 rfl h10 dX7_passes_41 (fun (w9 : Mem) => (WMod z a1 w9)) (up2 y2 8 x1.toNatClampNeg (y2 20 (y2 0 29).toNatClampNeg)) rfl (fun y9 ey9 H locs hP hD hS => ?_)
          have hf := lt_use ey9 hf
          refine lv_aload_n hx hb dX7_passes_42 rfl (lv_at hl 0 rfl) ?_
          refine lv_dup hx hb dX7_passes_43 rfl ?_
          refine va_get (D := D) (ci := 7) (v := .int (y9 0 29)) (C := RX7) (T := TX7) (N := 33) hx hb hts iX7 hown hK hP 0 rfl rfl 29 (by decide) (hts _ aw765) (fun _ h9 => h9) rfl dX7_passes_44 ?_
          refine lv_iconst (v := 1) hx hb dX7_passes_47 (by decide) ?_
          refine lv_iadd hx hb dX7_passes_48 ?_
          refine z_put (ci := 7) (v := .int ((y9 0 29) + 1)) (ty := .int) (C := RX7) (T := TX7) (N := 33) hx hb hts iX7 tyX7 tyX7_ok nmX7 hown hK hP hD hS 0 rfl rfl 29 (by decide) (hts _ aw765) (fun _ h9 => h9) rfl (by decide +kernel) rfl rfl (Nat.le_of_ble_eq_true rfl) dX7_passes_49 (fun (w9 : Mem) => (WMod z a1 w9)) (up2 y9 0 29 ((y9 0 29) + 1)) rfl (fun y11 ey11 H locs hP hD hS => ?_)
          have hf := lt_use ey11 hf
          obtain ⟨x12, ex12⟩ : ∃ y : Int32, y = x1 + 1 := ⟨_, rfl⟩
          have hf := lt_use ex12 hf
          refine lv_iinc (v := x12) (lv' := [(2, .int x12), (0, .ref (a1 0)), (1, .ref (a1 8))]) hx hb dX7_passes_52 hl (k := 2) rfl (by rw [ex12]; rfl) (by decide) rfl (fun ls hl => ?_)
          refine lv_goto (tgt := 2) hx hb dX7_passes_55 (by decide) ?_
          exact ih5 _ _ _ _ hP hD hS _ (lv_sub hl [1, 2, 0] rfl) hf
        · have hf := if_f c7 hf
          refine lv_aload_n hx hb dX7_passes_15 rfl (lv_at hl 0 rfl) ?_
          refine va_get (D := D) (ci := 7) (v := .ref (a1 20)) (C := RX7) (T := TX7) (N := 33) hx hb hts iX7 hown hK hP 0 rfl rfl 26 (by decide) (hts _ aw762) (fun _ h9 => h9) rfl dX7_passes_16 ?_
          refine lv_aload_n hx hb dX7_passes_19 rfl (lv_at hl 0 rfl) ?_
          refine va_get (D := D) (ci := 7) (v := .int (y2 0 29)) (C := RX7) (T := TX7) (N := 33) hx hb hts iX7 hown hK hP 0 rfl rfl 29 (by decide) (hts _ aw765) (fun _ h9 => h9) rfl dX7_passes_20 ?_
          refine lv_aload_n hx hb dX7_passes_23 rfl (lv_at hl 1 rfl) ?_
          refine lv_iload_n hx hb dX7_passes_24 rfl (lv_at hl 2 rfl) ?_
          obtain ⟨h13, hf⟩ := ck_use hf
          refine z_iald hx hb hK hP 8 rfl h13 dX7_passes_25 ?_
          obtain ⟨h15, hf⟩ := ck_use hf
          refine z_iast hx hb hK hP hD hS 20 rfl h15 dX7_passes_26 (fun (w9 : Mem) => (WMod z a1 w9)) (up2 y2 20 (y2 0 29).toNatClampNeg (y2 8 x1.toNatClampNeg)) rfl (fun y14 ey14 H locs hP hD hS => ?_)
          have hf := lt_use ey14 hf
          refine lv_goto (tgt := 42) hx hb dX7_passes_27 (by decide) ?_
          refine lv_aload_n hx hb dX7_passes_42 rfl (lv_at hl 0 rfl) ?_
          refine lv_dup hx hb dX7_passes_43 rfl ?_
          refine va_get (D := D) (ci := 7) (v := .int (y14 0 29)) (C := RX7) (T := TX7) (N := 33) hx hb hts iX7 hown hK hP 0 rfl rfl 29 (by decide) (hts _ aw765) (fun _ h9 => h9) rfl dX7_passes_44 ?_
          refine lv_iconst (v := 1) hx hb dX7_passes_47 (by decide) ?_
          refine lv_iadd hx hb dX7_passes_48 ?_
          refine z_put (ci := 7) (v := .int ((y14 0 29) + 1)) (ty := .int) (C := RX7) (T := TX7) (N := 33) hx hb hts iX7 tyX7 tyX7_ok nmX7 hown hK hP hD hS 0 rfl rfl 29 (by decide) (hts _ aw765) (fun _ h9 => h9) rfl (by decide +kernel) rfl rfl (Nat.le_of_ble_eq_true rfl) dX7_passes_49 (fun (w9 : Mem) => (WMod z a1 w9)) (up2 y14 0 29 ((y14 0 29) + 1)) rfl (fun y16 ey16 H locs hP hD hS => ?_)
          have hf := lt_use ey16 hf
          obtain ⟨x17, ex17⟩ : ∃ y : Int32, y = x1 + 1 := ⟨_, rfl⟩
          have hf := lt_use ex17 hf
          refine lv_iinc (v := x17) (lv' := [(2, .int x17), (0, .ref (a1 0)), (1, .ref (a1 8))]) hx hb dX7_passes_52 hl (k := 2) rfl (by rw [ex17]; rfl) (by decide) rfl (fun ls hl => ?_)
          refine lv_goto (tgt := 2) hx hb dX7_passes_55 (by decide) ?_
          exact ih5 _ _ _ _ hP hD hS _ (lv_sub hl [1, 2, 0] rfl) hf
  exact L2_F3 fu _ _ _ _ hP hD hS _ (lv_sub hl [1, 2, 0] rfl) hf
def pX7_passes_9 (fu : Nat) (m1 : Mem) : Option Mem :=
  zl2 (fun g4 (x1 : Int32) (y2 : Mem) =>
    if 8 ≤ x1 then
      some y2
    else
      if (y2 0 28) = 0 then
        ck (y2 0 29) 300 <|
        ck x1 8 <|
        lt' (up2 y2 9 x1.toNatClampNeg (y2 20 (y2 0 29).toNatClampNeg)) fun y9 =>
        lt' (up2 y9 0 29 ((y9 0 29) + 1)) fun y11 =>
        lt' (x1 + 1) fun x12 =>
        g4 x12 y11
      else
        ck x1 8 <|
        ck (y2 0 29) 300 <|
        lt' (up2 y2 20 (y2 0 29).toNatClampNeg (y2 9 x1.toNatClampNeg)) fun y14 =>
        lt' (up2 y14 0 29 ((y14 0 29) + 1)) fun y16 =>
        lt' (x1 + 1) fun x17 =>
        g4 x17 y16) fu 0 m1
set_option maxHeartbeats 4000000 in
set_option maxRecDepth 100000 in
theorem tX7_passes_9 (l : Launch) (D : va_G) (z tt : Nat → Nat) (a1 : Nat → Nat) (m1 : Mem)  (fu : Nat) (m1' : Mem) (hf : pX7_passes_9 fu m1 = some m1') : MetV l yX7_passes wsX7_passes ({ frames := 0, cells := 0, slots := 0, locals := 0 } : Room) D z tt ([.ref (a1 0), .ref (a1 9)] : List Value) (WMod z a1 m1) (WMod z a1 m1') := by
  intro sz
  refine Met.ofW (cc := cX7_passes) (maxL := 3) (ret := none) (by decide) rfl ?_
  intro p e s m args below meth c s₁ B hml hv
  obtain ⟨rfl, hsz, hP, hK, hD0, hT, hN⟩ := hv
  have hx := B.exec
  have hb := B.bytes
  have hr := B.returns
  have hts : ∀ w ∈ wsA, w.before ([.ref (a1 0), .ref (a1 9)] : List Value).toArray s = true := fun w h => atoms_spec (ws := wsX7_passes) B.pre w (List.mem_cons_of_mem _ h)
  have hown : s.vm.findClass RX7 = some m.cls := findClass_of_methodNamed B.named
  have hlocks := B.notSynchronized
  subst hsz
  have hD := hD0.self (sz := s.heap.size)
  generalize hAe : va_A (WMod z a1 m1) s.heap.size = A at hD hT ⊢
  have hA : ∀ q : Nat, s.heap.size ≤ q → A q := fun q h => by rw [← hAe]; exact Or.inr h
  have hS : va_S A s.heap s.heap [] := va_S.rf
  have hl := lv_entry ([.ref (a1 0), .ref (a1 9)] : List Value) (n := 3) (Nat.le_of_ble_eq_true rfl)
  rw [lg_entry_eq]
  generalize (lg_sl ([.ref (a1 0), .ref (a1 9)] : List Value) ++ List.replicate (3 - (lg_sl ([.ref (a1 0), .ref (a1 9)] : List Value)).length) Slot.unset).toArray = ls at hl ⊢
  have hl : lv_has ls 3 [(0, .ref (a1 0)), (1, .ref (a1 9))] := hl
  unfold pX7_passes_9 at hf
  refine lv_iconst (v := 0) hx hb dX7_passes_0 (by decide) ?_
  refine lv_istore_n (lv' := [(2, .int 0), (0, .ref (a1 0)), (1, .ref (a1 9))]) hx hb dX7_passes_1 rfl hl (by decide) rfl (fun ls hl => ?_)
  obtain ⟨F3, eF3, hf⟩ := zl2_use hf
  have L2_F3 : ∀ (n : Nat) (x1 : Int32) (y2 : Mem) (H : Heap) (locs : List Loc), va_P D vwCl (WMod z a1 y2) H → va_D A (WMod z a1 y2) → va_S A s.heap H locs → ∀ (ls : Array Slot), lv_has ls 3 [(0, .ref (a1 0)), (1, .ref (a1 9)), (2, .int x1)] → zl2 F3 n x1 y2 = some m1' → GV p l e (headSpec wsX7_passes ({ frames := 0, cells := 0, slots := 0, locals := 0 } : Room)).room s m ([.ref (a1 0), .ref (a1 9)] : List Value).toArray below meth c A D z (WMod z a1 m1') H locs (F0 m 2 ls []) := by
    intro n
    induction n with
    | zero =>
      intro x1 y2 H locs hP hD hS ls hl hf
      exact no_none hf
    | succ n ih5 =>
      intro x1 y2 H locs hP hD hS ls hl hf
      have hf := zl2_s eF3 hf
      refine lv_iload_n hx hb dX7_passes_2 rfl (lv_at hl 2 rfl) ?_
      refine lv_aload_n hx hb dX7_passes_3 rfl (lv_at hl 1 rfl) ?_
      refine z_alen hx hb hK hP 9 0 rfl rfl (v := 8) rfl dX7_passes_4 ?_
      refine lv_icmp_ge (tgt := 58) hx hb dX7_passes_5 (by decide) (fun c6 => ?_) (fun c6 => ?_)
      · have hf := if_t c6 hf
        obtain rfl := so1 hf
        exact ret_v hx hb hr hlocks hK hP hD hS dX7_passes_58
      · have hf := if_f c6 hf
        refine lv_aload_n hx hb dX7_passes_8 rfl (lv_at hl 0 rfl) ?_
        refine va_get (D := D) (ci := 7) (v := .int (y2 0 28)) (C := RX7) (T := TX7) (N := 33) hx hb hts iX7 hown hK hP 0 rfl rfl 28 (by decide) (hts _ aw764) (fun _ h9 => h9) rfl dX7_passes_9 ?_
        refine lv_if_eq (tgt := 30) hx hb dX7_passes_12 (by decide) (fun c7 => ?_) (fun c7 => ?_)
        · have hf := if_t c7 hf
          refine lv_aload_n hx hb dX7_passes_30 rfl (lv_at hl 1 rfl) ?_
          refine lv_iload_n hx hb dX7_passes_31 rfl (lv_at hl 2 rfl) ?_
          refine lv_aload_n hx hb dX7_passes_32 rfl (lv_at hl 0 rfl) ?_
          refine va_get (D := D) (ci := 7) (v := .ref (a1 20)) (C := RX7) (T := TX7) (N := 33) hx hb hts iX7 hown hK hP 0 rfl rfl 26 (by decide) (hts _ aw762) (fun _ h9 => h9) rfl dX7_passes_33 ?_
          refine lv_aload_n hx hb dX7_passes_36 rfl (lv_at hl 0 rfl) ?_
          refine va_get (D := D) (ci := 7) (v := .int (y2 0 29)) (C := RX7) (T := TX7) (N := 33) hx hb hts iX7 hown hK hP 0 rfl rfl 29 (by decide) (hts _ aw765) (fun _ h9 => h9) rfl dX7_passes_37 ?_
          obtain ⟨h8, hf⟩ := ck_use hf
          refine z_iald hx hb hK hP 20 rfl h8 dX7_passes_40 ?_
          obtain ⟨h10, hf⟩ := ck_use hf
          refine z_iast hx hb hK hP hD hS 9 rfl h10 dX7_passes_41 (fun (w9 : Mem) => (WMod z a1 w9)) (up2 y2 9 x1.toNatClampNeg (y2 20 (y2 0 29).toNatClampNeg)) rfl (fun y9 ey9 H locs hP hD hS => ?_)
          have hf := lt_use ey9 hf
          refine lv_aload_n hx hb dX7_passes_42 rfl (lv_at hl 0 rfl) ?_
          refine lv_dup hx hb dX7_passes_43 rfl ?_
          refine va_get (D := D) (ci := 7) (v := .int (y9 0 29)) (C := RX7) (T := TX7) (N := 33) hx hb hts iX7 hown hK hP 0 rfl rfl 29 (by decide) (hts _ aw765) (fun _ h9 => h9) rfl dX7_passes_44 ?_
          refine lv_iconst (v := 1) hx hb dX7_passes_47 (by decide) ?_
          refine lv_iadd hx hb dX7_passes_48 ?_
          refine z_put (ci := 7) (v := .int ((y9 0 29) + 1)) (ty := .int) (C := RX7) (T := TX7) (N := 33) hx hb hts iX7 tyX7 tyX7_ok nmX7 hown hK hP hD hS 0 rfl rfl 29 (by decide) (hts _ aw765) (fun _ h9 => h9) rfl (by decide +kernel) rfl rfl (Nat.le_of_ble_eq_true rfl) dX7_passes_49 (fun (w9 : Mem) => (WMod z a1 w9)) (up2 y9 0 29 ((y9 0 29) + 1)) rfl (fun y11 ey11 H locs hP hD hS => ?_)
          have hf := lt_use ey11 hf
          obtain ⟨x12, ex12⟩ : ∃ y : Int32, y = x1 + 1 := ⟨_, rfl⟩
          have hf := lt_use ex12 hf
          refine lv_iinc (v := x12) (lv' := [(2, .int x12), (0, .ref (a1 0)), (1, .ref (a1 9))]) hx hb dX7_passes_52 hl (k := 2) rfl (by rw [ex12]; rfl) (by decide) rfl (fun ls hl => ?_)
          refine lv_goto (tgt := 2) hx hb dX7_passes_55 (by decide) ?_
          exact ih5 _ _ _ _ hP hD hS _ (lv_sub hl [1, 2, 0] rfl) hf
        · have hf := if_f c7 hf
          refine lv_aload_n hx hb dX7_passes_15 rfl (lv_at hl 0 rfl) ?_
          refine va_get (D := D) (ci := 7) (v := .ref (a1 20)) (C := RX7) (T := TX7) (N := 33) hx hb hts iX7 hown hK hP 0 rfl rfl 26 (by decide) (hts _ aw762) (fun _ h9 => h9) rfl dX7_passes_16 ?_
          refine lv_aload_n hx hb dX7_passes_19 rfl (lv_at hl 0 rfl) ?_
          refine va_get (D := D) (ci := 7) (v := .int (y2 0 29)) (C := RX7) (T := TX7) (N := 33) hx hb hts iX7 hown hK hP 0 rfl rfl 29 (by decide) (hts _ aw765) (fun _ h9 => h9) rfl dX7_passes_20 ?_
          refine lv_aload_n hx hb dX7_passes_23 rfl (lv_at hl 1 rfl) ?_
          refine lv_iload_n hx hb dX7_passes_24 rfl (lv_at hl 2 rfl) ?_
          obtain ⟨h13, hf⟩ := ck_use hf
          refine z_iald hx hb hK hP 9 rfl h13 dX7_passes_25 ?_
          obtain ⟨h15, hf⟩ := ck_use hf
          refine z_iast hx hb hK hP hD hS 20 rfl h15 dX7_passes_26 (fun (w9 : Mem) => (WMod z a1 w9)) (up2 y2 20 (y2 0 29).toNatClampNeg (y2 9 x1.toNatClampNeg)) rfl (fun y14 ey14 H locs hP hD hS => ?_)
          have hf := lt_use ey14 hf
          refine lv_goto (tgt := 42) hx hb dX7_passes_27 (by decide) ?_
          refine lv_aload_n hx hb dX7_passes_42 rfl (lv_at hl 0 rfl) ?_
          refine lv_dup hx hb dX7_passes_43 rfl ?_
          refine va_get (D := D) (ci := 7) (v := .int (y14 0 29)) (C := RX7) (T := TX7) (N := 33) hx hb hts iX7 hown hK hP 0 rfl rfl 29 (by decide) (hts _ aw765) (fun _ h9 => h9) rfl dX7_passes_44 ?_
          refine lv_iconst (v := 1) hx hb dX7_passes_47 (by decide) ?_
          refine lv_iadd hx hb dX7_passes_48 ?_
          refine z_put (ci := 7) (v := .int ((y14 0 29) + 1)) (ty := .int) (C := RX7) (T := TX7) (N := 33) hx hb hts iX7 tyX7 tyX7_ok nmX7 hown hK hP hD hS 0 rfl rfl 29 (by decide) (hts _ aw765) (fun _ h9 => h9) rfl (by decide +kernel) rfl rfl (Nat.le_of_ble_eq_true rfl) dX7_passes_49 (fun (w9 : Mem) => (WMod z a1 w9)) (up2 y14 0 29 ((y14 0 29) + 1)) rfl (fun y16 ey16 H locs hP hD hS => ?_)
          have hf := lt_use ey16 hf
          obtain ⟨x17, ex17⟩ : ∃ y : Int32, y = x1 + 1 := ⟨_, rfl⟩
          have hf := lt_use ex17 hf
          refine lv_iinc (v := x17) (lv' := [(2, .int x17), (0, .ref (a1 0)), (1, .ref (a1 9))]) hx hb dX7_passes_52 hl (k := 2) rfl (by rw [ex17]; rfl) (by decide) rfl (fun ls hl => ?_)
          refine lv_goto (tgt := 2) hx hb dX7_passes_55 (by decide) ?_
          exact ih5 _ _ _ _ hP hD hS _ (lv_sub hl [1, 2, 0] rfl) hf
  exact L2_F3 fu _ _ _ _ hP hD hS _ (lv_sub hl [1, 2, 0] rfl) hf
def pX7_passes_10 (fu : Nat) (m1 : Mem) : Option Mem :=
  zl2 (fun g4 (x1 : Int32) (y2 : Mem) =>
    if 8 ≤ x1 then
      some y2
    else
      if (y2 0 28) = 0 then
        ck (y2 0 29) 300 <|
        ck x1 8 <|
        lt' (up2 y2 10 x1.toNatClampNeg (y2 20 (y2 0 29).toNatClampNeg)) fun y9 =>
        lt' (up2 y9 0 29 ((y9 0 29) + 1)) fun y11 =>
        lt' (x1 + 1) fun x12 =>
        g4 x12 y11
      else
        ck x1 8 <|
        ck (y2 0 29) 300 <|
        lt' (up2 y2 20 (y2 0 29).toNatClampNeg (y2 10 x1.toNatClampNeg)) fun y14 =>
        lt' (up2 y14 0 29 ((y14 0 29) + 1)) fun y16 =>
        lt' (x1 + 1) fun x17 =>
        g4 x17 y16) fu 0 m1
set_option maxHeartbeats 4000000 in
set_option maxRecDepth 100000 in
theorem tX7_passes_10 (l : Launch) (D : va_G) (z tt : Nat → Nat) (a1 : Nat → Nat) (m1 : Mem)  (fu : Nat) (m1' : Mem) (hf : pX7_passes_10 fu m1 = some m1') : MetV l yX7_passes wsX7_passes ({ frames := 0, cells := 0, slots := 0, locals := 0 } : Room) D z tt ([.ref (a1 0), .ref (a1 10)] : List Value) (WMod z a1 m1) (WMod z a1 m1') := by
  intro sz
  refine Met.ofW (cc := cX7_passes) (maxL := 3) (ret := none) (by decide) rfl ?_
  intro p e s m args below meth c s₁ B hml hv
  obtain ⟨rfl, hsz, hP, hK, hD0, hT, hN⟩ := hv
  have hx := B.exec
  have hb := B.bytes
  have hr := B.returns
  have hts : ∀ w ∈ wsA, w.before ([.ref (a1 0), .ref (a1 10)] : List Value).toArray s = true := fun w h => atoms_spec (ws := wsX7_passes) B.pre w (List.mem_cons_of_mem _ h)
  have hown : s.vm.findClass RX7 = some m.cls := findClass_of_methodNamed B.named
  have hlocks := B.notSynchronized
  subst hsz
  have hD := hD0.self (sz := s.heap.size)
  generalize hAe : va_A (WMod z a1 m1) s.heap.size = A at hD hT ⊢
  have hA : ∀ q : Nat, s.heap.size ≤ q → A q := fun q h => by rw [← hAe]; exact Or.inr h
  have hS : va_S A s.heap s.heap [] := va_S.rf
  have hl := lv_entry ([.ref (a1 0), .ref (a1 10)] : List Value) (n := 3) (Nat.le_of_ble_eq_true rfl)
  rw [lg_entry_eq]
  generalize (lg_sl ([.ref (a1 0), .ref (a1 10)] : List Value) ++ List.replicate (3 - (lg_sl ([.ref (a1 0), .ref (a1 10)] : List Value)).length) Slot.unset).toArray = ls at hl ⊢
  have hl : lv_has ls 3 [(0, .ref (a1 0)), (1, .ref (a1 10))] := hl
  unfold pX7_passes_10 at hf
  refine lv_iconst (v := 0) hx hb dX7_passes_0 (by decide) ?_
  refine lv_istore_n (lv' := [(2, .int 0), (0, .ref (a1 0)), (1, .ref (a1 10))]) hx hb dX7_passes_1 rfl hl (by decide) rfl (fun ls hl => ?_)
  obtain ⟨F3, eF3, hf⟩ := zl2_use hf
  have L2_F3 : ∀ (n : Nat) (x1 : Int32) (y2 : Mem) (H : Heap) (locs : List Loc), va_P D vwCl (WMod z a1 y2) H → va_D A (WMod z a1 y2) → va_S A s.heap H locs → ∀ (ls : Array Slot), lv_has ls 3 [(0, .ref (a1 0)), (1, .ref (a1 10)), (2, .int x1)] → zl2 F3 n x1 y2 = some m1' → GV p l e (headSpec wsX7_passes ({ frames := 0, cells := 0, slots := 0, locals := 0 } : Room)).room s m ([.ref (a1 0), .ref (a1 10)] : List Value).toArray below meth c A D z (WMod z a1 m1') H locs (F0 m 2 ls []) := by
    intro n
    induction n with
    | zero =>
      intro x1 y2 H locs hP hD hS ls hl hf
      exact no_none hf
    | succ n ih5 =>
      intro x1 y2 H locs hP hD hS ls hl hf
      have hf := zl2_s eF3 hf
      refine lv_iload_n hx hb dX7_passes_2 rfl (lv_at hl 2 rfl) ?_
      refine lv_aload_n hx hb dX7_passes_3 rfl (lv_at hl 1 rfl) ?_
      refine z_alen hx hb hK hP 10 0 rfl rfl (v := 8) rfl dX7_passes_4 ?_
      refine lv_icmp_ge (tgt := 58) hx hb dX7_passes_5 (by decide) (fun c6 => ?_) (fun c6 => ?_)
      · have hf := if_t c6 hf
        obtain rfl := so1 hf
        exact ret_v hx hb hr hlocks hK hP hD hS dX7_passes_58
      · have hf := if_f c6 hf
        refine lv_aload_n hx hb dX7_passes_8 rfl (lv_at hl 0 rfl) ?_
        refine va_get (D := D) (ci := 7) (v := .int (y2 0 28)) (C := RX7) (T := TX7) (N := 33) hx hb hts iX7 hown hK hP 0 rfl rfl 28 (by decide) (hts _ aw764) (fun _ h9 => h9) rfl dX7_passes_9 ?_
        refine lv_if_eq (tgt := 30) hx hb dX7_passes_12 (by decide) (fun c7 => ?_) (fun c7 => ?_)
        · have hf := if_t c7 hf
          refine lv_aload_n hx hb dX7_passes_30 rfl (lv_at hl 1 rfl) ?_
          refine lv_iload_n hx hb dX7_passes_31 rfl (lv_at hl 2 rfl) ?_
          refine lv_aload_n hx hb dX7_passes_32 rfl (lv_at hl 0 rfl) ?_
          refine va_get (D := D) (ci := 7) (v := .ref (a1 20)) (C := RX7) (T := TX7) (N := 33) hx hb hts iX7 hown hK hP 0 rfl rfl 26 (by decide) (hts _ aw762) (fun _ h9 => h9) rfl dX7_passes_33 ?_
          refine lv_aload_n hx hb dX7_passes_36 rfl (lv_at hl 0 rfl) ?_
          refine va_get (D := D) (ci := 7) (v := .int (y2 0 29)) (C := RX7) (T := TX7) (N := 33) hx hb hts iX7 hown hK hP 0 rfl rfl 29 (by decide) (hts _ aw765) (fun _ h9 => h9) rfl dX7_passes_37 ?_
          obtain ⟨h8, hf⟩ := ck_use hf
          refine z_iald hx hb hK hP 20 rfl h8 dX7_passes_40 ?_
          obtain ⟨h10, hf⟩ := ck_use hf
          refine z_iast hx hb hK hP hD hS 10 rfl h10 dX7_passes_41 (fun (w9 : Mem) => (WMod z a1 w9)) (up2 y2 10 x1.toNatClampNeg (y2 20 (y2 0 29).toNatClampNeg)) rfl (fun y9 ey9 H locs hP hD hS => ?_)
          have hf := lt_use ey9 hf
          refine lv_aload_n hx hb dX7_passes_42 rfl (lv_at hl 0 rfl) ?_
          refine lv_dup hx hb dX7_passes_43 rfl ?_
          refine va_get (D := D) (ci := 7) (v := .int (y9 0 29)) (C := RX7) (T := TX7) (N := 33) hx hb hts iX7 hown hK hP 0 rfl rfl 29 (by decide) (hts _ aw765) (fun _ h9 => h9) rfl dX7_passes_44 ?_
          refine lv_iconst (v := 1) hx hb dX7_passes_47 (by decide) ?_
          refine lv_iadd hx hb dX7_passes_48 ?_
          refine z_put (ci := 7) (v := .int ((y9 0 29) + 1)) (ty := .int) (C := RX7) (T := TX7) (N := 33) hx hb hts iX7 tyX7 tyX7_ok nmX7 hown hK hP hD hS 0 rfl rfl 29 (by decide) (hts _ aw765) (fun _ h9 => h9) rfl (by decide +kernel) rfl rfl (Nat.le_of_ble_eq_true rfl) dX7_passes_49 (fun (w9 : Mem) => (WMod z a1 w9)) (up2 y9 0 29 ((y9 0 29) + 1)) rfl (fun y11 ey11 H locs hP hD hS => ?_)
          have hf := lt_use ey11 hf
          obtain ⟨x12, ex12⟩ : ∃ y : Int32, y = x1 + 1 := ⟨_, rfl⟩
          have hf := lt_use ex12 hf
          refine lv_iinc (v := x12) (lv' := [(2, .int x12), (0, .ref (a1 0)), (1, .ref (a1 10))]) hx hb dX7_passes_52 hl (k := 2) rfl (by rw [ex12]; rfl) (by decide) rfl (fun ls hl => ?_)
          refine lv_goto (tgt := 2) hx hb dX7_passes_55 (by decide) ?_
          exact ih5 _ _ _ _ hP hD hS _ (lv_sub hl [1, 2, 0] rfl) hf
        · have hf := if_f c7 hf
          refine lv_aload_n hx hb dX7_passes_15 rfl (lv_at hl 0 rfl) ?_
          refine va_get (D := D) (ci := 7) (v := .ref (a1 20)) (C := RX7) (T := TX7) (N := 33) hx hb hts iX7 hown hK hP 0 rfl rfl 26 (by decide) (hts _ aw762) (fun _ h9 => h9) rfl dX7_passes_16 ?_
          refine lv_aload_n hx hb dX7_passes_19 rfl (lv_at hl 0 rfl) ?_
          refine va_get (D := D) (ci := 7) (v := .int (y2 0 29)) (C := RX7) (T := TX7) (N := 33) hx hb hts iX7 hown hK hP 0 rfl rfl 29 (by decide) (hts _ aw765) (fun _ h9 => h9) rfl dX7_passes_20 ?_
          refine lv_aload_n hx hb dX7_passes_23 rfl (lv_at hl 1 rfl) ?_
          refine lv_iload_n hx hb dX7_passes_24 rfl (lv_at hl 2 rfl) ?_
          obtain ⟨h13, hf⟩ := ck_use hf
          refine z_iald hx hb hK hP 10 rfl h13 dX7_passes_25 ?_
          obtain ⟨h15, hf⟩ := ck_use hf
          refine z_iast hx hb hK hP hD hS 20 rfl h15 dX7_passes_26 (fun (w9 : Mem) => (WMod z a1 w9)) (up2 y2 20 (y2 0 29).toNatClampNeg (y2 10 x1.toNatClampNeg)) rfl (fun y14 ey14 H locs hP hD hS => ?_)
          have hf := lt_use ey14 hf
          refine lv_goto (tgt := 42) hx hb dX7_passes_27 (by decide) ?_
          refine lv_aload_n hx hb dX7_passes_42 rfl (lv_at hl 0 rfl) ?_
          refine lv_dup hx hb dX7_passes_43 rfl ?_
          refine va_get (D := D) (ci := 7) (v := .int (y14 0 29)) (C := RX7) (T := TX7) (N := 33) hx hb hts iX7 hown hK hP 0 rfl rfl 29 (by decide) (hts _ aw765) (fun _ h9 => h9) rfl dX7_passes_44 ?_
          refine lv_iconst (v := 1) hx hb dX7_passes_47 (by decide) ?_
          refine lv_iadd hx hb dX7_passes_48 ?_
          refine z_put (ci := 7) (v := .int ((y14 0 29) + 1)) (ty := .int) (C := RX7) (T := TX7) (N := 33) hx hb hts iX7 tyX7 tyX7_ok nmX7 hown hK hP hD hS 0 rfl rfl 29 (by decide) (hts _ aw765) (fun _ h9 => h9) rfl (by decide +kernel) rfl rfl (Nat.le_of_ble_eq_true rfl) dX7_passes_49 (fun (w9 : Mem) => (WMod z a1 w9)) (up2 y14 0 29 ((y14 0 29) + 1)) rfl (fun y16 ey16 H locs hP hD hS => ?_)
          have hf := lt_use ey16 hf
          obtain ⟨x17, ex17⟩ : ∃ y : Int32, y = x1 + 1 := ⟨_, rfl⟩
          have hf := lt_use ex17 hf
          refine lv_iinc (v := x17) (lv' := [(2, .int x17), (0, .ref (a1 0)), (1, .ref (a1 10))]) hx hb dX7_passes_52 hl (k := 2) rfl (by rw [ex17]; rfl) (by decide) rfl (fun ls hl => ?_)
          refine lv_goto (tgt := 2) hx hb dX7_passes_55 (by decide) ?_
          exact ih5 _ _ _ _ hP hD hS _ (lv_sub hl [1, 2, 0] rfl) hf
  exact L2_F3 fu _ _ _ _ hP hD hS _ (lv_sub hl [1, 2, 0] rfl) hf
def pX7_passes_11 (fu : Nat) (m1 : Mem) : Option Mem :=
  zl2 (fun g4 (x1 : Int32) (y2 : Mem) =>
    if 2 ≤ x1 then
      some y2
    else
      if (y2 0 28) = 0 then
        ck (y2 0 29) 300 <|
        ck x1 2 <|
        lt' (up2 y2 11 x1.toNatClampNeg (y2 20 (y2 0 29).toNatClampNeg)) fun y9 =>
        lt' (up2 y9 0 29 ((y9 0 29) + 1)) fun y11 =>
        lt' (x1 + 1) fun x12 =>
        g4 x12 y11
      else
        ck x1 2 <|
        ck (y2 0 29) 300 <|
        lt' (up2 y2 20 (y2 0 29).toNatClampNeg (y2 11 x1.toNatClampNeg)) fun y14 =>
        lt' (up2 y14 0 29 ((y14 0 29) + 1)) fun y16 =>
        lt' (x1 + 1) fun x17 =>
        g4 x17 y16) fu 0 m1
set_option maxHeartbeats 4000000 in
set_option maxRecDepth 100000 in
theorem tX7_passes_11 (l : Launch) (D : va_G) (z tt : Nat → Nat) (a1 : Nat → Nat) (m1 : Mem)  (fu : Nat) (m1' : Mem) (hf : pX7_passes_11 fu m1 = some m1') : MetV l yX7_passes wsX7_passes ({ frames := 0, cells := 0, slots := 0, locals := 0 } : Room) D z tt ([.ref (a1 0), .ref (a1 11)] : List Value) (WMod z a1 m1) (WMod z a1 m1') := by
  intro sz
  refine Met.ofW (cc := cX7_passes) (maxL := 3) (ret := none) (by decide) rfl ?_
  intro p e s m args below meth c s₁ B hml hv
  obtain ⟨rfl, hsz, hP, hK, hD0, hT, hN⟩ := hv
  have hx := B.exec
  have hb := B.bytes
  have hr := B.returns
  have hts : ∀ w ∈ wsA, w.before ([.ref (a1 0), .ref (a1 11)] : List Value).toArray s = true := fun w h => atoms_spec (ws := wsX7_passes) B.pre w (List.mem_cons_of_mem _ h)
  have hown : s.vm.findClass RX7 = some m.cls := findClass_of_methodNamed B.named
  have hlocks := B.notSynchronized
  subst hsz
  have hD := hD0.self (sz := s.heap.size)
  generalize hAe : va_A (WMod z a1 m1) s.heap.size = A at hD hT ⊢
  have hA : ∀ q : Nat, s.heap.size ≤ q → A q := fun q h => by rw [← hAe]; exact Or.inr h
  have hS : va_S A s.heap s.heap [] := va_S.rf
  have hl := lv_entry ([.ref (a1 0), .ref (a1 11)] : List Value) (n := 3) (Nat.le_of_ble_eq_true rfl)
  rw [lg_entry_eq]
  generalize (lg_sl ([.ref (a1 0), .ref (a1 11)] : List Value) ++ List.replicate (3 - (lg_sl ([.ref (a1 0), .ref (a1 11)] : List Value)).length) Slot.unset).toArray = ls at hl ⊢
  have hl : lv_has ls 3 [(0, .ref (a1 0)), (1, .ref (a1 11))] := hl
  unfold pX7_passes_11 at hf
  refine lv_iconst (v := 0) hx hb dX7_passes_0 (by decide) ?_
  refine lv_istore_n (lv' := [(2, .int 0), (0, .ref (a1 0)), (1, .ref (a1 11))]) hx hb dX7_passes_1 rfl hl (by decide) rfl (fun ls hl => ?_)
  obtain ⟨F3, eF3, hf⟩ := zl2_use hf
  have L2_F3 : ∀ (n : Nat) (x1 : Int32) (y2 : Mem) (H : Heap) (locs : List Loc), va_P D vwCl (WMod z a1 y2) H → va_D A (WMod z a1 y2) → va_S A s.heap H locs → ∀ (ls : Array Slot), lv_has ls 3 [(0, .ref (a1 0)), (1, .ref (a1 11)), (2, .int x1)] → zl2 F3 n x1 y2 = some m1' → GV p l e (headSpec wsX7_passes ({ frames := 0, cells := 0, slots := 0, locals := 0 } : Room)).room s m ([.ref (a1 0), .ref (a1 11)] : List Value).toArray below meth c A D z (WMod z a1 m1') H locs (F0 m 2 ls []) := by
    intro n
    induction n with
    | zero =>
      intro x1 y2 H locs hP hD hS ls hl hf
      exact no_none hf
    | succ n ih5 =>
      intro x1 y2 H locs hP hD hS ls hl hf
      have hf := zl2_s eF3 hf
      refine lv_iload_n hx hb dX7_passes_2 rfl (lv_at hl 2 rfl) ?_
      refine lv_aload_n hx hb dX7_passes_3 rfl (lv_at hl 1 rfl) ?_
      refine z_alen hx hb hK hP 11 0 rfl rfl (v := 2) rfl dX7_passes_4 ?_
      refine lv_icmp_ge (tgt := 58) hx hb dX7_passes_5 (by decide) (fun c6 => ?_) (fun c6 => ?_)
      · have hf := if_t c6 hf
        obtain rfl := so1 hf
        exact ret_v hx hb hr hlocks hK hP hD hS dX7_passes_58
      · have hf := if_f c6 hf
        refine lv_aload_n hx hb dX7_passes_8 rfl (lv_at hl 0 rfl) ?_
        refine va_get (D := D) (ci := 7) (v := .int (y2 0 28)) (C := RX7) (T := TX7) (N := 33) hx hb hts iX7 hown hK hP 0 rfl rfl 28 (by decide) (hts _ aw764) (fun _ h9 => h9) rfl dX7_passes_9 ?_
        refine lv_if_eq (tgt := 30) hx hb dX7_passes_12 (by decide) (fun c7 => ?_) (fun c7 => ?_)
        · have hf := if_t c7 hf
          refine lv_aload_n hx hb dX7_passes_30 rfl (lv_at hl 1 rfl) ?_
          refine lv_iload_n hx hb dX7_passes_31 rfl (lv_at hl 2 rfl) ?_
          refine lv_aload_n hx hb dX7_passes_32 rfl (lv_at hl 0 rfl) ?_
          refine va_get (D := D) (ci := 7) (v := .ref (a1 20)) (C := RX7) (T := TX7) (N := 33) hx hb hts iX7 hown hK hP 0 rfl rfl 26 (by decide) (hts _ aw762) (fun _ h9 => h9) rfl dX7_passes_33 ?_
          refine lv_aload_n hx hb dX7_passes_36 rfl (lv_at hl 0 rfl) ?_
          refine va_get (D := D) (ci := 7) (v := .int (y2 0 29)) (C := RX7) (T := TX7) (N := 33) hx hb hts iX7 hown hK hP 0 rfl rfl 29 (by decide) (hts _ aw765) (fun _ h9 => h9) rfl dX7_passes_37 ?_
          obtain ⟨h8, hf⟩ := ck_use hf
          refine z_iald hx hb hK hP 20 rfl h8 dX7_passes_40 ?_
          obtain ⟨h10, hf⟩ := ck_use hf
          refine z_iast hx hb hK hP hD hS 11 rfl h10 dX7_passes_41 (fun (w9 : Mem) => (WMod z a1 w9)) (up2 y2 11 x1.toNatClampNeg (y2 20 (y2 0 29).toNatClampNeg)) rfl (fun y9 ey9 H locs hP hD hS => ?_)
          have hf := lt_use ey9 hf
          refine lv_aload_n hx hb dX7_passes_42 rfl (lv_at hl 0 rfl) ?_
          refine lv_dup hx hb dX7_passes_43 rfl ?_
          refine va_get (D := D) (ci := 7) (v := .int (y9 0 29)) (C := RX7) (T := TX7) (N := 33) hx hb hts iX7 hown hK hP 0 rfl rfl 29 (by decide) (hts _ aw765) (fun _ h9 => h9) rfl dX7_passes_44 ?_
          refine lv_iconst (v := 1) hx hb dX7_passes_47 (by decide) ?_
          refine lv_iadd hx hb dX7_passes_48 ?_
          refine z_put (ci := 7) (v := .int ((y9 0 29) + 1)) (ty := .int) (C := RX7) (T := TX7) (N := 33) hx hb hts iX7 tyX7 tyX7_ok nmX7 hown hK hP hD hS 0 rfl rfl 29 (by decide) (hts _ aw765) (fun _ h9 => h9) rfl (by decide +kernel) rfl rfl (Nat.le_of_ble_eq_true rfl) dX7_passes_49 (fun (w9 : Mem) => (WMod z a1 w9)) (up2 y9 0 29 ((y9 0 29) + 1)) rfl (fun y11 ey11 H locs hP hD hS => ?_)
          have hf := lt_use ey11 hf
          obtain ⟨x12, ex12⟩ : ∃ y : Int32, y = x1 + 1 := ⟨_, rfl⟩
          have hf := lt_use ex12 hf
          refine lv_iinc (v := x12) (lv' := [(2, .int x12), (0, .ref (a1 0)), (1, .ref (a1 11))]) hx hb dX7_passes_52 hl (k := 2) rfl (by rw [ex12]; rfl) (by decide) rfl (fun ls hl => ?_)
          refine lv_goto (tgt := 2) hx hb dX7_passes_55 (by decide) ?_
          exact ih5 _ _ _ _ hP hD hS _ (lv_sub hl [1, 2, 0] rfl) hf
        · have hf := if_f c7 hf
          refine lv_aload_n hx hb dX7_passes_15 rfl (lv_at hl 0 rfl) ?_
          refine va_get (D := D) (ci := 7) (v := .ref (a1 20)) (C := RX7) (T := TX7) (N := 33) hx hb hts iX7 hown hK hP 0 rfl rfl 26 (by decide) (hts _ aw762) (fun _ h9 => h9) rfl dX7_passes_16 ?_
          refine lv_aload_n hx hb dX7_passes_19 rfl (lv_at hl 0 rfl) ?_
          refine va_get (D := D) (ci := 7) (v := .int (y2 0 29)) (C := RX7) (T := TX7) (N := 33) hx hb hts iX7 hown hK hP 0 rfl rfl 29 (by decide) (hts _ aw765) (fun _ h9 => h9) rfl dX7_passes_20 ?_
          refine lv_aload_n hx hb dX7_passes_23 rfl (lv_at hl 1 rfl) ?_
          refine lv_iload_n hx hb dX7_passes_24 rfl (lv_at hl 2 rfl) ?_
          obtain ⟨h13, hf⟩ := ck_use hf
          refine z_iald hx hb hK hP 11 rfl h13 dX7_passes_25 ?_
          obtain ⟨h15, hf⟩ := ck_use hf
          refine z_iast hx hb hK hP hD hS 20 rfl h15 dX7_passes_26 (fun (w9 : Mem) => (WMod z a1 w9)) (up2 y2 20 (y2 0 29).toNatClampNeg (y2 11 x1.toNatClampNeg)) rfl (fun y14 ey14 H locs hP hD hS => ?_)
          have hf := lt_use ey14 hf
          refine lv_goto (tgt := 42) hx hb dX7_passes_27 (by decide) ?_
          refine lv_aload_n hx hb dX7_passes_42 rfl (lv_at hl 0 rfl) ?_
          refine lv_dup hx hb dX7_passes_43 rfl ?_
          refine va_get (D := D) (ci := 7) (v := .int (y14 0 29)) (C := RX7) (T := TX7) (N := 33) hx hb hts iX7 hown hK hP 0 rfl rfl 29 (by decide) (hts _ aw765) (fun _ h9 => h9) rfl dX7_passes_44 ?_
          refine lv_iconst (v := 1) hx hb dX7_passes_47 (by decide) ?_
          refine lv_iadd hx hb dX7_passes_48 ?_
          refine z_put (ci := 7) (v := .int ((y14 0 29) + 1)) (ty := .int) (C := RX7) (T := TX7) (N := 33) hx hb hts iX7 tyX7 tyX7_ok nmX7 hown hK hP hD hS 0 rfl rfl 29 (by decide) (hts _ aw765) (fun _ h9 => h9) rfl (by decide +kernel) rfl rfl (Nat.le_of_ble_eq_true rfl) dX7_passes_49 (fun (w9 : Mem) => (WMod z a1 w9)) (up2 y14 0 29 ((y14 0 29) + 1)) rfl (fun y16 ey16 H locs hP hD hS => ?_)
          have hf := lt_use ey16 hf
          obtain ⟨x17, ex17⟩ : ∃ y : Int32, y = x1 + 1 := ⟨_, rfl⟩
          have hf := lt_use ex17 hf
          refine lv_iinc (v := x17) (lv' := [(2, .int x17), (0, .ref (a1 0)), (1, .ref (a1 11))]) hx hb dX7_passes_52 hl (k := 2) rfl (by rw [ex17]; rfl) (by decide) rfl (fun ls hl => ?_)
          refine lv_goto (tgt := 2) hx hb dX7_passes_55 (by decide) ?_
          exact ih5 _ _ _ _ hP hD hS _ (lv_sub hl [1, 2, 0] rfl) hf
  exact L2_F3 fu _ _ _ _ hP hD hS _ (lv_sub hl [1, 2, 0] rfl) hf
def pX7_passes_12 (fu : Nat) (m1 : Mem) : Option Mem :=
  zl2 (fun g4 (x1 : Int32) (y2 : Mem) =>
    if 2 ≤ x1 then
      some y2
    else
      if (y2 0 28) = 0 then
        ck (y2 0 29) 300 <|
        ck x1 2 <|
        lt' (up2 y2 12 x1.toNatClampNeg (y2 20 (y2 0 29).toNatClampNeg)) fun y9 =>
        lt' (up2 y9 0 29 ((y9 0 29) + 1)) fun y11 =>
        lt' (x1 + 1) fun x12 =>
        g4 x12 y11
      else
        ck x1 2 <|
        ck (y2 0 29) 300 <|
        lt' (up2 y2 20 (y2 0 29).toNatClampNeg (y2 12 x1.toNatClampNeg)) fun y14 =>
        lt' (up2 y14 0 29 ((y14 0 29) + 1)) fun y16 =>
        lt' (x1 + 1) fun x17 =>
        g4 x17 y16) fu 0 m1
set_option maxHeartbeats 4000000 in
set_option maxRecDepth 100000 in
theorem tX7_passes_12 (l : Launch) (D : va_G) (z tt : Nat → Nat) (a1 : Nat → Nat) (m1 : Mem)  (fu : Nat) (m1' : Mem) (hf : pX7_passes_12 fu m1 = some m1') : MetV l yX7_passes wsX7_passes ({ frames := 0, cells := 0, slots := 0, locals := 0 } : Room) D z tt ([.ref (a1 0), .ref (a1 12)] : List Value) (WMod z a1 m1) (WMod z a1 m1') := by
  intro sz
  refine Met.ofW (cc := cX7_passes) (maxL := 3) (ret := none) (by decide) rfl ?_
  intro p e s m args below meth c s₁ B hml hv
  obtain ⟨rfl, hsz, hP, hK, hD0, hT, hN⟩ := hv
  have hx := B.exec
  have hb := B.bytes
  have hr := B.returns
  have hts : ∀ w ∈ wsA, w.before ([.ref (a1 0), .ref (a1 12)] : List Value).toArray s = true := fun w h => atoms_spec (ws := wsX7_passes) B.pre w (List.mem_cons_of_mem _ h)
  have hown : s.vm.findClass RX7 = some m.cls := findClass_of_methodNamed B.named
  have hlocks := B.notSynchronized
  subst hsz
  have hD := hD0.self (sz := s.heap.size)
  generalize hAe : va_A (WMod z a1 m1) s.heap.size = A at hD hT ⊢
  have hA : ∀ q : Nat, s.heap.size ≤ q → A q := fun q h => by rw [← hAe]; exact Or.inr h
  have hS : va_S A s.heap s.heap [] := va_S.rf
  have hl := lv_entry ([.ref (a1 0), .ref (a1 12)] : List Value) (n := 3) (Nat.le_of_ble_eq_true rfl)
  rw [lg_entry_eq]
  generalize (lg_sl ([.ref (a1 0), .ref (a1 12)] : List Value) ++ List.replicate (3 - (lg_sl ([.ref (a1 0), .ref (a1 12)] : List Value)).length) Slot.unset).toArray = ls at hl ⊢
  have hl : lv_has ls 3 [(0, .ref (a1 0)), (1, .ref (a1 12))] := hl
  unfold pX7_passes_12 at hf
  refine lv_iconst (v := 0) hx hb dX7_passes_0 (by decide) ?_
  refine lv_istore_n (lv' := [(2, .int 0), (0, .ref (a1 0)), (1, .ref (a1 12))]) hx hb dX7_passes_1 rfl hl (by decide) rfl (fun ls hl => ?_)
  obtain ⟨F3, eF3, hf⟩ := zl2_use hf
  have L2_F3 : ∀ (n : Nat) (x1 : Int32) (y2 : Mem) (H : Heap) (locs : List Loc), va_P D vwCl (WMod z a1 y2) H → va_D A (WMod z a1 y2) → va_S A s.heap H locs → ∀ (ls : Array Slot), lv_has ls 3 [(0, .ref (a1 0)), (1, .ref (a1 12)), (2, .int x1)] → zl2 F3 n x1 y2 = some m1' → GV p l e (headSpec wsX7_passes ({ frames := 0, cells := 0, slots := 0, locals := 0 } : Room)).room s m ([.ref (a1 0), .ref (a1 12)] : List Value).toArray below meth c A D z (WMod z a1 m1') H locs (F0 m 2 ls []) := by
    intro n
    induction n with
    | zero =>
      intro x1 y2 H locs hP hD hS ls hl hf
      exact no_none hf
    | succ n ih5 =>
      intro x1 y2 H locs hP hD hS ls hl hf
      have hf := zl2_s eF3 hf
      refine lv_iload_n hx hb dX7_passes_2 rfl (lv_at hl 2 rfl) ?_
      refine lv_aload_n hx hb dX7_passes_3 rfl (lv_at hl 1 rfl) ?_
      refine z_alen hx hb hK hP 12 0 rfl rfl (v := 2) rfl dX7_passes_4 ?_
      refine lv_icmp_ge (tgt := 58) hx hb dX7_passes_5 (by decide) (fun c6 => ?_) (fun c6 => ?_)
      · have hf := if_t c6 hf
        obtain rfl := so1 hf
        exact ret_v hx hb hr hlocks hK hP hD hS dX7_passes_58
      · have hf := if_f c6 hf
        refine lv_aload_n hx hb dX7_passes_8 rfl (lv_at hl 0 rfl) ?_
        refine va_get (D := D) (ci := 7) (v := .int (y2 0 28)) (C := RX7) (T := TX7) (N := 33) hx hb hts iX7 hown hK hP 0 rfl rfl 28 (by decide) (hts _ aw764) (fun _ h9 => h9) rfl dX7_passes_9 ?_
        refine lv_if_eq (tgt := 30) hx hb dX7_passes_12 (by decide) (fun c7 => ?_) (fun c7 => ?_)
        · have hf := if_t c7 hf
          refine lv_aload_n hx hb dX7_passes_30 rfl (lv_at hl 1 rfl) ?_
          refine lv_iload_n hx hb dX7_passes_31 rfl (lv_at hl 2 rfl) ?_
          refine lv_aload_n hx hb dX7_passes_32 rfl (lv_at hl 0 rfl) ?_
          refine va_get (D := D) (ci := 7) (v := .ref (a1 20)) (C := RX7) (T := TX7) (N := 33) hx hb hts iX7 hown hK hP 0 rfl rfl 26 (by decide) (hts _ aw762) (fun _ h9 => h9) rfl dX7_passes_33 ?_
          refine lv_aload_n hx hb dX7_passes_36 rfl (lv_at hl 0 rfl) ?_
          refine va_get (D := D) (ci := 7) (v := .int (y2 0 29)) (C := RX7) (T := TX7) (N := 33) hx hb hts iX7 hown hK hP 0 rfl rfl 29 (by decide) (hts _ aw765) (fun _ h9 => h9) rfl dX7_passes_37 ?_
          obtain ⟨h8, hf⟩ := ck_use hf
          refine z_iald hx hb hK hP 20 rfl h8 dX7_passes_40 ?_
          obtain ⟨h10, hf⟩ := ck_use hf
          refine z_iast hx hb hK hP hD hS 12 rfl h10 dX7_passes_41 (fun (w9 : Mem) => (WMod z a1 w9)) (up2 y2 12 x1.toNatClampNeg (y2 20 (y2 0 29).toNatClampNeg)) rfl (fun y9 ey9 H locs hP hD hS => ?_)
          have hf := lt_use ey9 hf
          refine lv_aload_n hx hb dX7_passes_42 rfl (lv_at hl 0 rfl) ?_
          refine lv_dup hx hb dX7_passes_43 rfl ?_
          refine va_get (D := D) (ci := 7) (v := .int (y9 0 29)) (C := RX7) (T := TX7) (N := 33) hx hb hts iX7 hown hK hP 0 rfl rfl 29 (by decide) (hts _ aw765) (fun _ h9 => h9) rfl dX7_passes_44 ?_
          refine lv_iconst (v := 1) hx hb dX7_passes_47 (by decide) ?_
          refine lv_iadd hx hb dX7_passes_48 ?_
          refine z_put (ci := 7) (v := .int ((y9 0 29) + 1)) (ty := .int) (C := RX7) (T := TX7) (N := 33) hx hb hts iX7 tyX7 tyX7_ok nmX7 hown hK hP hD hS 0 rfl rfl 29 (by decide) (hts _ aw765) (fun _ h9 => h9) rfl (by decide +kernel) rfl rfl (Nat.le_of_ble_eq_true rfl) dX7_passes_49 (fun (w9 : Mem) => (WMod z a1 w9)) (up2 y9 0 29 ((y9 0 29) + 1)) rfl (fun y11 ey11 H locs hP hD hS => ?_)
          have hf := lt_use ey11 hf
          obtain ⟨x12, ex12⟩ : ∃ y : Int32, y = x1 + 1 := ⟨_, rfl⟩
          have hf := lt_use ex12 hf
          refine lv_iinc (v := x12) (lv' := [(2, .int x12), (0, .ref (a1 0)), (1, .ref (a1 12))]) hx hb dX7_passes_52 hl (k := 2) rfl (by rw [ex12]; rfl) (by decide) rfl (fun ls hl => ?_)
          refine lv_goto (tgt := 2) hx hb dX7_passes_55 (by decide) ?_
          exact ih5 _ _ _ _ hP hD hS _ (lv_sub hl [1, 2, 0] rfl) hf
        · have hf := if_f c7 hf
          refine lv_aload_n hx hb dX7_passes_15 rfl (lv_at hl 0 rfl) ?_
          refine va_get (D := D) (ci := 7) (v := .ref (a1 20)) (C := RX7) (T := TX7) (N := 33) hx hb hts iX7 hown hK hP 0 rfl rfl 26 (by decide) (hts _ aw762) (fun _ h9 => h9) rfl dX7_passes_16 ?_
          refine lv_aload_n hx hb dX7_passes_19 rfl (lv_at hl 0 rfl) ?_
          refine va_get (D := D) (ci := 7) (v := .int (y2 0 29)) (C := RX7) (T := TX7) (N := 33) hx hb hts iX7 hown hK hP 0 rfl rfl 29 (by decide) (hts _ aw765) (fun _ h9 => h9) rfl dX7_passes_20 ?_
          refine lv_aload_n hx hb dX7_passes_23 rfl (lv_at hl 1 rfl) ?_
          refine lv_iload_n hx hb dX7_passes_24 rfl (lv_at hl 2 rfl) ?_
          obtain ⟨h13, hf⟩ := ck_use hf
          refine z_iald hx hb hK hP 12 rfl h13 dX7_passes_25 ?_
          obtain ⟨h15, hf⟩ := ck_use hf
          refine z_iast hx hb hK hP hD hS 20 rfl h15 dX7_passes_26 (fun (w9 : Mem) => (WMod z a1 w9)) (up2 y2 20 (y2 0 29).toNatClampNeg (y2 12 x1.toNatClampNeg)) rfl (fun y14 ey14 H locs hP hD hS => ?_)
          have hf := lt_use ey14 hf
          refine lv_goto (tgt := 42) hx hb dX7_passes_27 (by decide) ?_
          refine lv_aload_n hx hb dX7_passes_42 rfl (lv_at hl 0 rfl) ?_
          refine lv_dup hx hb dX7_passes_43 rfl ?_
          refine va_get (D := D) (ci := 7) (v := .int (y14 0 29)) (C := RX7) (T := TX7) (N := 33) hx hb hts iX7 hown hK hP 0 rfl rfl 29 (by decide) (hts _ aw765) (fun _ h9 => h9) rfl dX7_passes_44 ?_
          refine lv_iconst (v := 1) hx hb dX7_passes_47 (by decide) ?_
          refine lv_iadd hx hb dX7_passes_48 ?_
          refine z_put (ci := 7) (v := .int ((y14 0 29) + 1)) (ty := .int) (C := RX7) (T := TX7) (N := 33) hx hb hts iX7 tyX7 tyX7_ok nmX7 hown hK hP hD hS 0 rfl rfl 29 (by decide) (hts _ aw765) (fun _ h9 => h9) rfl (by decide +kernel) rfl rfl (Nat.le_of_ble_eq_true rfl) dX7_passes_49 (fun (w9 : Mem) => (WMod z a1 w9)) (up2 y14 0 29 ((y14 0 29) + 1)) rfl (fun y16 ey16 H locs hP hD hS => ?_)
          have hf := lt_use ey16 hf
          obtain ⟨x17, ex17⟩ : ∃ y : Int32, y = x1 + 1 := ⟨_, rfl⟩
          have hf := lt_use ex17 hf
          refine lv_iinc (v := x17) (lv' := [(2, .int x17), (0, .ref (a1 0)), (1, .ref (a1 12))]) hx hb dX7_passes_52 hl (k := 2) rfl (by rw [ex17]; rfl) (by decide) rfl (fun ls hl => ?_)
          refine lv_goto (tgt := 2) hx hb dX7_passes_55 (by decide) ?_
          exact ih5 _ _ _ _ hP hD hS _ (lv_sub hl [1, 2, 0] rfl) hf
  exact L2_F3 fu _ _ _ _ hP hD hS _ (lv_sub hl [1, 2, 0] rfl) hf
def pX7_passes_13 (fu : Nat) (m1 : Mem) : Option Mem :=
  zl2 (fun g4 (x1 : Int32) (y2 : Mem) =>
    if 2 ≤ x1 then
      some y2
    else
      if (y2 0 28) = 0 then
        ck (y2 0 29) 300 <|
        ck x1 2 <|
        lt' (up2 y2 13 x1.toNatClampNeg (y2 20 (y2 0 29).toNatClampNeg)) fun y9 =>
        lt' (up2 y9 0 29 ((y9 0 29) + 1)) fun y11 =>
        lt' (x1 + 1) fun x12 =>
        g4 x12 y11
      else
        ck x1 2 <|
        ck (y2 0 29) 300 <|
        lt' (up2 y2 20 (y2 0 29).toNatClampNeg (y2 13 x1.toNatClampNeg)) fun y14 =>
        lt' (up2 y14 0 29 ((y14 0 29) + 1)) fun y16 =>
        lt' (x1 + 1) fun x17 =>
        g4 x17 y16) fu 0 m1
set_option maxHeartbeats 4000000 in
set_option maxRecDepth 100000 in
theorem tX7_passes_13 (l : Launch) (D : va_G) (z tt : Nat → Nat) (a1 : Nat → Nat) (m1 : Mem)  (fu : Nat) (m1' : Mem) (hf : pX7_passes_13 fu m1 = some m1') : MetV l yX7_passes wsX7_passes ({ frames := 0, cells := 0, slots := 0, locals := 0 } : Room) D z tt ([.ref (a1 0), .ref (a1 13)] : List Value) (WMod z a1 m1) (WMod z a1 m1') := by
  intro sz
  refine Met.ofW (cc := cX7_passes) (maxL := 3) (ret := none) (by decide) rfl ?_
  intro p e s m args below meth c s₁ B hml hv
  obtain ⟨rfl, hsz, hP, hK, hD0, hT, hN⟩ := hv
  have hx := B.exec
  have hb := B.bytes
  have hr := B.returns
  have hts : ∀ w ∈ wsA, w.before ([.ref (a1 0), .ref (a1 13)] : List Value).toArray s = true := fun w h => atoms_spec (ws := wsX7_passes) B.pre w (List.mem_cons_of_mem _ h)
  have hown : s.vm.findClass RX7 = some m.cls := findClass_of_methodNamed B.named
  have hlocks := B.notSynchronized
  subst hsz
  have hD := hD0.self (sz := s.heap.size)
  generalize hAe : va_A (WMod z a1 m1) s.heap.size = A at hD hT ⊢
  have hA : ∀ q : Nat, s.heap.size ≤ q → A q := fun q h => by rw [← hAe]; exact Or.inr h
  have hS : va_S A s.heap s.heap [] := va_S.rf
  have hl := lv_entry ([.ref (a1 0), .ref (a1 13)] : List Value) (n := 3) (Nat.le_of_ble_eq_true rfl)
  rw [lg_entry_eq]
  generalize (lg_sl ([.ref (a1 0), .ref (a1 13)] : List Value) ++ List.replicate (3 - (lg_sl ([.ref (a1 0), .ref (a1 13)] : List Value)).length) Slot.unset).toArray = ls at hl ⊢
  have hl : lv_has ls 3 [(0, .ref (a1 0)), (1, .ref (a1 13))] := hl
  unfold pX7_passes_13 at hf
  refine lv_iconst (v := 0) hx hb dX7_passes_0 (by decide) ?_
  refine lv_istore_n (lv' := [(2, .int 0), (0, .ref (a1 0)), (1, .ref (a1 13))]) hx hb dX7_passes_1 rfl hl (by decide) rfl (fun ls hl => ?_)
  obtain ⟨F3, eF3, hf⟩ := zl2_use hf
  have L2_F3 : ∀ (n : Nat) (x1 : Int32) (y2 : Mem) (H : Heap) (locs : List Loc), va_P D vwCl (WMod z a1 y2) H → va_D A (WMod z a1 y2) → va_S A s.heap H locs → ∀ (ls : Array Slot), lv_has ls 3 [(0, .ref (a1 0)), (1, .ref (a1 13)), (2, .int x1)] → zl2 F3 n x1 y2 = some m1' → GV p l e (headSpec wsX7_passes ({ frames := 0, cells := 0, slots := 0, locals := 0 } : Room)).room s m ([.ref (a1 0), .ref (a1 13)] : List Value).toArray below meth c A D z (WMod z a1 m1') H locs (F0 m 2 ls []) := by
    intro n
    induction n with
    | zero =>
      intro x1 y2 H locs hP hD hS ls hl hf
      exact no_none hf
    | succ n ih5 =>
      intro x1 y2 H locs hP hD hS ls hl hf
      have hf := zl2_s eF3 hf
      refine lv_iload_n hx hb dX7_passes_2 rfl (lv_at hl 2 rfl) ?_
      refine lv_aload_n hx hb dX7_passes_3 rfl (lv_at hl 1 rfl) ?_
      refine z_alen hx hb hK hP 13 0 rfl rfl (v := 2) rfl dX7_passes_4 ?_
      refine lv_icmp_ge (tgt := 58) hx hb dX7_passes_5 (by decide) (fun c6 => ?_) (fun c6 => ?_)
      · have hf := if_t c6 hf
        obtain rfl := so1 hf
        exact ret_v hx hb hr hlocks hK hP hD hS dX7_passes_58
      · have hf := if_f c6 hf
        refine lv_aload_n hx hb dX7_passes_8 rfl (lv_at hl 0 rfl) ?_
        refine va_get (D := D) (ci := 7) (v := .int (y2 0 28)) (C := RX7) (T := TX7) (N := 33) hx hb hts iX7 hown hK hP 0 rfl rfl 28 (by decide) (hts _ aw764) (fun _ h9 => h9) rfl dX7_passes_9 ?_
        refine lv_if_eq (tgt := 30) hx hb dX7_passes_12 (by decide) (fun c7 => ?_) (fun c7 => ?_)
        · have hf := if_t c7 hf
          refine lv_aload_n hx hb dX7_passes_30 rfl (lv_at hl 1 rfl) ?_
          refine lv_iload_n hx hb dX7_passes_31 rfl (lv_at hl 2 rfl) ?_
          refine lv_aload_n hx hb dX7_passes_32 rfl (lv_at hl 0 rfl) ?_
          refine va_get (D := D) (ci := 7) (v := .ref (a1 20)) (C := RX7) (T := TX7) (N := 33) hx hb hts iX7 hown hK hP 0 rfl rfl 26 (by decide) (hts _ aw762) (fun _ h9 => h9) rfl dX7_passes_33 ?_
          refine lv_aload_n hx hb dX7_passes_36 rfl (lv_at hl 0 rfl) ?_
          refine va_get (D := D) (ci := 7) (v := .int (y2 0 29)) (C := RX7) (T := TX7) (N := 33) hx hb hts iX7 hown hK hP 0 rfl rfl 29 (by decide) (hts _ aw765) (fun _ h9 => h9) rfl dX7_passes_37 ?_
          obtain ⟨h8, hf⟩ := ck_use hf
          refine z_iald hx hb hK hP 20 rfl h8 dX7_passes_40 ?_
          obtain ⟨h10, hf⟩ := ck_use hf
          refine z_iast hx hb hK hP hD hS 13 rfl h10 dX7_passes_41 (fun (w9 : Mem) => (WMod z a1 w9)) (up2 y2 13 x1.toNatClampNeg (y2 20 (y2 0 29).toNatClampNeg)) rfl (fun y9 ey9 H locs hP hD hS => ?_)
          have hf := lt_use ey9 hf
          refine lv_aload_n hx hb dX7_passes_42 rfl (lv_at hl 0 rfl) ?_
          refine lv_dup hx hb dX7_passes_43 rfl ?_
          refine va_get (D := D) (ci := 7) (v := .int (y9 0 29)) (C := RX7) (T := TX7) (N := 33) hx hb hts iX7 hown hK hP 0 rfl rfl 29 (by decide) (hts _ aw765) (fun _ h9 => h9) rfl dX7_passes_44 ?_
          refine lv_iconst (v := 1) hx hb dX7_passes_47 (by decide) ?_
          refine lv_iadd hx hb dX7_passes_48 ?_
          refine z_put (ci := 7) (v := .int ((y9 0 29) + 1)) (ty := .int) (C := RX7) (T := TX7) (N := 33) hx hb hts iX7 tyX7 tyX7_ok nmX7 hown hK hP hD hS 0 rfl rfl 29 (by decide) (hts _ aw765) (fun _ h9 => h9) rfl (by decide +kernel) rfl rfl (Nat.le_of_ble_eq_true rfl) dX7_passes_49 (fun (w9 : Mem) => (WMod z a1 w9)) (up2 y9 0 29 ((y9 0 29) + 1)) rfl (fun y11 ey11 H locs hP hD hS => ?_)
          have hf := lt_use ey11 hf
          obtain ⟨x12, ex12⟩ : ∃ y : Int32, y = x1 + 1 := ⟨_, rfl⟩
          have hf := lt_use ex12 hf
          refine lv_iinc (v := x12) (lv' := [(2, .int x12), (0, .ref (a1 0)), (1, .ref (a1 13))]) hx hb dX7_passes_52 hl (k := 2) rfl (by rw [ex12]; rfl) (by decide) rfl (fun ls hl => ?_)
          refine lv_goto (tgt := 2) hx hb dX7_passes_55 (by decide) ?_
          exact ih5 _ _ _ _ hP hD hS _ (lv_sub hl [1, 2, 0] rfl) hf
        · have hf := if_f c7 hf
          refine lv_aload_n hx hb dX7_passes_15 rfl (lv_at hl 0 rfl) ?_
          refine va_get (D := D) (ci := 7) (v := .ref (a1 20)) (C := RX7) (T := TX7) (N := 33) hx hb hts iX7 hown hK hP 0 rfl rfl 26 (by decide) (hts _ aw762) (fun _ h9 => h9) rfl dX7_passes_16 ?_
          refine lv_aload_n hx hb dX7_passes_19 rfl (lv_at hl 0 rfl) ?_
          refine va_get (D := D) (ci := 7) (v := .int (y2 0 29)) (C := RX7) (T := TX7) (N := 33) hx hb hts iX7 hown hK hP 0 rfl rfl 29 (by decide) (hts _ aw765) (fun _ h9 => h9) rfl dX7_passes_20 ?_
          refine lv_aload_n hx hb dX7_passes_23 rfl (lv_at hl 1 rfl) ?_
          refine lv_iload_n hx hb dX7_passes_24 rfl (lv_at hl 2 rfl) ?_
          obtain ⟨h13, hf⟩ := ck_use hf
          refine z_iald hx hb hK hP 13 rfl h13 dX7_passes_25 ?_
          obtain ⟨h15, hf⟩ := ck_use hf
          refine z_iast hx hb hK hP hD hS 20 rfl h15 dX7_passes_26 (fun (w9 : Mem) => (WMod z a1 w9)) (up2 y2 20 (y2 0 29).toNatClampNeg (y2 13 x1.toNatClampNeg)) rfl (fun y14 ey14 H locs hP hD hS => ?_)
          have hf := lt_use ey14 hf
          refine lv_goto (tgt := 42) hx hb dX7_passes_27 (by decide) ?_
          refine lv_aload_n hx hb dX7_passes_42 rfl (lv_at hl 0 rfl) ?_
          refine lv_dup hx hb dX7_passes_43 rfl ?_
          refine va_get (D := D) (ci := 7) (v := .int (y14 0 29)) (C := RX7) (T := TX7) (N := 33) hx hb hts iX7 hown hK hP 0 rfl rfl 29 (by decide) (hts _ aw765) (fun _ h9 => h9) rfl dX7_passes_44 ?_
          refine lv_iconst (v := 1) hx hb dX7_passes_47 (by decide) ?_
          refine lv_iadd hx hb dX7_passes_48 ?_
          refine z_put (ci := 7) (v := .int ((y14 0 29) + 1)) (ty := .int) (C := RX7) (T := TX7) (N := 33) hx hb hts iX7 tyX7 tyX7_ok nmX7 hown hK hP hD hS 0 rfl rfl 29 (by decide) (hts _ aw765) (fun _ h9 => h9) rfl (by decide +kernel) rfl rfl (Nat.le_of_ble_eq_true rfl) dX7_passes_49 (fun (w9 : Mem) => (WMod z a1 w9)) (up2 y14 0 29 ((y14 0 29) + 1)) rfl (fun y16 ey16 H locs hP hD hS => ?_)
          have hf := lt_use ey16 hf
          obtain ⟨x17, ex17⟩ : ∃ y : Int32, y = x1 + 1 := ⟨_, rfl⟩
          have hf := lt_use ex17 hf
          refine lv_iinc (v := x17) (lv' := [(2, .int x17), (0, .ref (a1 0)), (1, .ref (a1 13))]) hx hb dX7_passes_52 hl (k := 2) rfl (by rw [ex17]; rfl) (by decide) rfl (fun ls hl => ?_)
          refine lv_goto (tgt := 2) hx hb dX7_passes_55 (by decide) ?_
          exact ih5 _ _ _ _ hP hD hS _ (lv_sub hl [1, 2, 0] rfl) hf
  exact L2_F3 fu _ _ _ _ hP hD hS _ (lv_sub hl [1, 2, 0] rfl) hf
def pX7_passes_14 (fu : Nat) (m1 : Mem) : Option Mem :=
  zl2 (fun g4 (x1 : Int32) (y2 : Mem) =>
    if 2 ≤ x1 then
      some y2
    else
      if (y2 0 28) = 0 then
        ck (y2 0 29) 300 <|
        ck x1 2 <|
        lt' (up2 y2 14 x1.toNatClampNeg (y2 20 (y2 0 29).toNatClampNeg)) fun y9 =>
        lt' (up2 y9 0 29 ((y9 0 29) + 1)) fun y11 =>
        lt' (x1 + 1) fun x12 =>
        g4 x12 y11
      else
        ck x1 2 <|
        ck (y2 0 29) 300 <|
        lt' (up2 y2 20 (y2 0 29).toNatClampNeg (y2 14 x1.toNatClampNeg)) fun y14 =>
        lt' (up2 y14 0 29 ((y14 0 29) + 1)) fun y16 =>
        lt' (x1 + 1) fun x17 =>
        g4 x17 y16) fu 0 m1
set_option maxHeartbeats 4000000 in
set_option maxRecDepth 100000 in
theorem tX7_passes_14 (l : Launch) (D : va_G) (z tt : Nat → Nat) (a1 : Nat → Nat) (m1 : Mem)  (fu : Nat) (m1' : Mem) (hf : pX7_passes_14 fu m1 = some m1') : MetV l yX7_passes wsX7_passes ({ frames := 0, cells := 0, slots := 0, locals := 0 } : Room) D z tt ([.ref (a1 0), .ref (a1 14)] : List Value) (WMod z a1 m1) (WMod z a1 m1') := by
  intro sz
  refine Met.ofW (cc := cX7_passes) (maxL := 3) (ret := none) (by decide) rfl ?_
  intro p e s m args below meth c s₁ B hml hv
  obtain ⟨rfl, hsz, hP, hK, hD0, hT, hN⟩ := hv
  have hx := B.exec
  have hb := B.bytes
  have hr := B.returns
  have hts : ∀ w ∈ wsA, w.before ([.ref (a1 0), .ref (a1 14)] : List Value).toArray s = true := fun w h => atoms_spec (ws := wsX7_passes) B.pre w (List.mem_cons_of_mem _ h)
  have hown : s.vm.findClass RX7 = some m.cls := findClass_of_methodNamed B.named
  have hlocks := B.notSynchronized
  subst hsz
  have hD := hD0.self (sz := s.heap.size)
  generalize hAe : va_A (WMod z a1 m1) s.heap.size = A at hD hT ⊢
  have hA : ∀ q : Nat, s.heap.size ≤ q → A q := fun q h => by rw [← hAe]; exact Or.inr h
  have hS : va_S A s.heap s.heap [] := va_S.rf
  have hl := lv_entry ([.ref (a1 0), .ref (a1 14)] : List Value) (n := 3) (Nat.le_of_ble_eq_true rfl)
  rw [lg_entry_eq]
  generalize (lg_sl ([.ref (a1 0), .ref (a1 14)] : List Value) ++ List.replicate (3 - (lg_sl ([.ref (a1 0), .ref (a1 14)] : List Value)).length) Slot.unset).toArray = ls at hl ⊢
  have hl : lv_has ls 3 [(0, .ref (a1 0)), (1, .ref (a1 14))] := hl
  unfold pX7_passes_14 at hf
  refine lv_iconst (v := 0) hx hb dX7_passes_0 (by decide) ?_
  refine lv_istore_n (lv' := [(2, .int 0), (0, .ref (a1 0)), (1, .ref (a1 14))]) hx hb dX7_passes_1 rfl hl (by decide) rfl (fun ls hl => ?_)
  obtain ⟨F3, eF3, hf⟩ := zl2_use hf
  have L2_F3 : ∀ (n : Nat) (x1 : Int32) (y2 : Mem) (H : Heap) (locs : List Loc), va_P D vwCl (WMod z a1 y2) H → va_D A (WMod z a1 y2) → va_S A s.heap H locs → ∀ (ls : Array Slot), lv_has ls 3 [(0, .ref (a1 0)), (1, .ref (a1 14)), (2, .int x1)] → zl2 F3 n x1 y2 = some m1' → GV p l e (headSpec wsX7_passes ({ frames := 0, cells := 0, slots := 0, locals := 0 } : Room)).room s m ([.ref (a1 0), .ref (a1 14)] : List Value).toArray below meth c A D z (WMod z a1 m1') H locs (F0 m 2 ls []) := by
    intro n
    induction n with
    | zero =>
      intro x1 y2 H locs hP hD hS ls hl hf
      exact no_none hf
    | succ n ih5 =>
      intro x1 y2 H locs hP hD hS ls hl hf
      have hf := zl2_s eF3 hf
      refine lv_iload_n hx hb dX7_passes_2 rfl (lv_at hl 2 rfl) ?_
      refine lv_aload_n hx hb dX7_passes_3 rfl (lv_at hl 1 rfl) ?_
      refine z_alen hx hb hK hP 14 0 rfl rfl (v := 2) rfl dX7_passes_4 ?_
      refine lv_icmp_ge (tgt := 58) hx hb dX7_passes_5 (by decide) (fun c6 => ?_) (fun c6 => ?_)
      · have hf := if_t c6 hf
        obtain rfl := so1 hf
        exact ret_v hx hb hr hlocks hK hP hD hS dX7_passes_58
      · have hf := if_f c6 hf
        refine lv_aload_n hx hb dX7_passes_8 rfl (lv_at hl 0 rfl) ?_
        refine va_get (D := D) (ci := 7) (v := .int (y2 0 28)) (C := RX7) (T := TX7) (N := 33) hx hb hts iX7 hown hK hP 0 rfl rfl 28 (by decide) (hts _ aw764) (fun _ h9 => h9) rfl dX7_passes_9 ?_
        refine lv_if_eq (tgt := 30) hx hb dX7_passes_12 (by decide) (fun c7 => ?_) (fun c7 => ?_)
        · have hf := if_t c7 hf
          refine lv_aload_n hx hb dX7_passes_30 rfl (lv_at hl 1 rfl) ?_
          refine lv_iload_n hx hb dX7_passes_31 rfl (lv_at hl 2 rfl) ?_
          refine lv_aload_n hx hb dX7_passes_32 rfl (lv_at hl 0 rfl) ?_
          refine va_get (D := D) (ci := 7) (v := .ref (a1 20)) (C := RX7) (T := TX7) (N := 33) hx hb hts iX7 hown hK hP 0 rfl rfl 26 (by decide) (hts _ aw762) (fun _ h9 => h9) rfl dX7_passes_33 ?_
          refine lv_aload_n hx hb dX7_passes_36 rfl (lv_at hl 0 rfl) ?_
          refine va_get (D := D) (ci := 7) (v := .int (y2 0 29)) (C := RX7) (T := TX7) (N := 33) hx hb hts iX7 hown hK hP 0 rfl rfl 29 (by decide) (hts _ aw765) (fun _ h9 => h9) rfl dX7_passes_37 ?_
          obtain ⟨h8, hf⟩ := ck_use hf
          refine z_iald hx hb hK hP 20 rfl h8 dX7_passes_40 ?_
          obtain ⟨h10, hf⟩ := ck_use hf
          refine z_iast hx hb hK hP hD hS 14 rfl h10 dX7_passes_41 (fun (w9 : Mem) => (WMod z a1 w9)) (up2 y2 14 x1.toNatClampNeg (y2 20 (y2 0 29).toNatClampNeg)) rfl (fun y9 ey9 H locs hP hD hS => ?_)
          have hf := lt_use ey9 hf
          refine lv_aload_n hx hb dX7_passes_42 rfl (lv_at hl 0 rfl) ?_
          refine lv_dup hx hb dX7_passes_43 rfl ?_
          refine va_get (D := D) (ci := 7) (v := .int (y9 0 29)) (C := RX7) (T := TX7) (N := 33) hx hb hts iX7 hown hK hP 0 rfl rfl 29 (by decide) (hts _ aw765) (fun _ h9 => h9) rfl dX7_passes_44 ?_
          refine lv_iconst (v := 1) hx hb dX7_passes_47 (by decide) ?_
          refine lv_iadd hx hb dX7_passes_48 ?_
          refine z_put (ci := 7) (v := .int ((y9 0 29) + 1)) (ty := .int) (C := RX7) (T := TX7) (N := 33) hx hb hts iX7 tyX7 tyX7_ok nmX7 hown hK hP hD hS 0 rfl rfl 29 (by decide) (hts _ aw765) (fun _ h9 => h9) rfl (by decide +kernel) rfl rfl (Nat.le_of_ble_eq_true rfl) dX7_passes_49 (fun (w9 : Mem) => (WMod z a1 w9)) (up2 y9 0 29 ((y9 0 29) + 1)) rfl (fun y11 ey11 H locs hP hD hS => ?_)
          have hf := lt_use ey11 hf
          obtain ⟨x12, ex12⟩ : ∃ y : Int32, y = x1 + 1 := ⟨_, rfl⟩
          have hf := lt_use ex12 hf
          refine lv_iinc (v := x12) (lv' := [(2, .int x12), (0, .ref (a1 0)), (1, .ref (a1 14))]) hx hb dX7_passes_52 hl (k := 2) rfl (by rw [ex12]; rfl) (by decide) rfl (fun ls hl => ?_)
          refine lv_goto (tgt := 2) hx hb dX7_passes_55 (by decide) ?_
          exact ih5 _ _ _ _ hP hD hS _ (lv_sub hl [1, 2, 0] rfl) hf
        · have hf := if_f c7 hf
          refine lv_aload_n hx hb dX7_passes_15 rfl (lv_at hl 0 rfl) ?_
          refine va_get (D := D) (ci := 7) (v := .ref (a1 20)) (C := RX7) (T := TX7) (N := 33) hx hb hts iX7 hown hK hP 0 rfl rfl 26 (by decide) (hts _ aw762) (fun _ h9 => h9) rfl dX7_passes_16 ?_
          refine lv_aload_n hx hb dX7_passes_19 rfl (lv_at hl 0 rfl) ?_
          refine va_get (D := D) (ci := 7) (v := .int (y2 0 29)) (C := RX7) (T := TX7) (N := 33) hx hb hts iX7 hown hK hP 0 rfl rfl 29 (by decide) (hts _ aw765) (fun _ h9 => h9) rfl dX7_passes_20 ?_
          refine lv_aload_n hx hb dX7_passes_23 rfl (lv_at hl 1 rfl) ?_
          refine lv_iload_n hx hb dX7_passes_24 rfl (lv_at hl 2 rfl) ?_
          obtain ⟨h13, hf⟩ := ck_use hf
          refine z_iald hx hb hK hP 14 rfl h13 dX7_passes_25 ?_
          obtain ⟨h15, hf⟩ := ck_use hf
          refine z_iast hx hb hK hP hD hS 20 rfl h15 dX7_passes_26 (fun (w9 : Mem) => (WMod z a1 w9)) (up2 y2 20 (y2 0 29).toNatClampNeg (y2 14 x1.toNatClampNeg)) rfl (fun y14 ey14 H locs hP hD hS => ?_)
          have hf := lt_use ey14 hf
          refine lv_goto (tgt := 42) hx hb dX7_passes_27 (by decide) ?_
          refine lv_aload_n hx hb dX7_passes_42 rfl (lv_at hl 0 rfl) ?_
          refine lv_dup hx hb dX7_passes_43 rfl ?_
          refine va_get (D := D) (ci := 7) (v := .int (y14 0 29)) (C := RX7) (T := TX7) (N := 33) hx hb hts iX7 hown hK hP 0 rfl rfl 29 (by decide) (hts _ aw765) (fun _ h9 => h9) rfl dX7_passes_44 ?_
          refine lv_iconst (v := 1) hx hb dX7_passes_47 (by decide) ?_
          refine lv_iadd hx hb dX7_passes_48 ?_
          refine z_put (ci := 7) (v := .int ((y14 0 29) + 1)) (ty := .int) (C := RX7) (T := TX7) (N := 33) hx hb hts iX7 tyX7 tyX7_ok nmX7 hown hK hP hD hS 0 rfl rfl 29 (by decide) (hts _ aw765) (fun _ h9 => h9) rfl (by decide +kernel) rfl rfl (Nat.le_of_ble_eq_true rfl) dX7_passes_49 (fun (w9 : Mem) => (WMod z a1 w9)) (up2 y14 0 29 ((y14 0 29) + 1)) rfl (fun y16 ey16 H locs hP hD hS => ?_)
          have hf := lt_use ey16 hf
          obtain ⟨x17, ex17⟩ : ∃ y : Int32, y = x1 + 1 := ⟨_, rfl⟩
          have hf := lt_use ex17 hf
          refine lv_iinc (v := x17) (lv' := [(2, .int x17), (0, .ref (a1 0)), (1, .ref (a1 14))]) hx hb dX7_passes_52 hl (k := 2) rfl (by rw [ex17]; rfl) (by decide) rfl (fun ls hl => ?_)
          refine lv_goto (tgt := 2) hx hb dX7_passes_55 (by decide) ?_
          exact ih5 _ _ _ _ hP hD hS _ (lv_sub hl [1, 2, 0] rfl) hf
  exact L2_F3 fu _ _ _ _ hP hD hS _ (lv_sub hl [1, 2, 0] rfl) hf
def pX7_passes_15 (fu : Nat) (m1 : Mem) : Option Mem :=
  zl2 (fun g4 (x1 : Int32) (y2 : Mem) =>
    if 2 ≤ x1 then
      some y2
    else
      if (y2 0 28) = 0 then
        ck (y2 0 29) 300 <|
        ck x1 2 <|
        lt' (up2 y2 15 x1.toNatClampNeg (y2 20 (y2 0 29).toNatClampNeg)) fun y9 =>
        lt' (up2 y9 0 29 ((y9 0 29) + 1)) fun y11 =>
        lt' (x1 + 1) fun x12 =>
        g4 x12 y11
      else
        ck x1 2 <|
        ck (y2 0 29) 300 <|
        lt' (up2 y2 20 (y2 0 29).toNatClampNeg (y2 15 x1.toNatClampNeg)) fun y14 =>
        lt' (up2 y14 0 29 ((y14 0 29) + 1)) fun y16 =>
        lt' (x1 + 1) fun x17 =>
        g4 x17 y16) fu 0 m1
set_option maxHeartbeats 4000000 in
set_option maxRecDepth 100000 in
theorem tX7_passes_15 (l : Launch) (D : va_G) (z tt : Nat → Nat) (a1 : Nat → Nat) (m1 : Mem)  (fu : Nat) (m1' : Mem) (hf : pX7_passes_15 fu m1 = some m1') : MetV l yX7_passes wsX7_passes ({ frames := 0, cells := 0, slots := 0, locals := 0 } : Room) D z tt ([.ref (a1 0), .ref (a1 15)] : List Value) (WMod z a1 m1) (WMod z a1 m1') := by
  intro sz
  refine Met.ofW (cc := cX7_passes) (maxL := 3) (ret := none) (by decide) rfl ?_
  intro p e s m args below meth c s₁ B hml hv
  obtain ⟨rfl, hsz, hP, hK, hD0, hT, hN⟩ := hv
  have hx := B.exec
  have hb := B.bytes
  have hr := B.returns
  have hts : ∀ w ∈ wsA, w.before ([.ref (a1 0), .ref (a1 15)] : List Value).toArray s = true := fun w h => atoms_spec (ws := wsX7_passes) B.pre w (List.mem_cons_of_mem _ h)
  have hown : s.vm.findClass RX7 = some m.cls := findClass_of_methodNamed B.named
  have hlocks := B.notSynchronized
  subst hsz
  have hD := hD0.self (sz := s.heap.size)
  generalize hAe : va_A (WMod z a1 m1) s.heap.size = A at hD hT ⊢
  have hA : ∀ q : Nat, s.heap.size ≤ q → A q := fun q h => by rw [← hAe]; exact Or.inr h
  have hS : va_S A s.heap s.heap [] := va_S.rf
  have hl := lv_entry ([.ref (a1 0), .ref (a1 15)] : List Value) (n := 3) (Nat.le_of_ble_eq_true rfl)
  rw [lg_entry_eq]
  generalize (lg_sl ([.ref (a1 0), .ref (a1 15)] : List Value) ++ List.replicate (3 - (lg_sl ([.ref (a1 0), .ref (a1 15)] : List Value)).length) Slot.unset).toArray = ls at hl ⊢
  have hl : lv_has ls 3 [(0, .ref (a1 0)), (1, .ref (a1 15))] := hl
  unfold pX7_passes_15 at hf
  refine lv_iconst (v := 0) hx hb dX7_passes_0 (by decide) ?_
  refine lv_istore_n (lv' := [(2, .int 0), (0, .ref (a1 0)), (1, .ref (a1 15))]) hx hb dX7_passes_1 rfl hl (by decide) rfl (fun ls hl => ?_)
  obtain ⟨F3, eF3, hf⟩ := zl2_use hf
  have L2_F3 : ∀ (n : Nat) (x1 : Int32) (y2 : Mem) (H : Heap) (locs : List Loc), va_P D vwCl (WMod z a1 y2) H → va_D A (WMod z a1 y2) → va_S A s.heap H locs → ∀ (ls : Array Slot), lv_has ls 3 [(0, .ref (a1 0)), (1, .ref (a1 15)), (2, .int x1)] → zl2 F3 n x1 y2 = some m1' → GV p l e (headSpec wsX7_passes ({ frames := 0, cells := 0, slots := 0, locals := 0 } : Room)).room s m ([.ref (a1 0), .ref (a1 15)] : List Value).toArray below meth c A D z (WMod z a1 m1') H locs (F0 m 2 ls []) := by
    intro n
    induction n with
    | zero =>
      intro x1 y2 H locs hP hD hS ls hl hf
      exact no_none hf
    | succ n ih5 =>
      intro x1 y2 H locs hP hD hS ls hl hf
      have hf := zl2_s eF3 hf
      refine lv_iload_n hx hb dX7_passes_2 rfl (lv_at hl 2 rfl) ?_
      refine lv_aload_n hx hb dX7_passes_3 rfl (lv_at hl 1 rfl) ?_
      refine z_alen hx hb hK hP 15 0 rfl rfl (v := 2) rfl dX7_passes_4 ?_
      refine lv_icmp_ge (tgt := 58) hx hb dX7_passes_5 (by decide) (fun c6 => ?_) (fun c6 => ?_)
      · have hf := if_t c6 hf
        obtain rfl := so1 hf
        exact ret_v hx hb hr hlocks hK hP hD hS dX7_passes_58
      · have hf := if_f c6 hf
        refine lv_aload_n hx hb dX7_passes_8 rfl (lv_at hl 0 rfl) ?_
        refine va_get (D := D) (ci := 7) (v := .int (y2 0 28)) (C := RX7) (T := TX7) (N := 33) hx hb hts iX7 hown hK hP 0 rfl rfl 28 (by decide) (hts _ aw764) (fun _ h9 => h9) rfl dX7_passes_9 ?_
        refine lv_if_eq (tgt := 30) hx hb dX7_passes_12 (by decide) (fun c7 => ?_) (fun c7 => ?_)
        · have hf := if_t c7 hf
          refine lv_aload_n hx hb dX7_passes_30 rfl (lv_at hl 1 rfl) ?_
          refine lv_iload_n hx hb dX7_passes_31 rfl (lv_at hl 2 rfl) ?_
          refine lv_aload_n hx hb dX7_passes_32 rfl (lv_at hl 0 rfl) ?_
          refine va_get (D := D) (ci := 7) (v := .ref (a1 20)) (C := RX7) (T := TX7) (N := 33) hx hb hts iX7 hown hK hP 0 rfl rfl 26 (by decide) (hts _ aw762) (fun _ h9 => h9) rfl dX7_passes_33 ?_
          refine lv_aload_n hx hb dX7_passes_36 rfl (lv_at hl 0 rfl) ?_
          refine va_get (D := D) (ci := 7) (v := .int (y2 0 29)) (C := RX7) (T := TX7) (N := 33) hx hb hts iX7 hown hK hP 0 rfl rfl 29 (by decide) (hts _ aw765) (fun _ h9 => h9) rfl dX7_passes_37 ?_
          obtain ⟨h8, hf⟩ := ck_use hf
          refine z_iald hx hb hK hP 20 rfl h8 dX7_passes_40 ?_
          obtain ⟨h10, hf⟩ := ck_use hf
          refine z_iast hx hb hK hP hD hS 15 rfl h10 dX7_passes_41 (fun (w9 : Mem) => (WMod z a1 w9)) (up2 y2 15 x1.toNatClampNeg (y2 20 (y2 0 29).toNatClampNeg)) rfl (fun y9 ey9 H locs hP hD hS => ?_)
          have hf := lt_use ey9 hf
          refine lv_aload_n hx hb dX7_passes_42 rfl (lv_at hl 0 rfl) ?_
          refine lv_dup hx hb dX7_passes_43 rfl ?_
          refine va_get (D := D) (ci := 7) (v := .int (y9 0 29)) (C := RX7) (T := TX7) (N := 33) hx hb hts iX7 hown hK hP 0 rfl rfl 29 (by decide) (hts _ aw765) (fun _ h9 => h9) rfl dX7_passes_44 ?_
          refine lv_iconst (v := 1) hx hb dX7_passes_47 (by decide) ?_
          refine lv_iadd hx hb dX7_passes_48 ?_
          refine z_put (ci := 7) (v := .int ((y9 0 29) + 1)) (ty := .int) (C := RX7) (T := TX7) (N := 33) hx hb hts iX7 tyX7 tyX7_ok nmX7 hown hK hP hD hS 0 rfl rfl 29 (by decide) (hts _ aw765) (fun _ h9 => h9) rfl (by decide +kernel) rfl rfl (Nat.le_of_ble_eq_true rfl) dX7_passes_49 (fun (w9 : Mem) => (WMod z a1 w9)) (up2 y9 0 29 ((y9 0 29) + 1)) rfl (fun y11 ey11 H locs hP hD hS => ?_)
          have hf := lt_use ey11 hf
          obtain ⟨x12, ex12⟩ : ∃ y : Int32, y = x1 + 1 := ⟨_, rfl⟩
          have hf := lt_use ex12 hf
          refine lv_iinc (v := x12) (lv' := [(2, .int x12), (0, .ref (a1 0)), (1, .ref (a1 15))]) hx hb dX7_passes_52 hl (k := 2) rfl (by rw [ex12]; rfl) (by decide) rfl (fun ls hl => ?_)
          refine lv_goto (tgt := 2) hx hb dX7_passes_55 (by decide) ?_
          exact ih5 _ _ _ _ hP hD hS _ (lv_sub hl [1, 2, 0] rfl) hf
        · have hf := if_f c7 hf
          refine lv_aload_n hx hb dX7_passes_15 rfl (lv_at hl 0 rfl) ?_
          refine va_get (D := D) (ci := 7) (v := .ref (a1 20)) (C := RX7) (T := TX7) (N := 33) hx hb hts iX7 hown hK hP 0 rfl rfl 26 (by decide) (hts _ aw762) (fun _ h9 => h9) rfl dX7_passes_16 ?_
          refine lv_aload_n hx hb dX7_passes_19 rfl (lv_at hl 0 rfl) ?_
          refine va_get (D := D) (ci := 7) (v := .int (y2 0 29)) (C := RX7) (T := TX7) (N := 33) hx hb hts iX7 hown hK hP 0 rfl rfl 29 (by decide) (hts _ aw765) (fun _ h9 => h9) rfl dX7_passes_20 ?_
          refine lv_aload_n hx hb dX7_passes_23 rfl (lv_at hl 1 rfl) ?_
          refine lv_iload_n hx hb dX7_passes_24 rfl (lv_at hl 2 rfl) ?_
          obtain ⟨h13, hf⟩ := ck_use hf
          refine z_iald hx hb hK hP 15 rfl h13 dX7_passes_25 ?_
          obtain ⟨h15, hf⟩ := ck_use hf
          refine z_iast hx hb hK hP hD hS 20 rfl h15 dX7_passes_26 (fun (w9 : Mem) => (WMod z a1 w9)) (up2 y2 20 (y2 0 29).toNatClampNeg (y2 15 x1.toNatClampNeg)) rfl (fun y14 ey14 H locs hP hD hS => ?_)
          have hf := lt_use ey14 hf
          refine lv_goto (tgt := 42) hx hb dX7_passes_27 (by decide) ?_
          refine lv_aload_n hx hb dX7_passes_42 rfl (lv_at hl 0 rfl) ?_
          refine lv_dup hx hb dX7_passes_43 rfl ?_
          refine va_get (D := D) (ci := 7) (v := .int (y14 0 29)) (C := RX7) (T := TX7) (N := 33) hx hb hts iX7 hown hK hP 0 rfl rfl 29 (by decide) (hts _ aw765) (fun _ h9 => h9) rfl dX7_passes_44 ?_
          refine lv_iconst (v := 1) hx hb dX7_passes_47 (by decide) ?_
          refine lv_iadd hx hb dX7_passes_48 ?_
          refine z_put (ci := 7) (v := .int ((y14 0 29) + 1)) (ty := .int) (C := RX7) (T := TX7) (N := 33) hx hb hts iX7 tyX7 tyX7_ok nmX7 hown hK hP hD hS 0 rfl rfl 29 (by decide) (hts _ aw765) (fun _ h9 => h9) rfl (by decide +kernel) rfl rfl (Nat.le_of_ble_eq_true rfl) dX7_passes_49 (fun (w9 : Mem) => (WMod z a1 w9)) (up2 y14 0 29 ((y14 0 29) + 1)) rfl (fun y16 ey16 H locs hP hD hS => ?_)
          have hf := lt_use ey16 hf
          obtain ⟨x17, ex17⟩ : ∃ y : Int32, y = x1 + 1 := ⟨_, rfl⟩
          have hf := lt_use ex17 hf
          refine lv_iinc (v := x17) (lv' := [(2, .int x17), (0, .ref (a1 0)), (1, .ref (a1 15))]) hx hb dX7_passes_52 hl (k := 2) rfl (by rw [ex17]; rfl) (by decide) rfl (fun ls hl => ?_)
          refine lv_goto (tgt := 2) hx hb dX7_passes_55 (by decide) ?_
          exact ih5 _ _ _ _ hP hD hS _ (lv_sub hl [1, 2, 0] rfl) hf
  exact L2_F3 fu _ _ _ _ hP hD hS _ (lv_sub hl [1, 2, 0] rfl) hf
def pX7_passOne (fu : Nat) (m1 : Mem) (p1 : Int32) : Option (Int32 × Mem) :=
  jn1 (fun (x1 : Int32) =>
    if (m1 0 28) = 0 then
      lt' (up2 m1 0 29 ((m1 0 29) + 1)) fun y4 =>
      some (x1, y4)
    else
      ck (m1 0 29) 300 <|
      lt' (up2 m1 20 (m1 0 29).toNatClampNeg p1) fun y5 =>
      lt' (up2 y5 0 29 ((y5 0 29) + 1)) fun y7 =>
      some (x1, y7)) fun k2 =>
  if (m1 0 28) = 0 then
    ck (m1 0 29) 300 <|
    k2 (m1 20 (m1 0 29).toNatClampNeg)
  else
    k2 p1
set_option maxHeartbeats 4000000 in
set_option maxRecDepth 100000 in
theorem tX7_passOne (l : Launch) (D : va_G) (z tt : Nat → Nat) (a1 : Nat → Nat) (m1 : Mem) (p1 : Int32) (fu : Nat) (rr : Int32) (m1' : Mem) (hf : pX7_passOne fu m1 p1 = some (rr, m1')) : MetI l yX7_passOne wsX7_passOne ({ frames := 0, cells := 0, slots := 0, locals := 0 } : Room) D z tt ([.ref (a1 0), .int p1] : List Value) (WMod z a1 m1) rr (WMod z a1 m1') := by
  intro sz
  refine Met.ofW (cc := cX7_passOne) (maxL := 3) (ret := (some .int)) (by decide) rfl ?_
  intro p e s m args below meth c s₁ B hml hv
  obtain ⟨rfl, hsz, hP, hK, hD0, hT, hN⟩ := hv
  have hx := B.exec
  have hb := B.bytes
  have hr := B.returns
  have hts : ∀ w ∈ wsA, w.before ([.ref (a1 0), .int p1] : List Value).toArray s = true := fun w h => atoms_spec (ws := wsX7_passOne) B.pre w (List.mem_cons_of_mem _ h)
  have hown : s.vm.findClass RX7 = some m.cls := findClass_of_methodNamed B.named
  have hlocks := B.notSynchronized
  subst hsz
  have hD := hD0.self (sz := s.heap.size)
  generalize hAe : va_A (WMod z a1 m1) s.heap.size = A at hD hT ⊢
  have hA : ∀ q : Nat, s.heap.size ≤ q → A q := fun q h => by rw [← hAe]; exact Or.inr h
  have hS : va_S A s.heap s.heap [] := va_S.rf
  have hl := lv_entry ([.ref (a1 0), .int p1] : List Value) (n := 3) (Nat.le_of_ble_eq_true rfl)
  rw [lg_entry_eq]
  generalize (lg_sl ([.ref (a1 0), .int p1] : List Value) ++ List.replicate (3 - (lg_sl ([.ref (a1 0), .int p1] : List Value)).length) Slot.unset).toArray = ls at hl ⊢
  have hl : lv_has ls 3 [(0, .ref (a1 0)), (1, .int p1)] := hl
  unfold pX7_passOne at hf
  refine lv_aload_n hx hb dX7_passOne_0 rfl (lv_at hl 0 rfl) ?_
  refine va_get (D := D) (ci := 7) (v := .int (m1 0 28)) (C := RX7) (T := TX7) (N := 33) hx hb hts iX7 hown hK hP 0 rfl rfl 28 (by decide) (hts _ aw764) (fun _ h9 => h9) rfl dX7_passOne_1 ?_
  obtain ⟨k2, ek2, hf⟩ := jn1_use hf
  have B20_k2 : ∀ (x1 : Int32) (H : Heap) (locs : List Loc), va_P D vwCl (WMod z a1 m1) H → va_D A (WMod z a1 m1) → va_S A s.heap H locs → ∀ (ls : Array Slot), lv_has ls 3 [(0, .ref (a1 0)), (1, .int p1)] → k2 x1 = some (rr, m1') → GI p l e (headSpec wsX7_passOne ({ frames := 0, cells := 0, slots := 0, locals := 0 } : Room)).room s m ([.ref (a1 0), .int p1] : List Value).toArray below meth c A D z rr (WMod z a1 m1') H locs (F0 m 20 ls [.int x1]) := by
    intro x1 H locs hP hD hS ls hl hf
    have hf := jn1_ap ek2 hf
    refine lv_istore_n (lv' := [(2, .int x1), (0, .ref (a1 0)), (1, .int p1)]) hx hb dX7_passOne_20 rfl hl (by decide) rfl (fun ls hl => ?_)
    refine lv_aload_n hx hb dX7_passOne_21 rfl (lv_at hl 1 rfl) ?_
    refine va_get (D := D) (ci := 7) (v := .int (m1 0 28)) (C := RX7) (T := TX7) (N := 33) hx hb hts iX7 hown hK hP 0 rfl rfl 28 (by decide) (hts _ aw764) (fun _ h9 => h9) rfl dX7_passOne_22 ?_
    refine lv_if_eq (tgt := 38) hx hb dX7_passOne_25 (by decide) (fun c3 => ?_) (fun c3 => ?_)
    · have hf := if_t c3 hf
      refine lv_aload_n hx hb dX7_passOne_38 rfl (lv_at hl 1 rfl) ?_
      refine lv_dup hx hb dX7_passOne_39 rfl ?_
      refine va_get (D := D) (ci := 7) (v := .int (m1 0 29)) (C := RX7) (T := TX7) (N := 33) hx hb hts iX7 hown hK hP 0 rfl rfl 29 (by decide) (hts _ aw765) (fun _ h9 => h9) rfl dX7_passOne_40 ?_
      refine lv_iconst (v := 1) hx hb dX7_passOne_43 (by decide) ?_
      refine lv_iadd hx hb dX7_passOne_44 ?_
      refine z_put (ci := 7) (v := .int ((m1 0 29) + 1)) (ty := .int) (C := RX7) (T := TX7) (N := 33) hx hb hts iX7 tyX7 tyX7_ok nmX7 hown hK hP hD hS 0 rfl rfl 29 (by decide) (hts _ aw765) (fun _ h9 => h9) rfl (by decide +kernel) rfl rfl (Nat.le_of_ble_eq_true rfl) dX7_passOne_45 (fun (w9 : Mem) => (WMod z a1 w9)) (up2 m1 0 29 ((m1 0 29) + 1)) rfl (fun y4 ey4 H locs hP hD hS => ?_)
      have hf := lt_use ey4 hf
      refine lv_iload_n hx hb dX7_passOne_48 rfl (lv_at hl 0 rfl) ?_
      obtain ⟨rfl, rfl⟩ := so2 hf
      exact ret_i hx hb hr hlocks hK hP hD hS dX7_passOne_49
    · have hf := if_f c3 hf
      refine lv_aload_n hx hb dX7_passOne_28 rfl (lv_at hl 1 rfl) ?_
      refine va_get (D := D) (ci := 7) (v := .ref (a1 20)) (C := RX7) (T := TX7) (N := 33) hx hb hts iX7 hown hK hP 0 rfl rfl 26 (by decide) (hts _ aw762) (fun _ h9 => h9) rfl dX7_passOne_29 ?_
      refine lv_aload_n hx hb dX7_passOne_32 rfl (lv_at hl 1 rfl) ?_
      refine va_get (D := D) (ci := 7) (v := .int (m1 0 29)) (C := RX7) (T := TX7) (N := 33) hx hb hts iX7 hown hK hP 0 rfl rfl 29 (by decide) (hts _ aw765) (fun _ h9 => h9) rfl dX7_passOne_33 ?_
      refine lv_iload_n hx hb dX7_passOne_36 rfl (lv_at hl 2 rfl) ?_
      obtain ⟨h6, hf⟩ := ck_use hf
      refine z_iast hx hb hK hP hD hS 20 rfl h6 dX7_passOne_37 (fun (w9 : Mem) => (WMod z a1 w9)) (up2 m1 20 (m1 0 29).toNatClampNeg p1) rfl (fun y5 ey5 H locs hP hD hS => ?_)
      have hf := lt_use ey5 hf
      refine lv_aload_n hx hb dX7_passOne_38 rfl (lv_at hl 1 rfl) ?_
      refine lv_dup hx hb dX7_passOne_39 rfl ?_
      refine va_get (D := D) (ci := 7) (v := .int (y5 0 29)) (C := RX7) (T := TX7) (N := 33) hx hb hts iX7 hown hK hP 0 rfl rfl 29 (by decide) (hts _ aw765) (fun _ h9 => h9) rfl dX7_passOne_40 ?_
      refine lv_iconst (v := 1) hx hb dX7_passOne_43 (by decide) ?_
      refine lv_iadd hx hb dX7_passOne_44 ?_
      refine z_put (ci := 7) (v := .int ((y5 0 29) + 1)) (ty := .int) (C := RX7) (T := TX7) (N := 33) hx hb hts iX7 tyX7 tyX7_ok nmX7 hown hK hP hD hS 0 rfl rfl 29 (by decide) (hts _ aw765) (fun _ h9 => h9) rfl (by decide +kernel) rfl rfl (Nat.le_of_ble_eq_true rfl) dX7_passOne_45 (fun (w9 : Mem) => (WMod z a1 w9)) (up2 y5 0 29 ((y5 0 29) + 1)) rfl (fun y7 ey7 H locs hP hD hS => ?_)
      have hf := lt_use ey7 hf
      refine lv_iload_n hx hb dX7_passOne_48 rfl (lv_at hl 0 rfl) ?_
      obtain ⟨rfl, rfl⟩ := so2 hf
      exact ret_i hx hb hr hlocks hK hP hD hS dX7_passOne_49
  refine lv_if_eq (tgt := 11) hx hb dX7_passOne_4 (by decide) (fun c8 => ?_) (fun c8 => ?_)
  · have hf := if_t c8 hf
    refine lv_aload_n hx hb dX7_passOne_11 rfl (lv_at hl 0 rfl) ?_
    refine va_get (D := D) (ci := 7) (v := .ref (a1 20)) (C := RX7) (T := TX7) (N := 33) hx hb hts iX7 hown hK hP 0 rfl rfl 26 (by decide) (hts _ aw762) (fun _ h9 => h9) rfl dX7_passOne_12 ?_
    refine lv_aload_n hx hb dX7_passOne_15 rfl (lv_at hl 0 rfl) ?_
    refine va_get (D := D) (ci := 7) (v := .int (m1 0 29)) (C := RX7) (T := TX7) (N := 33) hx hb hts iX7 hown hK hP 0 rfl rfl 29 (by decide) (hts _ aw765) (fun _ h9 => h9) rfl dX7_passOne_16 ?_
    obtain ⟨h9, hf⟩ := ck_use hf
    refine z_iald hx hb hK hP 20 rfl h9 dX7_passOne_19 ?_
    exact B20_k2 _ _ _ hP hD hS _ (lv_sub hl [0, 1] rfl) hf
  · have hf := if_f c8 hf
    refine lv_iload_n hx hb dX7_passOne_7 rfl (lv_at hl 1 rfl) ?_
    refine lv_goto (tgt := 20) hx hb dX7_passOne_8 (by decide) ?_
    exact B20_k2 _ _ _ hP hD hS _ (lv_sub hl [0, 1] rfl) hf
def pX7_passesAll (fu : Nat) (m1 : Mem) (p1 : Int32) (p2 : Int32) : Option Mem :=
  lt' (up2 m1 0 29 (100 * p1)) fun y1 =>
  ckz p2 <|
  lt' (up2 y1 0 28 p2) fun y3 =>
  bd (pX7_passes_2 fu y3) fun y4 =>
  bd (pX7_passes_3 fu y4) fun y6 =>
  bd (pX7_passes_4 fu y6) fun y8 =>
  bd (pX7_passes_5 fu y8) fun y10 =>
  bd (pX7_passes_6 fu y10) fun y12 =>
  bd (pX7_passes_7 fu y12) fun y14 =>
  bd (pX7_passes_8 fu y14) fun y16 =>
  bd (pX7_passes_9 fu y16) fun y18 =>
  bd (pX7_passes_10 fu y18) fun y20 =>
  bd (pX7_passes_11 fu y20) fun y22 =>
  bd (pX7_passes_12 fu y22) fun y24 =>
  bd (pX7_passes_13 fu y24) fun y26 =>
  bd (pX7_passes_14 fu y26) fun y28 =>
  bd (pX7_passes_15 fu y28) fun y30 =>
  bd2 (pX7_passOne fu y30 (y30 0 15)) fun r32 y33 =>
  lt' (up2 y33 0 15 r32) fun y35 =>
  bd2 (pX7_passOne fu y35 (y35 0 16)) fun r36 y37 =>
  lt' (up2 y37 0 16 r36) fun y39 =>
  bd2 (pX7_passOne fu y39 (y39 0 17)) fun r40 y41 =>
  lt' (up2 y41 0 17 r40) fun y43 =>
  some y43
set_option maxHeartbeats 4000000 in
set_option maxRecDepth 100000 in
theorem tX7_passesAll (l : Launch) (D : va_G) (z tt : Nat → Nat) (a1 : Nat → Nat) (m1 : Mem) (p1 : Int32) (p2 : Int32) (fu : Nat) (m1' : Mem) (hf : pX7_passesAll fu m1 p1 p2 = some m1') : MetV l yX7_passesAll wsX7_passesAll ({ frames := 1, cells := 0, slots := 0, locals := 22 } : Room) D z tt ([.ref (a1 0), .int p1, .int p2] : List Value) (WMod z a1 m1) (WMod z a1 m1') := by
  intro sz
  refine Met.ofW (cc := cX7_passesAll) (maxL := 3) (ret := none) (by decide) rfl ?_
  intro p e s m args below meth c s₁ B hml hv
  obtain ⟨rfl, hsz, hP, hK, hD0, hT, hN⟩ := hv
  have hx := B.exec
  have hb := B.bytes
  have hr := B.returns
  have hts : ∀ w ∈ wsA, w.before ([.ref (a1 0), .int p1, .int p2] : List Value).toArray s = true := fun w h => atoms_spec (ws := wsX7_passesAll) B.pre w (List.mem_cons_of_mem _ h)
  have hown : s.vm.findClass RX7 = some m.cls := findClass_of_methodNamed B.named
  have hlocks := B.notSynchronized
  subst hsz
  have hD := hD0.self (sz := s.heap.size)
  generalize hAe : va_A (WMod z a1 m1) s.heap.size = A at hD hT ⊢
  have hA : ∀ q : Nat, s.heap.size ≤ q → A q := fun q h => by rw [← hAe]; exact Or.inr h
  have hS : va_S A s.heap s.heap [] := va_S.rf
  have hl := lv_entry ([.ref (a1 0), .int p1, .int p2] : List Value) (n := 3) (Nat.le_of_ble_eq_true rfl)
  rw [lg_entry_eq]
  generalize (lg_sl ([.ref (a1 0), .int p1, .int p2] : List Value) ++ List.replicate (3 - (lg_sl ([.ref (a1 0), .int p1, .int p2] : List Value)).length) Slot.unset).toArray = ls at hl ⊢
  have hl : lv_has ls 3 [(0, .ref (a1 0)), (1, .int p1), (2, .int p2)] := hl
  unfold pX7_passesAll at hf
  refine lv_aload_n hx hb dX7_passesAll_0 rfl (lv_at hl 0 rfl) ?_
  refine lv_bipush (v := 100) hx hb dX7_passesAll_1 (by decide) ?_
  refine lv_iload_n hx hb dX7_passesAll_3 rfl (lv_at hl 1 rfl) ?_
  refine lv_imul hx hb dX7_passesAll_4 ?_
  refine z_put (ci := 7) (v := .int (100 * p1)) (ty := .int) (C := RX7) (T := TX7) (N := 33) hx hb hts iX7 tyX7 tyX7_ok nmX7 hown hK hP hD hS 0 rfl rfl 29 (by decide) (hts _ aw765) (fun _ h9 => h9) rfl (by decide +kernel) rfl rfl (Nat.le_of_ble_eq_true rfl) dX7_passesAll_5 (fun (w9 : Mem) => (WMod z a1 w9)) (up2 m1 0 29 (100 * p1)) rfl (fun y1 ey1 H locs hP hD hS => ?_)
  have hf := lt_use ey1 hf
  refine lv_aload_n hx hb dX7_passesAll_8 rfl (lv_at hl 0 rfl) ?_
  refine lv_iload_n hx hb dX7_passesAll_9 rfl (lv_at hl 2 rfl) ?_
  obtain ⟨h2, hf⟩ := ckz_use hf
  refine z_put (ci := 7) (v := .int p2) (ty := .boolean) (C := RX7) (T := TX7) (N := 33) hx hb hts iX7 tyX7 tyX7_ok nmX7 hown hK hP hD hS 0 rfl rfl 28 (by decide) (hts _ aw764) (fun _ h9 => h9) rfl (by decide +kernel) (nar_z h2) (fit_z h2) (Nat.le_of_ble_eq_true rfl) dX7_passesAll_10 (fun (w9 : Mem) => (WMod z a1 w9)) (up2 y1 0 28 p2) rfl (fun y3 ey3 H locs hP hD hS => ?_)
  have hf := lt_use ey3 hf
  refine lv_aload_n hx hb dX7_passesAll_13 rfl (lv_at hl 0 rfl) ?_
  refine lv_aload_n hx hb dX7_passesAll_14 rfl (lv_at hl 0 rfl) ?_
  refine va_get (D := D) (ci := 7) (v := .ref (a1 2)) (C := RX7) (T := TX7) (N := 33) hx hb hts iX7 hown hK hP 0 rfl rfl 1 (by decide) (hts _ aw737) (fun _ h9 => h9) rfl dX7_passesAll_15 ?_
  obtain ⟨y4, q5, hf⟩ := bd_use hf
  have hfo : Foc (WMod z a1 y3) (WMod z a1 y3) (WMod z a1 y4) (WMod z a1 y4) := foc_all
  refine z_goV (ws1 := (WMod z a1 y4)) (va_runV (As := [.ref (a1 2)]) (rest := []) ⟨hx, hb, hml, hown, hts⟩ (tX7_passes_2 l D z tt a1 y3  fu y4 q5 _) (cwV 1 hts (gV4 aw878 aw880 aw8 aw52 aw881) rfl rfl rfl (by decide +kernel) ⟨Nat.le_of_ble_eq_true rfl, Nat.le_of_ble_eq_true rfl⟩) (z_preV hK hP hD hS hA hT hN hfo (va_recv hK hP (ci := 7) (q0 := 0) rfl rfl)) rfl rfl hl.1 rfl (lv_room (Nat.le_of_ble_eq_true rfl)) dX7_passesAll_18 ⟨Nat.zero_le _, Nat.zero_le _⟩) hP hD hS hA hfo (fun H locs hP hD hS => ?_)
  refine lv_aload_n hx hb dX7_passesAll_21 rfl (lv_at hl 0 rfl) ?_
  refine lv_aload_n hx hb dX7_passesAll_22 rfl (lv_at hl 0 rfl) ?_
  refine va_get (D := D) (ci := 7) (v := .ref (a1 3)) (C := RX7) (T := TX7) (N := 33) hx hb hts iX7 hown hK hP 0 rfl rfl 2 (by decide) (hts _ aw738) (fun _ h9 => h9) rfl dX7_passesAll_23 ?_
  obtain ⟨y6, q7, hf⟩ := bd_use hf
  have hfo : Foc (WMod z a1 y4) (WMod z a1 y4) (WMod z a1 y6) (WMod z a1 y6) := foc_all
  refine z_goV (ws1 := (WMod z a1 y6)) (va_runV (As := [.ref (a1 3)]) (rest := []) ⟨hx, hb, hml, hown, hts⟩ (tX7_passes_3 l D z tt a1 y4  fu y6 q7 _) (cwV 1 hts (gV4 aw878 aw880 aw8 aw52 aw881) rfl rfl rfl (by decide +kernel) ⟨Nat.le_of_ble_eq_true rfl, Nat.le_of_ble_eq_true rfl⟩) (z_preV hK hP hD hS hA hT hN hfo (va_recv hK hP (ci := 7) (q0 := 0) rfl rfl)) rfl rfl hl.1 rfl (lv_room (Nat.le_of_ble_eq_true rfl)) dX7_passesAll_26 ⟨Nat.zero_le _, Nat.zero_le _⟩) hP hD hS hA hfo (fun H locs hP hD hS => ?_)
  refine lv_aload_n hx hb dX7_passesAll_29 rfl (lv_at hl 0 rfl) ?_
  refine lv_aload_n hx hb dX7_passesAll_30 rfl (lv_at hl 0 rfl) ?_
  refine va_get (D := D) (ci := 7) (v := .ref (a1 4)) (C := RX7) (T := TX7) (N := 33) hx hb hts iX7 hown hK hP 0 rfl rfl 3 (by decide) (hts _ aw739) (fun _ h9 => h9) rfl dX7_passesAll_31 ?_
  obtain ⟨y8, q9, hf⟩ := bd_use hf
  have hfo : Foc (WMod z a1 y6) (WMod z a1 y6) (WMod z a1 y8) (WMod z a1 y8) := foc_all
  refine z_goV (ws1 := (WMod z a1 y8)) (va_runV (As := [.ref (a1 4)]) (rest := []) ⟨hx, hb, hml, hown, hts⟩ (tX7_passes_4 l D z tt a1 y6  fu y8 q9 _) (cwV 1 hts (gV4 aw878 aw880 aw8 aw52 aw881) rfl rfl rfl (by decide +kernel) ⟨Nat.le_of_ble_eq_true rfl, Nat.le_of_ble_eq_true rfl⟩) (z_preV hK hP hD hS hA hT hN hfo (va_recv hK hP (ci := 7) (q0 := 0) rfl rfl)) rfl rfl hl.1 rfl (lv_room (Nat.le_of_ble_eq_true rfl)) dX7_passesAll_34 ⟨Nat.zero_le _, Nat.zero_le _⟩) hP hD hS hA hfo (fun H locs hP hD hS => ?_)
  refine lv_aload_n hx hb dX7_passesAll_37 rfl (lv_at hl 0 rfl) ?_
  refine lv_aload_n hx hb dX7_passesAll_38 rfl (lv_at hl 0 rfl) ?_
  refine va_get (D := D) (ci := 7) (v := .ref (a1 5)) (C := RX7) (T := TX7) (N := 33) hx hb hts iX7 hown hK hP 0 rfl rfl 4 (by decide) (hts _ aw740) (fun _ h9 => h9) rfl dX7_passesAll_39 ?_
  obtain ⟨y10, q11, hf⟩ := bd_use hf
  have hfo : Foc (WMod z a1 y8) (WMod z a1 y8) (WMod z a1 y10) (WMod z a1 y10) := foc_all
  refine z_goV (ws1 := (WMod z a1 y10)) (va_runV (As := [.ref (a1 5)]) (rest := []) ⟨hx, hb, hml, hown, hts⟩ (tX7_passes_5 l D z tt a1 y8  fu y10 q11 _) (cwV 1 hts (gV4 aw878 aw880 aw8 aw52 aw881) rfl rfl rfl (by decide +kernel) ⟨Nat.le_of_ble_eq_true rfl, Nat.le_of_ble_eq_true rfl⟩) (z_preV hK hP hD hS hA hT hN hfo (va_recv hK hP (ci := 7) (q0 := 0) rfl rfl)) rfl rfl hl.1 rfl (lv_room (Nat.le_of_ble_eq_true rfl)) dX7_passesAll_42 ⟨Nat.zero_le _, Nat.zero_le _⟩) hP hD hS hA hfo (fun H locs hP hD hS => ?_)
  refine lv_aload_n hx hb dX7_passesAll_45 rfl (lv_at hl 0 rfl) ?_
  refine lv_aload_n hx hb dX7_passesAll_46 rfl (lv_at hl 0 rfl) ?_
  refine va_get (D := D) (ci := 7) (v := .ref (a1 6)) (C := RX7) (T := TX7) (N := 33) hx hb hts iX7 hown hK hP 0 rfl rfl 5 (by decide) (hts _ aw741) (fun _ h9 => h9) rfl dX7_passesAll_47 ?_
  obtain ⟨y12, q13, hf⟩ := bd_use hf
  have hfo : Foc (WMod z a1 y10) (WMod z a1 y10) (WMod z a1 y12) (WMod z a1 y12) := foc_all
  refine z_goV (ws1 := (WMod z a1 y12)) (va_runV (As := [.ref (a1 6)]) (rest := []) ⟨hx, hb, hml, hown, hts⟩ (tX7_passes_6 l D z tt a1 y10  fu y12 q13 _) (cwV 1 hts (gV4 aw878 aw880 aw8 aw52 aw881) rfl rfl rfl (by decide +kernel) ⟨Nat.le_of_ble_eq_true rfl, Nat.le_of_ble_eq_true rfl⟩) (z_preV hK hP hD hS hA hT hN hfo (va_recv hK hP (ci := 7) (q0 := 0) rfl rfl)) rfl rfl hl.1 rfl (lv_room (Nat.le_of_ble_eq_true rfl)) dX7_passesAll_50 ⟨Nat.zero_le _, Nat.zero_le _⟩) hP hD hS hA hfo (fun H locs hP hD hS => ?_)
  refine lv_aload_n hx hb dX7_passesAll_53 rfl (lv_at hl 0 rfl) ?_
  refine lv_aload_n hx hb dX7_passesAll_54 rfl (lv_at hl 0 rfl) ?_
  refine va_get (D := D) (ci := 7) (v := .ref (a1 7)) (C := RX7) (T := TX7) (N := 33) hx hb hts iX7 hown hK hP 0 rfl rfl 6 (by decide) (hts _ aw742) (fun _ h9 => h9) rfl dX7_passesAll_55 ?_
  obtain ⟨y14, q15, hf⟩ := bd_use hf
  have hfo : Foc (WMod z a1 y12) (WMod z a1 y12) (WMod z a1 y14) (WMod z a1 y14) := foc_all
  refine z_goV (ws1 := (WMod z a1 y14)) (va_runV (As := [.ref (a1 7)]) (rest := []) ⟨hx, hb, hml, hown, hts⟩ (tX7_passes_7 l D z tt a1 y12  fu y14 q15 _) (cwV 1 hts (gV4 aw878 aw880 aw8 aw52 aw881) rfl rfl rfl (by decide +kernel) ⟨Nat.le_of_ble_eq_true rfl, Nat.le_of_ble_eq_true rfl⟩) (z_preV hK hP hD hS hA hT hN hfo (va_recv hK hP (ci := 7) (q0 := 0) rfl rfl)) rfl rfl hl.1 rfl (lv_room (Nat.le_of_ble_eq_true rfl)) dX7_passesAll_58 ⟨Nat.zero_le _, Nat.zero_le _⟩) hP hD hS hA hfo (fun H locs hP hD hS => ?_)
  refine lv_aload_n hx hb dX7_passesAll_61 rfl (lv_at hl 0 rfl) ?_
  refine lv_aload_n hx hb dX7_passesAll_62 rfl (lv_at hl 0 rfl) ?_
  refine va_get (D := D) (ci := 7) (v := .ref (a1 8)) (C := RX7) (T := TX7) (N := 33) hx hb hts iX7 hown hK hP 0 rfl rfl 7 (by decide) (hts _ aw743) (fun _ h9 => h9) rfl dX7_passesAll_63 ?_
  obtain ⟨y16, q17, hf⟩ := bd_use hf
  have hfo : Foc (WMod z a1 y14) (WMod z a1 y14) (WMod z a1 y16) (WMod z a1 y16) := foc_all
  refine z_goV (ws1 := (WMod z a1 y16)) (va_runV (As := [.ref (a1 8)]) (rest := []) ⟨hx, hb, hml, hown, hts⟩ (tX7_passes_8 l D z tt a1 y14  fu y16 q17 _) (cwV 1 hts (gV4 aw878 aw880 aw8 aw52 aw881) rfl rfl rfl (by decide +kernel) ⟨Nat.le_of_ble_eq_true rfl, Nat.le_of_ble_eq_true rfl⟩) (z_preV hK hP hD hS hA hT hN hfo (va_recv hK hP (ci := 7) (q0 := 0) rfl rfl)) rfl rfl hl.1 rfl (lv_room (Nat.le_of_ble_eq_true rfl)) dX7_passesAll_66 ⟨Nat.zero_le _, Nat.zero_le _⟩) hP hD hS hA hfo (fun H locs hP hD hS => ?_)
  refine lv_aload_n hx hb dX7_passesAll_69 rfl (lv_at hl 0 rfl) ?_
  refine lv_aload_n hx hb dX7_passesAll_70 rfl (lv_at hl 0 rfl) ?_
  refine va_get (D := D) (ci := 7) (v := .ref (a1 9)) (C := RX7) (T := TX7) (N := 33) hx hb hts iX7 hown hK hP 0 rfl rfl 8 (by decide) (hts _ aw744) (fun _ h9 => h9) rfl dX7_passesAll_71 ?_
  obtain ⟨y18, q19, hf⟩ := bd_use hf
  have hfo : Foc (WMod z a1 y16) (WMod z a1 y16) (WMod z a1 y18) (WMod z a1 y18) := foc_all
  refine z_goV (ws1 := (WMod z a1 y18)) (va_runV (As := [.ref (a1 9)]) (rest := []) ⟨hx, hb, hml, hown, hts⟩ (tX7_passes_9 l D z tt a1 y16  fu y18 q19 _) (cwV 1 hts (gV4 aw878 aw880 aw8 aw52 aw881) rfl rfl rfl (by decide +kernel) ⟨Nat.le_of_ble_eq_true rfl, Nat.le_of_ble_eq_true rfl⟩) (z_preV hK hP hD hS hA hT hN hfo (va_recv hK hP (ci := 7) (q0 := 0) rfl rfl)) rfl rfl hl.1 rfl (lv_room (Nat.le_of_ble_eq_true rfl)) dX7_passesAll_74 ⟨Nat.zero_le _, Nat.zero_le _⟩) hP hD hS hA hfo (fun H locs hP hD hS => ?_)
  refine lv_aload_n hx hb dX7_passesAll_77 rfl (lv_at hl 0 rfl) ?_
  refine lv_aload_n hx hb dX7_passesAll_78 rfl (lv_at hl 0 rfl) ?_
  refine va_get (D := D) (ci := 7) (v := .ref (a1 10)) (C := RX7) (T := TX7) (N := 33) hx hb hts iX7 hown hK hP 0 rfl rfl 9 (by decide) (hts _ aw745) (fun _ h9 => h9) rfl dX7_passesAll_79 ?_
  obtain ⟨y20, q21, hf⟩ := bd_use hf
  have hfo : Foc (WMod z a1 y18) (WMod z a1 y18) (WMod z a1 y20) (WMod z a1 y20) := foc_all
  refine z_goV (ws1 := (WMod z a1 y20)) (va_runV (As := [.ref (a1 10)]) (rest := []) ⟨hx, hb, hml, hown, hts⟩ (tX7_passes_10 l D z tt a1 y18  fu y20 q21 _) (cwV 1 hts (gV4 aw878 aw880 aw8 aw52 aw881) rfl rfl rfl (by decide +kernel) ⟨Nat.le_of_ble_eq_true rfl, Nat.le_of_ble_eq_true rfl⟩) (z_preV hK hP hD hS hA hT hN hfo (va_recv hK hP (ci := 7) (q0 := 0) rfl rfl)) rfl rfl hl.1 rfl (lv_room (Nat.le_of_ble_eq_true rfl)) dX7_passesAll_82 ⟨Nat.zero_le _, Nat.zero_le _⟩) hP hD hS hA hfo (fun H locs hP hD hS => ?_)
  refine lv_aload_n hx hb dX7_passesAll_85 rfl (lv_at hl 0 rfl) ?_
  refine lv_aload_n hx hb dX7_passesAll_86 rfl (lv_at hl 0 rfl) ?_
  refine va_get (D := D) (ci := 7) (v := .ref (a1 11)) (C := RX7) (T := TX7) (N := 33) hx hb hts iX7 hown hK hP 0 rfl rfl 10 (by decide) (hts _ aw746) (fun _ h9 => h9) rfl dX7_passesAll_87 ?_
  obtain ⟨y22, q23, hf⟩ := bd_use hf
  have hfo : Foc (WMod z a1 y20) (WMod z a1 y20) (WMod z a1 y22) (WMod z a1 y22) := foc_all
  refine z_goV (ws1 := (WMod z a1 y22)) (va_runV (As := [.ref (a1 11)]) (rest := []) ⟨hx, hb, hml, hown, hts⟩ (tX7_passes_11 l D z tt a1 y20  fu y22 q23 _) (cwV 1 hts (gV4 aw878 aw880 aw8 aw52 aw881) rfl rfl rfl (by decide +kernel) ⟨Nat.le_of_ble_eq_true rfl, Nat.le_of_ble_eq_true rfl⟩) (z_preV hK hP hD hS hA hT hN hfo (va_recv hK hP (ci := 7) (q0 := 0) rfl rfl)) rfl rfl hl.1 rfl (lv_room (Nat.le_of_ble_eq_true rfl)) dX7_passesAll_90 ⟨Nat.zero_le _, Nat.zero_le _⟩) hP hD hS hA hfo (fun H locs hP hD hS => ?_)
  refine lv_aload_n hx hb dX7_passesAll_93 rfl (lv_at hl 0 rfl) ?_
  refine lv_aload_n hx hb dX7_passesAll_94 rfl (lv_at hl 0 rfl) ?_
  refine va_get (D := D) (ci := 7) (v := .ref (a1 12)) (C := RX7) (T := TX7) (N := 33) hx hb hts iX7 hown hK hP 0 rfl rfl 11 (by decide) (hts _ aw747) (fun _ h9 => h9) rfl dX7_passesAll_95 ?_
  obtain ⟨y24, q25, hf⟩ := bd_use hf
  have hfo : Foc (WMod z a1 y22) (WMod z a1 y22) (WMod z a1 y24) (WMod z a1 y24) := foc_all
  refine z_goV (ws1 := (WMod z a1 y24)) (va_runV (As := [.ref (a1 12)]) (rest := []) ⟨hx, hb, hml, hown, hts⟩ (tX7_passes_12 l D z tt a1 y22  fu y24 q25 _) (cwV 1 hts (gV4 aw878 aw880 aw8 aw52 aw881) rfl rfl rfl (by decide +kernel) ⟨Nat.le_of_ble_eq_true rfl, Nat.le_of_ble_eq_true rfl⟩) (z_preV hK hP hD hS hA hT hN hfo (va_recv hK hP (ci := 7) (q0 := 0) rfl rfl)) rfl rfl hl.1 rfl (lv_room (Nat.le_of_ble_eq_true rfl)) dX7_passesAll_98 ⟨Nat.zero_le _, Nat.zero_le _⟩) hP hD hS hA hfo (fun H locs hP hD hS => ?_)
  refine lv_aload_n hx hb dX7_passesAll_101 rfl (lv_at hl 0 rfl) ?_
  refine lv_aload_n hx hb dX7_passesAll_102 rfl (lv_at hl 0 rfl) ?_
  refine va_get (D := D) (ci := 7) (v := .ref (a1 13)) (C := RX7) (T := TX7) (N := 33) hx hb hts iX7 hown hK hP 0 rfl rfl 12 (by decide) (hts _ aw748) (fun _ h9 => h9) rfl dX7_passesAll_103 ?_
  obtain ⟨y26, q27, hf⟩ := bd_use hf
  have hfo : Foc (WMod z a1 y24) (WMod z a1 y24) (WMod z a1 y26) (WMod z a1 y26) := foc_all
  refine z_goV (ws1 := (WMod z a1 y26)) (va_runV (As := [.ref (a1 13)]) (rest := []) ⟨hx, hb, hml, hown, hts⟩ (tX7_passes_13 l D z tt a1 y24  fu y26 q27 _) (cwV 1 hts (gV4 aw878 aw880 aw8 aw52 aw881) rfl rfl rfl (by decide +kernel) ⟨Nat.le_of_ble_eq_true rfl, Nat.le_of_ble_eq_true rfl⟩) (z_preV hK hP hD hS hA hT hN hfo (va_recv hK hP (ci := 7) (q0 := 0) rfl rfl)) rfl rfl hl.1 rfl (lv_room (Nat.le_of_ble_eq_true rfl)) dX7_passesAll_106 ⟨Nat.zero_le _, Nat.zero_le _⟩) hP hD hS hA hfo (fun H locs hP hD hS => ?_)
  refine lv_aload_n hx hb dX7_passesAll_109 rfl (lv_at hl 0 rfl) ?_
  refine lv_aload_n hx hb dX7_passesAll_110 rfl (lv_at hl 0 rfl) ?_
  refine va_get (D := D) (ci := 7) (v := .ref (a1 14)) (C := RX7) (T := TX7) (N := 33) hx hb hts iX7 hown hK hP 0 rfl rfl 13 (by decide) (hts _ aw749) (fun _ h9 => h9) rfl dX7_passesAll_111 ?_
  obtain ⟨y28, q29, hf⟩ := bd_use hf
  have hfo : Foc (WMod z a1 y26) (WMod z a1 y26) (WMod z a1 y28) (WMod z a1 y28) := foc_all
  refine z_goV (ws1 := (WMod z a1 y28)) (va_runV (As := [.ref (a1 14)]) (rest := []) ⟨hx, hb, hml, hown, hts⟩ (tX7_passes_14 l D z tt a1 y26  fu y28 q29 _) (cwV 1 hts (gV4 aw878 aw880 aw8 aw52 aw881) rfl rfl rfl (by decide +kernel) ⟨Nat.le_of_ble_eq_true rfl, Nat.le_of_ble_eq_true rfl⟩) (z_preV hK hP hD hS hA hT hN hfo (va_recv hK hP (ci := 7) (q0 := 0) rfl rfl)) rfl rfl hl.1 rfl (lv_room (Nat.le_of_ble_eq_true rfl)) dX7_passesAll_114 ⟨Nat.zero_le _, Nat.zero_le _⟩) hP hD hS hA hfo (fun H locs hP hD hS => ?_)
  refine lv_aload_n hx hb dX7_passesAll_117 rfl (lv_at hl 0 rfl) ?_
  refine lv_aload_n hx hb dX7_passesAll_118 rfl (lv_at hl 0 rfl) ?_
  refine va_get (D := D) (ci := 7) (v := .ref (a1 15)) (C := RX7) (T := TX7) (N := 33) hx hb hts iX7 hown hK hP 0 rfl rfl 14 (by decide) (hts _ aw750) (fun _ h9 => h9) rfl dX7_passesAll_119 ?_
  obtain ⟨y30, q31, hf⟩ := bd_use hf
  have hfo : Foc (WMod z a1 y28) (WMod z a1 y28) (WMod z a1 y30) (WMod z a1 y30) := foc_all
  refine z_goV (ws1 := (WMod z a1 y30)) (va_runV (As := [.ref (a1 15)]) (rest := []) ⟨hx, hb, hml, hown, hts⟩ (tX7_passes_15 l D z tt a1 y28  fu y30 q31 _) (cwV 1 hts (gV4 aw878 aw880 aw8 aw52 aw881) rfl rfl rfl (by decide +kernel) ⟨Nat.le_of_ble_eq_true rfl, Nat.le_of_ble_eq_true rfl⟩) (z_preV hK hP hD hS hA hT hN hfo (va_recv hK hP (ci := 7) (q0 := 0) rfl rfl)) rfl rfl hl.1 rfl (lv_room (Nat.le_of_ble_eq_true rfl)) dX7_passesAll_122 ⟨Nat.zero_le _, Nat.zero_le _⟩) hP hD hS hA hfo (fun H locs hP hD hS => ?_)
  refine lv_aload_n hx hb dX7_passesAll_125 rfl (lv_at hl 0 rfl) ?_
  refine lv_aload_n hx hb dX7_passesAll_126 rfl (lv_at hl 0 rfl) ?_
  refine lv_aload_n hx hb dX7_passesAll_127 rfl (lv_at hl 0 rfl) ?_
  refine va_get (D := D) (ci := 7) (v := .int (y30 0 15)) (C := RX7) (T := TX7) (N := 33) hx hb hts iX7 hown hK hP 0 rfl rfl 15 (by decide) (hts _ aw751) (fun _ h9 => h9) rfl dX7_passesAll_128 ?_
  obtain ⟨r32, y33, q34, hf⟩ := bd2_use hf
  have hfo : Foc (WMod z a1 y30) (WMod z a1 y30) (WMod z a1 y33) (WMod z a1 y33) := foc_all
  refine z_goI (ws1 := (WMod z a1 y33)) (va_runV (As := [.int (y30 0 15)]) (rest := [.ref (a1 0)]) ⟨hx, hb, hml, hown, hts⟩ (tX7_passOne l D z tt a1 y30 (y30 0 15) fu r32 y33 q34 _) (cwV 1 hts (gV4 aw882 aw884 aw9 aw52 aw885) rfl rfl rfl (by decide +kernel) ⟨Nat.le_of_ble_eq_true rfl, Nat.le_of_ble_eq_true rfl⟩) (z_preV hK hP hD hS hA hT hN hfo (va_recv hK hP (ci := 7) (q0 := 0) rfl rfl)) rfl rfl hl.1 rfl (lv_room (Nat.le_of_ble_eq_true rfl)) dX7_passesAll_131 ⟨Nat.zero_le _, Nat.zero_le _⟩) hP hD hS hA hfo (fun H locs hP hD hS => ?_)
  refine z_put (ci := 7) (v := .int r32) (ty := .int) (C := RX7) (T := TX7) (N := 33) hx hb hts iX7 tyX7 tyX7_ok nmX7 hown hK hP hD hS 0 rfl rfl 15 (by decide) (hts _ aw751) (fun _ h9 => h9) rfl (by decide +kernel) rfl rfl (Nat.le_of_ble_eq_true rfl) dX7_passesAll_134 (fun (w9 : Mem) => (WMod z a1 w9)) (up2 y33 0 15 r32) rfl (fun y35 ey35 H locs hP hD hS => ?_)
  have hf := lt_use ey35 hf
  refine lv_aload_n hx hb dX7_passesAll_137 rfl (lv_at hl 0 rfl) ?_
  refine lv_aload_n hx hb dX7_passesAll_138 rfl (lv_at hl 0 rfl) ?_
  refine lv_aload_n hx hb dX7_passesAll_139 rfl (lv_at hl 0 rfl) ?_
  refine va_get (D := D) (ci := 7) (v := .int (y35 0 16)) (C := RX7) (T := TX7) (N := 33) hx hb hts iX7 hown hK hP 0 rfl rfl 16 (by decide) (hts _ aw752) (fun _ h9 => h9) rfl dX7_passesAll_140 ?_
  obtain ⟨r36, y37, q38, hf⟩ := bd2_use hf
  have hfo : Foc (WMod z a1 y35) (WMod z a1 y35) (WMod z a1 y37) (WMod z a1 y37) := foc_all
  refine z_goI (ws1 := (WMod z a1 y37)) (va_runV (As := [.int (y35 0 16)]) (rest := [.ref (a1 0)]) ⟨hx, hb, hml, hown, hts⟩ (tX7_passOne l D z tt a1 y35 (y35 0 16) fu r36 y37 q38 _) (cwV 1 hts (gV4 aw882 aw884 aw9 aw52 aw885) rfl rfl rfl (by decide +kernel) ⟨Nat.le_of_ble_eq_true rfl, Nat.le_of_ble_eq_true rfl⟩) (z_preV hK hP hD hS hA hT hN hfo (va_recv hK hP (ci := 7) (q0 := 0) rfl rfl)) rfl rfl hl.1 rfl (lv_room (Nat.le_of_ble_eq_true rfl)) dX7_passesAll_143 ⟨Nat.zero_le _, Nat.zero_le _⟩) hP hD hS hA hfo (fun H locs hP hD hS => ?_)
  refine z_put (ci := 7) (v := .int r36) (ty := .int) (C := RX7) (T := TX7) (N := 33) hx hb hts iX7 tyX7 tyX7_ok nmX7 hown hK hP hD hS 0 rfl rfl 16 (by decide) (hts _ aw752) (fun _ h9 => h9) rfl (by decide +kernel) rfl rfl (Nat.le_of_ble_eq_true rfl) dX7_passesAll_146 (fun (w9 : Mem) => (WMod z a1 w9)) (up2 y37 0 16 r36) rfl (fun y39 ey39 H locs hP hD hS => ?_)
  have hf := lt_use ey39 hf
  refine lv_aload_n hx hb dX7_passesAll_149 rfl (lv_at hl 0 rfl) ?_
  refine lv_aload_n hx hb dX7_passesAll_150 rfl (lv_at hl 0 rfl) ?_
  refine lv_aload_n hx hb dX7_passesAll_151 rfl (lv_at hl 0 rfl) ?_
  refine va_get (D := D) (ci := 7) (v := .int (y39 0 17)) (C := RX7) (T := TX7) (N := 33) hx hb hts iX7 hown hK hP 0 rfl rfl 17 (by decide) (hts _ aw753) (fun _ h9 => h9) rfl dX7_passesAll_152 ?_
  obtain ⟨r40, y41, q42, hf⟩ := bd2_use hf
  have hfo : Foc (WMod z a1 y39) (WMod z a1 y39) (WMod z a1 y41) (WMod z a1 y41) := foc_all
  refine z_goI (ws1 := (WMod z a1 y41)) (va_runV (As := [.int (y39 0 17)]) (rest := [.ref (a1 0)]) ⟨hx, hb, hml, hown, hts⟩ (tX7_passOne l D z tt a1 y39 (y39 0 17) fu r40 y41 q42 _) (cwV 1 hts (gV4 aw882 aw884 aw9 aw52 aw885) rfl rfl rfl (by decide +kernel) ⟨Nat.le_of_ble_eq_true rfl, Nat.le_of_ble_eq_true rfl⟩) (z_preV hK hP hD hS hA hT hN hfo (va_recv hK hP (ci := 7) (q0 := 0) rfl rfl)) rfl rfl hl.1 rfl (lv_room (Nat.le_of_ble_eq_true rfl)) dX7_passesAll_155 ⟨Nat.zero_le _, Nat.zero_le _⟩) hP hD hS hA hfo (fun H locs hP hD hS => ?_)
  refine z_put (ci := 7) (v := .int r40) (ty := .int) (C := RX7) (T := TX7) (N := 33) hx hb hts iX7 tyX7 tyX7_ok nmX7 hown hK hP hD hS 0 rfl rfl 17 (by decide) (hts _ aw753) (fun _ h9 => h9) rfl (by decide +kernel) rfl rfl (Nat.le_of_ble_eq_true rfl) dX7_passesAll_158 (fun (w9 : Mem) => (WMod z a1 w9)) (up2 y41 0 17 r40) rfl (fun y43 ey43 H locs hP hD hS => ?_)
  have hf := lt_use ey43 hf
  obtain rfl := so1 hf
  exact ret_v hx hb hr hlocks hK hP hD hS dX7_passesAll_161
