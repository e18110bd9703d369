def pX7_isServed (fu : Nat) (m1 : Mem) (p1 : Int32) : Option (Int32 × Mem) :=
  bd (pX7_hotFor fu m1 p1) fun r1 =>
  if r1 < 0 then
    bd (pX7_freeFor fu m1 p1) fun r4 =>
    if r4 < 0 then
      some (0, m1)
    else
      bd (pX7_putsOn fu m1 p1 r4) fun y7 =>
      some (0, y7)
  else
    ck r1 2 <|
    ck p1 8 <|
    ck r1 2 <|
    lt' (up2 m1 11 r1.toNatClampNeg ((m1 11 r1.toNatClampNeg) - (m1 6 p1.toNatClampNeg))) fun y11 =>
    ck p1 8 <|
    lt' (up2 y11 8 p1.toNatClampNeg 2) fun y13 =>
    ck p1 8 <|
    ck p1 8 <|
    lt' (up2 y13 9 p1.toNatClampNeg ((y13 0 16) - (y13 5 p1.toNatClampNeg))) fun y16 =>
    some (1, y16)
set_option maxHeartbeats 4000000 in
set_option maxRecDepth 100000 in
theorem tX7_isServed (l : Launch) (D : va_G) (z tt : Nat → Nat) (a1 : Nat → Nat) (m1 : Mem) (p1 : Int32) (fu : Nat) (rr : Int32) (m1' : Mem) (hf : pX7_isServed fu m1 p1 = some (rr, m1')) : MetI l yX7_isServed wsX7_isServed ({ frames := 4, cells := 0, slots := 0, locals := 92 } : Room) D z tt ([.ref (a1 0), .int p1] : List Value) (WMod z a1 m1) rr (WMod z a1 m1') := by
  intro sz
  refine Met.ofW (cc := cX7_isServed) (maxL := 3) (ret := (some .boolean)) (by decide) rfl ?_
  intro p e s m args below meth c s₁ B hml hv
  obtain ⟨rfl, hsz, hP, hK, hD0, hT, hN⟩ := hv
  have hx := B.exec
  have hb := B.bytes
  have hr := B.returns
  have hts : ∀ w ∈ wsA, w.before ([.ref (a1 0), .int p1] : List Value).toArray s = true := fun w h => atoms_spec (ws := wsX7_isServed) B.pre w (List.mem_cons_of_mem _ h)
  have hown : s.vm.findClass RX7 = some m.cls := findClass_of_methodNamed B.named
  have hlocks := B.notSynchronized
  subst hsz
  have hD := hD0.self (sz := s.heap.size)
  generalize hAe : va_A (WMod z a1 m1) s.heap.size = A at hD hT ⊢
  have hA : ∀ q : Nat, s.heap.size ≤ q → A q := fun q h => by rw [← hAe]; exact Or.inr h
  have hS : va_S A s.heap s.heap [] := va_S.rf
  have hl := lv_entry ([.ref (a1 0), .int p1] : List Value) (n := 3) (Nat.le_of_ble_eq_true rfl)
  rw [lg_entry_eq]
  generalize (lg_sl ([.ref (a1 0), .int p1] : List Value) ++ List.replicate (3 - (lg_sl ([.ref (a1 0), .int p1] : List Value)).length) Slot.unset).toArray = ls at hl ⊢
  have hl : lv_has ls 3 [(0, .ref (a1 0)), (1, .int p1)] := hl
  unfold pX7_isServed at hf
  refine lv_aload_n hx hb dX7_isServed_0 rfl (lv_at hl 0 rfl) ?_
  refine lv_iload_n hx hb dX7_isServed_1 rfl (lv_at hl 1 rfl) ?_
  obtain ⟨r1, q2, hf⟩ := bd_use hf
  have hfo : Foc (WMod z a1 m1) (WMod z a1 m1) (WMod z a1 m1) (WMod z a1 m1) := foc_all
  refine z_goI (ws1 := (WMod z a1 m1)) (va_runV (As := [.int p1]) (rest := []) ⟨hx, hb, hml, hown, hts⟩ (tX7_hotFor l D z tt a1 m1 p1 fu r1 q2 _) (cwV 1 hts (gV4 aw972 aw974 aw23 aw52 aw975) rfl rfl rfl (by decide +kernel) ⟨Nat.le_of_ble_eq_true rfl, Nat.le_of_ble_eq_true rfl⟩) (z_preV hK hP hD hS hA hT hN hfo (va_recv hK hP (ci := 7) (q0 := 0) rfl rfl)) rfl rfl hl.1 rfl (lv_room (Nat.le_of_ble_eq_true rfl)) dX7_isServed_2 ⟨Nat.zero_le _, Nat.zero_le _⟩) hP hD hS hA hfo (fun H locs hP hD hS => ?_)
  refine lv_istore_n (lv' := [(2, .int r1), (0, .ref (a1 0)), (1, .int p1)]) hx hb dX7_isServed_5 rfl hl (by decide) rfl (fun ls hl => ?_)
  refine lv_iload_n hx hb dX7_isServed_6 rfl (lv_at hl 0 rfl) ?_
  refine lv_if_lt (tgt := 51) hx hb dX7_isServed_7 (by decide) (fun c3 => ?_) (fun c3 => ?_)
  · have hf := if_t c3 hf
    refine lv_aload_n hx hb dX7_isServed_51 rfl (lv_at hl 1 rfl) ?_
    refine lv_iload_n hx hb dX7_isServed_52 rfl (lv_at hl 2 rfl) ?_
    obtain ⟨r4, q5, hf⟩ := bd_use hf
    have hfo : Foc (WMod z a1 m1) (WMod z a1 m1) (WMod z a1 m1) (WMod z a1 m1) := foc_all
    refine z_goI (ws1 := (WMod z a1 m1)) (va_runV (As := [.int p1]) (rest := []) ⟨hx, hb, hml, hown, hts⟩ (tX7_freeFor l D z tt a1 m1 p1 fu r4 q5 _) (cwV 1 hts (gV4 aw976 aw978 aw24 aw52 aw979) rfl rfl rfl (by decide +kernel) ⟨Nat.le_of_ble_eq_true rfl, Nat.le_of_ble_eq_true rfl⟩) (z_preV hK hP hD hS hA hT hN hfo (va_recv hK hP (ci := 7) (q0 := 0) rfl rfl)) rfl rfl hl.1 rfl (lv_room (Nat.le_of_ble_eq_true rfl)) dX7_isServed_53 ⟨Nat.zero_le _, Nat.zero_le _⟩) hP hD hS hA hfo (fun H locs hP hD hS => ?_)
    refine lv_istore_n (lv' := [(2, .int r4), (0, .ref (a1 0)), (1, .int p1)]) hx hb dX7_isServed_56 rfl hl (by decide) rfl (fun ls hl => ?_)
    refine lv_iload_n hx hb dX7_isServed_57 rfl (lv_at hl 0 rfl) ?_
    refine lv_if_lt (tgt := 67) hx hb dX7_isServed_58 (by decide) (fun c6 => ?_) (fun c6 => ?_)
    · have hf := if_t c6 hf
      refine lv_iconst (v := 0) hx hb dX7_isServed_67 (by decide) ?_
      obtain ⟨rfl, rfl⟩ := so2 hf
      exact ret_z hx hb hr hlocks hK hP hD hS (by decide) dX7_isServed_68
    · have hf := if_f c6 hf
      refine lv_aload_n hx hb dX7_isServed_61 rfl (lv_at hl 1 rfl) ?_
      refine lv_iload_n hx hb dX7_isServed_62 rfl (lv_at hl 2 rfl) ?_
      refine lv_iload_n hx hb dX7_isServed_63 rfl (lv_at hl 0 rfl) ?_
      obtain ⟨y7, q8, hf⟩ := bd_use hf
      have hfo : Foc (WMod z a1 m1) (WMod z a1 m1) (WMod z a1 y7) (WMod z a1 y7) := foc_all
      refine z_goV (ws1 := (WMod z a1 y7)) (va_runV (As := [.int p1, .int r4]) (rest := []) ⟨hx, hb, hml, hown, hts⟩ (tX7_putsOn l D z tt a1 m1 p1 r4 fu y7 q8 _) (cwV 2 hts (gV4 aw980 aw982 aw25 aw52 aw983) rfl rfl rfl (by decide +kernel) ⟨Nat.le_of_ble_eq_true rfl, Nat.le_of_ble_eq_true rfl⟩) (z_preV hK hP hD hS hA hT hN hfo (va_recv hK hP (ci := 7) (q0 := 0) rfl rfl)) rfl rfl hl.1 rfl (lv_room (Nat.le_of_ble_eq_true rfl)) dX7_isServed_64 ⟨Nat.zero_le _, Nat.zero_le _⟩) hP hD hS hA hfo (fun H locs hP hD hS => ?_)
      refine lv_iconst (v := 0) hx hb dX7_isServed_67 (by decide) ?_
      obtain ⟨rfl, rfl⟩ := so2 hf
      exact ret_z hx hb hr hlocks hK hP hD hS (by decide) dX7_isServed_68
  · have hf := if_f c3 hf
    refine lv_aload_n hx hb dX7_isServed_10 rfl (lv_at hl 1 rfl) ?_
    refine va_get (D := D) (ci := 7) (v := .ref (a1 11)) (C := RX7) (T := TX7) (N := 33) hx hb hts iX7 hown hK hP 0 rfl rfl 10 (by decide) (hts _ aw746) (fun _ h9 => h9) rfl dX7_isServed_11 ?_
    refine lv_iload_n hx hb dX7_isServed_14 rfl (lv_at hl 0 rfl) ?_
    refine lv_dup2_11 hx hb dX7_isServed_15 rfl rfl ?_
    obtain ⟨h9, hf⟩ := ck_use hf
    refine z_iald hx hb hK hP 11 rfl h9 dX7_isServed_16 ?_
    refine lv_aload_n hx hb dX7_isServed_17 rfl (lv_at hl 1 rfl) ?_
    refine va_get (D := D) (ci := 7) (v := .ref (a1 6)) (C := RX7) (T := TX7) (N := 33) hx hb hts iX7 hown hK hP 0 rfl rfl 5 (by decide) (hts _ aw741) (fun _ h9 => h9) rfl dX7_isServed_18 ?_
    refine lv_iload_n hx hb dX7_isServed_21 rfl (lv_at hl 2 rfl) ?_
    obtain ⟨h10, hf⟩ := ck_use hf
    refine z_iald hx hb hK hP 6 rfl h10 dX7_isServed_22 ?_
    refine lv_isub hx hb dX7_isServed_23 ?_
    obtain ⟨h12, hf⟩ := ck_use hf
    refine z_iast hx hb hK hP hD hS 11 rfl h12 dX7_isServed_24 (fun (w9 : Mem) => (WMod z a1 w9)) (up2 m1 11 r1.toNatClampNeg ((m1 11 r1.toNatClampNeg) - (m1 6 p1.toNatClampNeg))) rfl (fun y11 ey11 H locs hP hD hS => ?_)
    have hf := lt_use ey11 hf
    refine lv_aload_n hx hb dX7_isServed_25 rfl (lv_at hl 1 rfl) ?_
    refine va_get (D := D) (ci := 7) (v := .ref (a1 8)) (C := RX7) (T := TX7) (N := 33) hx hb hts iX7 hown hK hP 0 rfl rfl 7 (by decide) (hts _ aw743) (fun _ h9 => h9) rfl dX7_isServed_26 ?_
    refine lv_iload_n hx hb dX7_isServed_29 rfl (lv_at hl 2 rfl) ?_
    refine lv_iconst (v := 2) hx hb dX7_isServed_30 (by decide) ?_
    obtain ⟨h14, hf⟩ := ck_use hf
    refine z_iast hx hb hK hP hD hS 8 rfl h14 dX7_isServed_31 (fun (w9 : Mem) => (WMod z a1 w9)) (up2 y11 8 p1.toNatClampNeg 2) rfl (fun y13 ey13 H locs hP hD hS => ?_)
    have hf := lt_use ey13 hf
    refine lv_aload_n hx hb dX7_isServed_32 rfl (lv_at hl 1 rfl) ?_
    refine va_get (D := D) (ci := 7) (v := .ref (a1 9)) (C := RX7) (T := TX7) (N := 33) hx hb hts iX7 hown hK hP 0 rfl rfl 8 (by decide) (hts _ aw744) (fun _ h9 => h9) rfl dX7_isServed_33 ?_
    refine lv_iload_n hx hb dX7_isServed_36 rfl (lv_at hl 2 rfl) ?_
    refine lv_aload_n hx hb dX7_isServed_37 rfl (lv_at hl 1 rfl) ?_
    refine va_get (D := D) (ci := 7) (v := .int (y13 0 16)) (C := RX7) (T := TX7) (N := 33) hx hb hts iX7 hown hK hP 0 rfl rfl 16 (by decide) (hts _ aw752) (fun _ h9 => h9) rfl dX7_isServed_38 ?_
    refine lv_aload_n hx hb dX7_isServed_41 rfl (lv_at hl 1 rfl) ?_
    refine va_get (D := D) (ci := 7) (v := .ref (a1 5)) (C := RX7) (T := TX7) (N := 33) hx hb hts iX7 hown hK hP 0 rfl rfl 4 (by decide) (hts _ aw740) (fun _ h9 => h9) rfl dX7_isServed_42 ?_
    refine lv_iload_n hx hb dX7_isServed_45 rfl (lv_at hl 2 rfl) ?_
    obtain ⟨h15, hf⟩ := ck_use hf
    refine z_iald hx hb hK hP 5 rfl h15 dX7_isServed_46 ?_
    refine lv_isub hx hb dX7_isServed_47 ?_
    obtain ⟨h17, hf⟩ := ck_use hf
    refine z_iast hx hb hK hP hD hS 9 rfl h17 dX7_isServed_48 (fun (w9 : Mem) => (WMod z a1 w9)) (up2 y13 9 p1.toNatClampNeg ((y13 0 16) - (y13 5 p1.toNatClampNeg))) rfl (fun y16 ey16 H locs hP hD hS => ?_)
    have hf := lt_use ey16 hf
    refine lv_iconst (v := 1) hx hb dX7_isServed_49 (by decide) ?_
    obtain ⟨rfl, rfl⟩ := so2 hf
    exact ret_z hx hb hr hlocks hK hP hD hS (by decide) dX7_isServed_50
def pX7_leaves (fu : Nat) (m1 : Mem) (p1 : Int32) : Option Mem :=
  lt' (up2 m1 0 17 ((m1 0 17) - 1)) fun y1 =>
  zl2 (fun g5 (x2 : Int32) (y3 : Mem) =>
    if (y3 0 17) ≤ x2 then
      some y3
    else
      ck (x2 + 1) 8 <|
      ck x2 8 <|
      lt' (up2 y3 10 x2.toNatClampNeg (y3 10 (x2 + 1).toNatClampNeg)) fun y9 =>
      lt' (x2 + 1) fun x11 =>
      g5 x11 y9) fu p1 y1
set_option maxHeartbeats 4000000 in
set_option maxRecDepth 100000 in
theorem tX7_leaves (l : Launch) (D : va_G) (z tt : Nat → Nat) (a1 : Nat → Nat) (m1 : Mem) (p1 : Int32) (fu : Nat) (m1' : Mem) (hf : pX7_leaves fu m1 p1 = some m1') : MetV l yX7_leaves wsX7_leaves ({ frames := 0, cells := 0, slots := 0, locals := 0 } : Room) D z tt ([.ref (a1 0), .int p1] : List Value) (WMod z a1 m1) (WMod z a1 m1') := by
  intro sz
  refine Met.ofW (cc := cX7_leaves) (maxL := 3) (ret := none) (by decide) rfl ?_
  intro p e s m args below meth c s₁ B hml hv
  obtain ⟨rfl, hsz, hP, hK, hD0, hT, hN⟩ := hv
  have hx := B.exec
  have hb := B.bytes
  have hr := B.returns
  have hts : ∀ w ∈ wsA, w.before ([.ref (a1 0), .int p1] : List Value).toArray s = true := fun w h => atoms_spec (ws := wsX7_leaves) B.pre w (List.mem_cons_of_mem _ h)
  have hown : s.vm.findClass RX7 = some m.cls := findClass_of_methodNamed B.named
  have hlocks := B.notSynchronized
  subst hsz
  have hD := hD0.self (sz := s.heap.size)
  generalize hAe : va_A (WMod z a1 m1) s.heap.size = A at hD hT ⊢
  have hA : ∀ q : Nat, s.heap.size ≤ q → A q := fun q h => by rw [← hAe]; exact Or.inr h
  have hS : va_S A s.heap s.heap [] := va_S.rf
  have hl := lv_entry ([.ref (a1 0), .int p1] : List Value) (n := 3) (Nat.le_of_ble_eq_true rfl)
  rw [lg_entry_eq]
  generalize (lg_sl ([.ref (a1 0), .int p1] : List Value) ++ List.replicate (3 - (lg_sl ([.ref (a1 0), .int p1] : List Value)).length) Slot.unset).toArray = ls at hl ⊢
  have hl : lv_has ls 3 [(0, .ref (a1 0)), (1, .int p1)] := hl
  unfold pX7_leaves at hf
  refine lv_aload_n hx hb dX7_leaves_0 rfl (lv_at hl 0 rfl) ?_
  refine lv_dup hx hb dX7_leaves_1 rfl ?_
  refine va_get (D := D) (ci := 7) (v := .int (m1 0 17)) (C := RX7) (T := TX7) (N := 33) hx hb hts iX7 hown hK hP 0 rfl rfl 17 (by decide) (hts _ aw753) (fun _ h9 => h9) rfl dX7_leaves_2 ?_
  refine lv_iconst (v := 1) hx hb dX7_leaves_5 (by decide) ?_
  refine lv_isub hx hb dX7_leaves_6 ?_
  refine z_put (ci := 7) (v := .int ((m1 0 17) - 1)) (ty := .int) (C := RX7) (T := TX7) (N := 33) hx hb hts iX7 tyX7 tyX7_ok nmX7 hown hK hP hD hS 0 rfl rfl 17 (by decide) (hts _ aw753) (fun _ h9 => h9) rfl (by decide +kernel) rfl rfl (Nat.le_of_ble_eq_true rfl) dX7_leaves_7 (fun (w9 : Mem) => (WMod z a1 w9)) (up2 m1 0 17 ((m1 0 17) - 1)) rfl (fun y1 ey1 H locs hP hD hS => ?_)
  have hf := lt_use ey1 hf
  refine lv_iload_n hx hb dX7_leaves_10 rfl (lv_at hl 1 rfl) ?_
  refine lv_istore_n (lv' := [(2, .int p1), (0, .ref (a1 0)), (1, .int p1)]) hx hb dX7_leaves_11 rfl hl (by decide) rfl (fun ls hl => ?_)
  obtain ⟨F4, eF4, hf⟩ := zl2_use hf
  have L12_F4 : ∀ (n : Nat) (x2 : Int32) (y3 : Mem) (H : Heap) (locs : List Loc), va_P D vwCl (WMod z a1 y3) H → va_D A (WMod z a1 y3) → va_S A s.heap H locs → ∀ (ls : Array Slot), lv_has ls 3 [(0, .ref (a1 0)), (2, .int x2)] → zl2 F4 n x2 y3 = some m1' → GV p l e (headSpec wsX7_leaves ({ frames := 0, cells := 0, slots := 0, locals := 0 } : Room)).room s m ([.ref (a1 0), .int p1] : List Value).toArray below meth c A D z (WMod z a1 m1') H locs (F0 m 12 ls []) := by
    intro n
    induction n with
    | zero =>
      intro x2 y3 H locs hP hD hS ls hl hf
      exact no_none hf
    | succ n ih6 =>
      intro x2 y3 H locs hP hD hS ls hl hf
      have hf := zl2_s eF4 hf
      refine lv_iload_n hx hb dX7_leaves_12 rfl (lv_at hl 1 rfl) ?_
      refine lv_aload_n hx hb dX7_leaves_13 rfl (lv_at hl 0 rfl) ?_
      refine va_get (D := D) (ci := 7) (v := .int (y3 0 17)) (C := RX7) (T := TX7) (N := 33) hx hb hts iX7 hown hK hP 0 rfl rfl 17 (by decide) (hts _ aw753) (fun _ h9 => h9) rfl dX7_leaves_14 ?_
      refine lv_icmp_ge (tgt := 40) hx hb dX7_leaves_17 (by decide) (fun c7 => ?_) (fun c7 => ?_)
      · have hf := if_t c7 hf
        obtain rfl := so1 hf
        exact ret_v hx hb hr hlocks hK hP hD hS dX7_leaves_40
      · have hf := if_f c7 hf
        refine lv_aload_n hx hb dX7_leaves_20 rfl (lv_at hl 0 rfl) ?_
        refine va_get (D := D) (ci := 7) (v := .ref (a1 10)) (C := RX7) (T := TX7) (N := 33) hx hb hts iX7 hown hK hP 0 rfl rfl 9 (by decide) (hts _ aw745) (fun _ h9 => h9) rfl dX7_leaves_21 ?_
        refine lv_iload_n hx hb dX7_leaves_24 rfl (lv_at hl 1 rfl) ?_
        refine lv_aload_n hx hb dX7_leaves_25 rfl (lv_at hl 0 rfl) ?_
        refine va_get (D := D) (ci := 7) (v := .ref (a1 10)) (C := RX7) (T := TX7) (N := 33) hx hb hts iX7 hown hK hP 0 rfl rfl 9 (by decide) (hts _ aw745) (fun _ h9 => h9) rfl dX7_leaves_26 ?_
        refine lv_iload_n hx hb dX7_leaves_29 rfl (lv_at hl 1 rfl) ?_
        refine lv_iconst (v := 1) hx hb dX7_leaves_30 (by decide) ?_
        refine lv_iadd hx hb dX7_leaves_31 ?_
        obtain ⟨h8, hf⟩ := ck_use hf
        refine z_iald hx hb hK hP 10 rfl h8 dX7_leaves_32 ?_
        obtain ⟨h10, hf⟩ := ck_use hf
        refine z_iast hx hb hK hP hD hS 10 rfl h10 dX7_leaves_33 (fun (w9 : Mem) => (WMod z a1 w9)) (up2 y3 10 x2.toNatClampNeg (y3 10 (x2 + 1).toNatClampNeg)) rfl (fun y9 ey9 H locs hP hD hS => ?_)
        have hf := lt_use ey9 hf
        obtain ⟨x11, ex11⟩ : ∃ y : Int32, y = x2 + 1 := ⟨_, rfl⟩
        have hf := lt_use ex11 hf
        refine lv_iinc (v := x11) (lv' := [(2, .int x11), (0, .ref (a1 0))]) hx hb dX7_leaves_34 hl (k := 1) rfl (by rw [ex11]; rfl) (by decide) rfl (fun ls hl => ?_)
        refine lv_goto (tgt := 12) hx hb dX7_leaves_37 (by decide) ?_
        exact ih6 _ _ _ _ hP hD hS _ (lv_sub hl [1, 0] rfl) hf
  exact L12_F4 fu _ _ _ _ hP hD hS _ (lv_sub hl [1, 0] rfl) hf
def pX7_cools (fu : Nat) (m1 : Mem) : Option Mem :=
  zl2 (fun g4 (x1 : Int32) (y2 : Mem) =>
    if (y2 2 7) ≤ x1 then
      some y2
    else
      bd (pX7_isFree fu y2 x1) fun r7 =>
      if r7 = 0 then
        lt' (x1 + 1) fun x10 =>
        g4 x10 y2
      else
        ck x1 2 <|
        if (y2 11 x1.toNatClampNeg) = 0 then
          lt' (x1 + 1) fun x32 =>
          g4 x32 y2
        else
          ck x1 2 <|
          ck x1 2 <|
          lt' (up2 y2 13 x1.toNatClampNeg ((y2 13 x1.toNatClampNeg) + 1)) fun y14 =>
          ck x1 2 <|
          if (y14 2 3) ≤ (y14 13 x1.toNatClampNeg) then
            ck x1 2 <|
            if (y14 12 x1.toNatClampNeg) ≤ 0 then
              ck x1 2 <|
              lt' (up2 y14 12 x1.toNatClampNeg 0) fun y20 =>
              ck x1 2 <|
              lt' (up2 y20 13 x1.toNatClampNeg 0) fun y22 =>
              lt' (x1 + 1) fun x24 =>
              g4 x24 y22
            else
              ck x1 2 <|
              ck x1 2 <|
              lt' (up2 y14 12 x1.toNatClampNeg ((y14 12 x1.toNatClampNeg) - 1)) fun y26 =>
              ck x1 2 <|
              lt' (up2 y26 13 x1.toNatClampNeg 0) fun y28 =>
              lt' (x1 + 1) fun x30 =>
              g4 x30 y28
          else
            lt' (x1 + 1) fun x31 =>
            g4 x31 y14) fu 0 m1
set_option maxHeartbeats 4000000 in
set_option maxRecDepth 100000 in
theorem tX7_cools (l : Launch) (D : va_G) (z tt : Nat → Nat) (a1 : Nat → Nat) (m1 : Mem)  (fu : Nat) (m1' : Mem) (hf : pX7_cools fu m1 = some m1') : MetV l yX7_cools wsX7_cools ({ frames := 1, cells := 0, slots := 0, locals := 21 } : Room) D z tt ([.ref (a1 0)] : List Value) (WMod z a1 m1) (WMod z a1 m1') := by
  intro sz
  refine Met.ofW (cc := cX7_cools) (maxL := 2) (ret := none) (by decide) rfl ?_
  intro p e s m args below meth c s₁ B hml hv
  obtain ⟨rfl, hsz, hP, hK, hD0, hT, hN⟩ := hv
  have hx := B.exec
  have hb := B.bytes
  have hr := B.returns
  have hts : ∀ w ∈ wsA, w.before ([.ref (a1 0)] : List Value).toArray s = true := fun w h => atoms_spec (ws := wsX7_cools) B.pre w (List.mem_cons_of_mem _ h)
  have hown : s.vm.findClass RX7 = some m.cls := findClass_of_methodNamed B.named
  have hlocks := B.notSynchronized
  subst hsz
  have hD := hD0.self (sz := s.heap.size)
  generalize hAe : va_A (WMod z a1 m1) s.heap.size = A at hD hT ⊢
  have hA : ∀ q : Nat, s.heap.size ≤ q → A q := fun q h => by rw [← hAe]; exact Or.inr h
  have hS : va_S A s.heap s.heap [] := va_S.rf
  have hl := lv_entry ([.ref (a1 0)] : List Value) (n := 2) (Nat.le_of_ble_eq_true rfl)
  rw [lg_entry_eq]
  generalize (lg_sl ([.ref (a1 0)] : List Value) ++ List.replicate (2 - (lg_sl ([.ref (a1 0)] : List Value)).length) Slot.unset).toArray = ls at hl ⊢
  have hl : lv_has ls 2 [(0, .ref (a1 0))] := hl
  unfold pX7_cools at hf
  refine lv_iconst (v := 0) hx hb dX7_cools_0 (by decide) ?_
  refine lv_istore_n (lv' := [(1, .int 0), (0, .ref (a1 0))]) hx hb dX7_cools_1 rfl hl (by decide) rfl (fun ls hl => ?_)
  obtain ⟨F3, eF3, hf⟩ := zl2_use hf
  have L2_F3 : ∀ (n : Nat) (x1 : Int32) (y2 : Mem) (H : Heap) (locs : List Loc), va_P D vwCl (WMod z a1 y2) H → va_D A (WMod z a1 y2) → va_S A s.heap H locs → ∀ (ls : Array Slot), lv_has ls 2 [(0, .ref (a1 0)), (1, .int x1)] → zl2 F3 n x1 y2 = some m1' → GV p l e (headSpec wsX7_cools ({ frames := 1, cells := 0, slots := 0, locals := 21 } : Room)).room s m ([.ref (a1 0)] : List Value).toArray below meth c A D z (WMod z a1 m1') H locs (F0 m 2 ls []) := by
    intro n
    induction n with
    | zero =>
      intro x1 y2 H locs hP hD hS ls hl hf
      exact no_none hf
    | succ n ih5 =>
      intro x1 y2 H locs hP hD hS ls hl hf
      have hf := zl2_s eF3 hf
      refine lv_iload_n hx hb dX7_cools_2 rfl (lv_at hl 1 rfl) ?_
      refine lv_aload_n hx hb dX7_cools_3 rfl (lv_at hl 0 rfl) ?_
      refine va_get (D := D) (ci := 7) (v := .ref (a1 2)) (C := RX7) (T := TX7) (N := 33) hx hb hts iX7 hown hK hP 0 rfl rfl 1 (by decide) (hts _ aw737) (fun _ h9 => h9) rfl dX7_cools_4 ?_
      refine lv_bipush (v := 7) hx hb dX7_cools_7 (by decide) ?_
      refine z_ialdc hx hb hK hP 2 rfl (i := 7) (k := 7) (by decide) (Nat.le_of_ble_eq_true rfl) dX7_cools_9 ?_
      refine lv_icmp_ge (tgt := 101) hx hb dX7_cools_10 (by decide) (fun c6 => ?_) (fun c6 => ?_)
      · have hf := if_t c6 hf
        obtain rfl := so1 hf
        exact ret_v hx hb hr hlocks hK hP hD hS dX7_cools_101
      · have hf := if_f c6 hf
        refine lv_aload_n hx hb dX7_cools_13 rfl (lv_at hl 0 rfl) ?_
        refine lv_iload_n hx hb dX7_cools_14 rfl (lv_at hl 1 rfl) ?_
        obtain ⟨r7, q8, hf⟩ := bd_use hf
        have hfo : Foc (WMod z a1 y2) (WMod z a1 y2) (WMod z a1 y2) (WMod z a1 y2) := foc_all
        refine z_goI (ws1 := (WMod z a1 y2)) (va_runV (As := [.int x1]) (rest := []) ⟨hx, hb, hml, hown, hts⟩ (tX7_isFree l D z tt a1 y2 x1 fu r7 q8 _) (cwV 1 hts (gV4 aw944 aw946 aw18 aw52 aw947) rfl rfl rfl (by decide +kernel) ⟨Nat.le_of_ble_eq_true rfl, Nat.le_of_ble_eq_true rfl⟩) (z_preV hK hP hD hS hA hT hN hfo (va_recv hK hP (ci := 7) (q0 := 0) rfl rfl)) rfl rfl hl.1 rfl (lv_room (Nat.le_of_ble_eq_true rfl)) dX7_cools_15 ⟨Nat.zero_le _, Nat.zero_le _⟩) hP hD hS hA hfo (fun H locs hP hD hS => ?_)
        refine lv_if_eq (tgt := 95) hx hb dX7_cools_18 (by decide) (fun c9 => ?_) (fun c9 => ?_)
        · have hf := if_t c9 hf
          obtain ⟨x10, ex10⟩ : ∃ y : Int32, y = x1 + 1 := ⟨_, rfl⟩
          have hf := lt_use ex10 hf
          refine lv_iinc (v := x10) (lv' := [(1, .int x10), (0, .ref (a1 0))]) hx hb dX7_cools_95 hl (k := 1) rfl (by rw [ex10]; rfl) (by decide) rfl (fun ls hl => ?_)
          refine lv_goto (tgt := 2) hx hb dX7_cools_98 (by decide) ?_
          exact ih5 _ _ _ _ hP hD hS _ (lv_sub hl [1, 0] rfl) hf
        · have hf := if_f c9 hf
          refine lv_aload_n hx hb dX7_cools_21 rfl (lv_at hl 0 rfl) ?_
          refine va_get (D := D) (ci := 7) (v := .ref (a1 11)) (C := RX7) (T := TX7) (N := 33) hx hb hts iX7 hown hK hP 0 rfl rfl 10 (by decide) (hts _ aw746) (fun _ h9 => h9) rfl dX7_cools_22 ?_
          refine lv_iload_n hx hb dX7_cools_25 rfl (lv_at hl 1 rfl) ?_
          obtain ⟨h11, hf⟩ := ck_use hf
          refine z_iald hx hb hK hP 11 rfl h11 dX7_cools_26 ?_
          refine lv_if_ne (tgt := 33) hx hb dX7_cools_27 (by decide) (fun c12 => ?_) (fun c12 => ?_)
          · have hf := if_f c12 hf
            refine lv_aload_n hx hb dX7_cools_33 rfl (lv_at hl 0 rfl) ?_
            refine va_get (D := D) (ci := 7) (v := .ref (a1 13)) (C := RX7) (T := TX7) (N := 33) hx hb hts iX7 hown hK hP 0 rfl rfl 12 (by decide) (hts _ aw748) (fun _ h9 => h9) rfl dX7_cools_34 ?_
            refine lv_iload_n hx hb dX7_cools_37 rfl (lv_at hl 1 rfl) ?_
            refine lv_dup2_11 hx hb dX7_cools_38 rfl rfl ?_
            obtain ⟨h13, hf⟩ := ck_use hf
            refine z_iald hx hb hK hP 13 rfl h13 dX7_cools_39 ?_
            refine lv_iconst (v := 1) hx hb dX7_cools_40 (by decide) ?_
            refine lv_iadd hx hb dX7_cools_41 ?_
            obtain ⟨h15, hf⟩ := ck_use hf
            refine z_iast hx hb hK hP hD hS 13 rfl h15 dX7_cools_42 (fun (w9 : Mem) => (WMod z a1 w9)) (up2 y2 13 x1.toNatClampNeg ((y2 13 x1.toNatClampNeg) + 1)) rfl (fun y14 ey14 H locs hP hD hS => ?_)
            have hf := lt_use ey14 hf
            refine lv_aload_n hx hb dX7_cools_43 rfl (lv_at hl 0 rfl) ?_
            refine va_get (D := D) (ci := 7) (v := .ref (a1 13)) (C := RX7) (T := TX7) (N := 33) hx hb hts iX7 hown hK hP 0 rfl rfl 12 (by decide) (hts _ aw748) (fun _ h9 => h9) rfl dX7_cools_44 ?_
            refine lv_iload_n hx hb dX7_cools_47 rfl (lv_at hl 1 rfl) ?_
            obtain ⟨h16, hf⟩ := ck_use hf
            refine z_iald hx hb hK hP 13 rfl h16 dX7_cools_48 ?_
            refine lv_aload_n hx hb dX7_cools_49 rfl (lv_at hl 0 rfl) ?_
            refine va_get (D := D) (ci := 7) (v := .ref (a1 2)) (C := RX7) (T := TX7) (N := 33) hx hb hts iX7 hown hK hP 0 rfl rfl 1 (by decide) (hts _ aw737) (fun _ h9 => h9) rfl dX7_cools_50 ?_
            refine lv_iconst (v := 3) hx hb dX7_cools_53 (by decide) ?_
            refine z_ialdc hx hb hK hP 2 rfl (i := 3) (k := 3) (by decide) (Nat.le_of_ble_eq_true rfl) dX7_cools_54 ?_
            refine lv_icmp_ge (tgt := 61) hx hb dX7_cools_55 (by decide) (fun c17 => ?_) (fun c17 => ?_)
            · have hf := if_t c17 hf
              refine lv_aload_n hx hb dX7_cools_61 rfl (lv_at hl 0 rfl) ?_
              refine va_get (D := D) (ci := 7) (v := .ref (a1 12)) (C := RX7) (T := TX7) (N := 33) hx hb hts iX7 hown hK hP 0 rfl rfl 11 (by decide) (hts _ aw747) (fun _ h9 => h9) rfl dX7_cools_62 ?_
              refine lv_iload_n hx hb dX7_cools_65 rfl (lv_at hl 1 rfl) ?_
              refine lv_aload_n hx hb dX7_cools_66 rfl (lv_at hl 0 rfl) ?_
              refine va_get (D := D) (ci := 7) (v := .ref (a1 12)) (C := RX7) (T := TX7) (N := 33) hx hb hts iX7 hown hK hP 0 rfl rfl 11 (by decide) (hts _ aw747) (fun _ h9 => h9) rfl dX7_cools_67 ?_
              refine lv_iload_n hx hb dX7_cools_70 rfl (lv_at hl 1 rfl) ?_
              obtain ⟨h18, hf⟩ := ck_use hf
              refine z_iald hx hb hK hP 12 rfl h18 dX7_cools_71 ?_
              refine lv_if_le (tgt := 86) hx hb dX7_cools_72 (by decide) (fun c19 => ?_) (fun c19 => ?_)
              · have hf := if_t c19 hf
                refine lv_iconst (v := 0) hx hb dX7_cools_86 (by decide) ?_
                obtain ⟨h21, hf⟩ := ck_use hf
                refine z_iast hx hb hK hP hD hS 12 rfl h21 dX7_cools_87 (fun (w9 : Mem) => (WMod z a1 w9)) (up2 y14 12 x1.toNatClampNeg 0) rfl (fun y20 ey20 H locs hP hD hS => ?_)
                have hf := lt_use ey20 hf
                refine lv_aload_n hx hb dX7_cools_88 rfl (lv_at hl 0 rfl) ?_
                refine va_get (D := D) (ci := 7) (v := .ref (a1 13)) (C := RX7) (T := TX7) (N := 33) hx hb hts iX7 hown hK hP 0 rfl rfl 12 (by decide) (hts _ aw748) (fun _ h9 => h9) rfl dX7_cools_89 ?_
                refine lv_iload_n hx hb dX7_cools_92 rfl (lv_at hl 1 rfl) ?_
                refine lv_iconst (v := 0) hx hb dX7_cools_93 (by decide) ?_
                obtain ⟨h23, hf⟩ := ck_use hf
                refine z_iast hx hb hK hP hD hS 13 rfl h23 dX7_cools_94 (fun (w9 : Mem) => (WMod z a1 w9)) (up2 y20 13 x1.toNatClampNeg 0) rfl (fun y22 ey22 H locs hP hD hS => ?_)
                have hf := lt_use ey22 hf
                obtain ⟨x24, ex24⟩ : ∃ y : Int32, y = x1 + 1 := ⟨_, rfl⟩
                have hf := lt_use ex24 hf
                refine lv_iinc (v := x24) (lv' := [(1, .int x24), (0, .ref (a1 0))]) hx hb dX7_cools_95 hl (k := 1) rfl (by rw [ex24]; rfl) (by decide) rfl (fun ls hl => ?_)
                refine lv_goto (tgt := 2) hx hb dX7_cools_98 (by decide) ?_
                exact ih5 _ _ _ _ hP hD hS _ (lv_sub hl [1, 0] rfl) hf
              · have hf := if_f c19 hf
                refine lv_aload_n hx hb dX7_cools_75 rfl (lv_at hl 0 rfl) ?_
                refine va_get (D := D) (ci := 7) (v := .ref (a1 12)) (C := RX7) (T := TX7) (N := 33) hx hb hts iX7 hown hK hP 0 rfl rfl 11 (by decide) (hts _ aw747) (fun _ h9 => h9) rfl dX7_cools_76 ?_
                refine lv_iload_n hx hb dX7_cools_79 rfl (lv_at hl 1 rfl) ?_
                obtain ⟨h25, hf⟩ := ck_use hf
                refine z_iald hx hb hK hP 12 rfl h25 dX7_cools_80 ?_
                refine lv_iconst (v := 1) hx hb dX7_cools_81 (by decide) ?_
                refine lv_isub hx hb dX7_cools_82 ?_
                refine lv_goto (tgt := 87) hx hb dX7_cools_83 (by decide) ?_
                obtain ⟨h27, hf⟩ := ck_use hf
                refine z_iast hx hb hK hP hD hS 12 rfl h27 dX7_cools_87 (fun (w9 : Mem) => (WMod z a1 w9)) (up2 y14 12 x1.toNatClampNeg ((y14 12 x1.toNatClampNeg) - 1)) rfl (fun y26 ey26 H locs hP hD hS => ?_)
                have hf := lt_use ey26 hf
                refine lv_aload_n hx hb dX7_cools_88 rfl (lv_at hl 0 rfl) ?_
                refine va_get (D := D) (ci := 7) (v := .ref (a1 13)) (C := RX7) (T := TX7) (N := 33) hx hb hts iX7 hown hK hP 0 rfl rfl 12 (by decide) (hts _ aw748) (fun _ h9 => h9) rfl dX7_cools_89 ?_
                refine lv_iload_n hx hb dX7_cools_92 rfl (lv_at hl 1 rfl) ?_
                refine lv_iconst (v := 0) hx hb dX7_cools_93 (by decide) ?_
                obtain ⟨h29, hf⟩ := ck_use hf
                refine z_iast hx hb hK hP hD hS 13 rfl h29 dX7_cools_94 (fun (w9 : Mem) => (WMod z a1 w9)) (up2 y26 13 x1.toNatClampNeg 0) rfl (fun y28 ey28 H locs hP hD hS => ?_)
                have hf := lt_use ey28 hf
                obtain ⟨x30, ex30⟩ : ∃ y : Int32, y = x1 + 1 := ⟨_, rfl⟩
                have hf := lt_use ex30 hf
                refine lv_iinc (v := x30) (lv' := [(1, .int x30), (0, .ref (a1 0))]) hx hb dX7_cools_95 hl (k := 1) rfl (by rw [ex30]; rfl) (by decide) rfl (fun ls hl => ?_)
                refine lv_goto (tgt := 2) hx hb dX7_cools_98 (by decide) ?_
                exact ih5 _ _ _ _ hP hD hS _ (lv_sub hl [1, 0] rfl) hf
            · have hf := if_f c17 hf
              refine lv_goto (tgt := 95) hx hb dX7_cools_58 (by decide) ?_
              obtain ⟨x31, ex31⟩ : ∃ y : Int32, y = x1 + 1 := ⟨_, rfl⟩
              have hf := lt_use ex31 hf
              refine lv_iinc (v := x31) (lv' := [(1, .int x31), (0, .ref (a1 0))]) hx hb dX7_cools_95 hl (k := 1) rfl (by rw [ex31]; rfl) (by decide) rfl (fun ls hl => ?_)
              refine lv_goto (tgt := 2) hx hb dX7_cools_98 (by decide) ?_
              exact ih5 _ _ _ _ hP hD hS _ (lv_sub hl [1, 0] rfl) hf
          · have hf := if_t c12 hf
            refine lv_goto (tgt := 95) hx hb dX7_cools_30 (by decide) ?_
            obtain ⟨x32, ex32⟩ : ∃ y : Int32, y = x1 + 1 := ⟨_, rfl⟩
            have hf := lt_use ex32 hf
            refine lv_iinc (v := x32) (lv' := [(1, .int x32), (0, .ref (a1 0))]) hx hb dX7_cools_95 hl (k := 1) rfl (by rw [ex32]; rfl) (by decide) rfl (fun ls hl => ?_)
            refine lv_goto (tgt := 2) hx hb dX7_cools_98 (by decide) ?_
            exact ih5 _ _ _ _ hP hD hS _ (lv_sub hl [1, 0] rfl) hf
  exact L2_F3 fu _ _ _ _ hP hD hS _ (lv_sub hl [1, 0] rfl) hf
def pX7_goesMinute (fu : Nat) (m1 : Mem) : Option Mem :=
  zl2 (fun g4 (x1 : Int32) (y2 : Mem) =>
    if (y2 0 15) ≤ x1 then
      lt' (((y2 0 17) - 1) : Int32) fun x7 =>
      zl2 (fun g11 (x8 : Int32) (y9 : Mem) =>
        if x8 < 0 then
          zl2 (fun g17 (x14 : Int32) (y15 : Mem) =>
            if (y15 0 17) ≤ x14 then
              bd (pX7_cools fu y15) fun y20 =>
              lt' (up2 y20 0 16 ((y20 0 16) + 1)) fun y22 =>
              some y22
            else
              ck x14 8 <|
              bd2 (pX7_isServed fu y15 (y15 10 x14.toNatClampNeg)) fun r24 y25 =>
              if r24 = 0 then
                lt' (x14 + 1) fun x28 =>
                g17 x28 y25
              else
                bd (pX7_leaves fu y25 x14) fun y29 =>
                g17 x14 y29) fu 0 y9
        else
          ck x8 8 <|
          lt' ((y9 10 x8.toNatClampNeg) : Int32) fun x32 =>
          ck x32 8 <|
          ck x32 8 <|
          if (y9 7 x32.toNatClampNeg) < ((y9 0 16) - (y9 5 x32.toNatClampNeg)) then
            ck x32 8 <|
            lt' (up2 y9 8 x32.toNatClampNeg 3) fun y36 =>
            ck x32 8 <|
            ck x32 8 <|
            lt' (up2 y36 9 x32.toNatClampNeg (y36 7 x32.toNatClampNeg)) fun y39 =>
            bd (pX7_leaves fu y39 x8) fun y41 =>
            lt' (x8 + (-1)) fun x43 =>
            g11 x43 y41
          else
            lt' (x8 + (-1)) fun x44 =>
            g11 x44 y9) fu x7 y2
    else
      ck x1 8 <|
      if (y2 8 x1.toNatClampNeg) = 0 then
        ck x1 8 <|
        if (y2 5 x1.toNatClampNeg) = (y2 0 16) then
          ck x1 8 <|
          lt' (up2 y2 8 x1.toNatClampNeg 1) fun y50 =>
          ck (y50 0 17) 8 <|
          lt' (up2 y50 10 (y50 0 17).toNatClampNeg x1) fun y52 =>
          lt' (up2 y52 0 17 ((y52 0 17) + 1)) fun y54 =>
          lt' (x1 + 1) fun x55 =>
          g4 x55 y54
        else
          lt' (x1 + 1) fun x56 =>
          g4 x56 y2
      else
        lt' (x1 + 1) fun x47 =>
        g4 x47 y2) fu 0 m1
set_option maxHeartbeats 4000000 in
set_option maxRecDepth 100000 in
theorem tX7_goesMinute (l : Launch) (D : va_G) (z tt : Nat → Nat) (a1 : Nat → Nat) (m1 : Mem)  (fu : Nat) (m1' : Mem) (hf : pX7_goesMinute fu m1 = some m1') : MetV l yX7_goesMinute wsX7_goesMinute ({ frames := 5, cells := 0, slots := 0, locals := 114 } : Room) D z tt ([.ref (a1 0)] : List Value) (WMod z a1 m1) (WMod z a1 m1') := by
  intro sz
  refine Met.ofW (cc := cX7_goesMinute) (maxL := 3) (ret := none) (by decide) rfl ?_
  intro p e s m args below meth c s₁ B hml hv
  obtain ⟨rfl, hsz, hP, hK, hD0, hT, hN⟩ := hv
  have hx := B.exec
  have hb := B.bytes
  have hr := B.returns
  have hts : ∀ w ∈ wsA, w.before ([.ref (a1 0)] : List Value).toArray s = true := fun w h => atoms_spec (ws := wsX7_goesMinute) B.pre w (List.mem_cons_of_mem _ h)
  have hown : s.vm.findClass RX7 = some m.cls := findClass_of_methodNamed B.named
  have hlocks := B.notSynchronized
  subst hsz
  have hD := hD0.self (sz := s.heap.size)
  generalize hAe : va_A (WMod z a1 m1) s.heap.size = A at hD hT ⊢
  have hA : ∀ q : Nat, s.heap.size ≤ q → A q := fun q h => by rw [← hAe]; exact Or.inr h
  have hS : va_S A s.heap s.heap [] := va_S.rf
  have hl := lv_entry ([.ref (a1 0)] : List Value) (n := 3) (Nat.le_of_ble_eq_true rfl)
  rw [lg_entry_eq]
  generalize (lg_sl ([.ref (a1 0)] : List Value) ++ List.replicate (3 - (lg_sl ([.ref (a1 0)] : List Value)).length) Slot.unset).toArray = ls at hl ⊢
  have hl : lv_has ls 3 [(0, .ref (a1 0))] := hl
  unfold pX7_goesMinute at hf
  refine lv_iconst (v := 0) hx hb dX7_goesMinute_0 (by decide) ?_
  refine lv_istore_n (lv' := [(1, .int 0), (0, .ref (a1 0))]) hx hb dX7_goesMinute_1 rfl hl (by decide) rfl (fun ls hl => ?_)
  obtain ⟨F3, eF3, hf⟩ := zl2_use hf
  have L2_F3 : ∀ (n : Nat) (x1 : Int32) (y2 : Mem) (H : Heap) (locs : List Loc), va_P D vwCl (WMod z a1 y2) H → va_D A (WMod z a1 y2) → va_S A s.heap H locs → ∀ (ls : Array Slot), lv_has ls 3 [(0, .ref (a1 0)), (1, .int x1)] → zl2 F3 n x1 y2 = some m1' → GV p l e (headSpec wsX7_goesMinute ({ frames := 5, cells := 0, slots := 0, locals := 114 } : Room)).room s m ([.ref (a1 0)] : List Value).toArray below meth c A D z (WMod z a1 m1') H locs (F0 m 2 ls []) := by
    intro n
    induction n with
    | zero =>
      intro x1 y2 H locs hP hD hS ls hl hf
      exact no_none hf
    | succ n ih5 =>
      intro x1 y2 H locs hP hD hS ls hl hf
      have hf := zl2_s eF3 hf
      refine lv_iload_n hx hb dX7_goesMinute_2 rfl (lv_at hl 1 rfl) ?_
      refine lv_aload_n hx hb dX7_goesMinute_3 rfl (lv_at hl 0 rfl) ?_
      refine va_get (D := D) (ci := 7) (v := .int (y2 0 15)) (C := RX7) (T := TX7) (N := 33) hx hb hts iX7 hown hK hP 0 rfl rfl 15 (by decide) (hts _ aw751) (fun _ h9 => h9) rfl dX7_goesMinute_4 ?_
      refine lv_icmp_ge (tgt := 68) hx hb dX7_goesMinute_7 (by decide) (fun c6 => ?_) (fun c6 => ?_)
      · have hf := if_t c6 hf
        refine lv_aload_n hx hb dX7_goesMinute_68 rfl (lv_at hl 0 rfl) ?_
        refine va_get (D := D) (ci := 7) (v := .int (y2 0 17)) (C := RX7) (T := TX7) (N := 33) hx hb hts iX7 hown hK hP 0 rfl rfl 17 (by decide) (hts _ aw753) (fun _ h9 => h9) rfl dX7_goesMinute_69 ?_
        refine lv_iconst (v := 1) hx hb dX7_goesMinute_72 (by decide) ?_
        refine lv_isub hx hb dX7_goesMinute_73 ?_
        refine lv_topi (fun x7 ex7 => ?_)
        have hf := lt_use ex7 hf
        refine lv_istore_n (lv' := [(1, .int x7), (0, .ref (a1 0))]) hx hb dX7_goesMinute_74 rfl hl (by decide) rfl (fun ls hl => ?_)
        obtain ⟨F10, eF10, hf⟩ := zl2_use hf
        have L75_F10 : ∀ (n : Nat) (x8 : Int32) (y9 : Mem) (H : Heap) (locs : List Loc), va_P D vwCl (WMod z a1 y9) H → va_D A (WMod z a1 y9) → va_S A s.heap H locs → ∀ (ls : Array Slot), lv_has ls 3 [(0, .ref (a1 0)), (1, .int x8)] → zl2 F10 n x8 y9 = some m1' → GV p l e (headSpec wsX7_goesMinute ({ frames := 5, cells := 0, slots := 0, locals := 114 } : Room)).room s m ([.ref (a1 0)] : List Value).toArray below meth c A D z (WMod z a1 m1') H locs (F0 m 75 ls []) := by
          intro n
          induction n with
          | zero =>
            intro x8 y9 H locs hP hD hS ls hl hf
            exact no_none hf
          | succ n ih12 =>
            intro x8 y9 H locs hP hD hS ls hl hf
            have hf := zl2_s eF10 hf
            refine lv_iload_n hx hb dX7_goesMinute_75 rfl (lv_at hl 1 rfl) ?_
            refine lv_if_lt (tgt := 139) hx hb dX7_goesMinute_76 (by decide) (fun c13 => ?_) (fun c13 => ?_)
            · have hf := if_t c13 hf
              refine lv_iconst (v := 0) hx hb dX7_goesMinute_139 (by decide) ?_
              refine lv_istore_n (lv' := [(1, .int 0), (0, .ref (a1 0))]) hx hb dX7_goesMinute_140 rfl hl (by decide) rfl (fun ls hl => ?_)
              obtain ⟨F16, eF16, hf⟩ := zl2_use hf
              have L141_F16 : ∀ (n : Nat) (x14 : Int32) (y15 : Mem) (H : Heap) (locs : List Loc), va_P D vwCl (WMod z a1 y15) H → va_D A (WMod z a1 y15) → va_S A s.heap H locs → ∀ (ls : Array Slot), lv_has ls 3 [(0, .ref (a1 0)), (1, .int x14)] → zl2 F16 n x14 y15 = some m1' → GV p l e (headSpec wsX7_goesMinute ({ frames := 5, cells := 0, slots := 0, locals := 114 } : Room)).room s m ([.ref (a1 0)] : List Value).toArray below meth c A D z (WMod z a1 m1') H locs (F0 m 141 ls []) := by
                intro n
                induction n with
                | zero =>
                  intro x14 y15 H locs hP hD hS ls hl hf
                  exact no_none hf
                | succ n ih18 =>
                  intro x14 y15 H locs hP hD hS ls hl hf
                  have hf := zl2_s eF16 hf
                  refine lv_iload_n hx hb dX7_goesMinute_141 rfl (lv_at hl 1 rfl) ?_
                  refine lv_aload_n hx hb dX7_goesMinute_142 rfl (lv_at hl 0 rfl) ?_
                  refine va_get (D := D) (ci := 7) (v := .int (y15 0 17)) (C := RX7) (T := TX7) (N := 33) hx hb hts iX7 hown hK hP 0 rfl rfl 17 (by decide) (hts _ aw753) (fun _ h9 => h9) rfl dX7_goesMinute_143 ?_
                  refine lv_icmp_ge (tgt := 176) hx hb dX7_goesMinute_146 (by decide) (fun c19 => ?_) (fun c19 => ?_)
                  · have hf := if_t c19 hf
                    refine lv_aload_n hx hb dX7_goesMinute_176 rfl (lv_at hl 0 rfl) ?_
                    obtain ⟨y20, q21, hf⟩ := bd_use hf
                    have hfo : Foc (WMod z a1 y15) (WMod z a1 y15) (WMod z a1 y20) (WMod z a1 y20) := foc_all
                    refine z_goV (ws1 := (WMod z a1 y20)) (va_runV (As := []) (rest := []) ⟨hx, hb, hml, hown, hts⟩ (tX7_cools l D z tt a1 y15  fu y20 q21 _) (cwV 0 hts (gV4 aw988 aw990 aw27 aw52 aw991) rfl rfl rfl (by decide +kernel) ⟨Nat.le_of_ble_eq_true rfl, Nat.le_of_ble_eq_true rfl⟩) (z_preV hK hP hD hS hA hT hN hfo (va_recv hK hP (ci := 7) (q0 := 0) rfl rfl)) rfl rfl hl.1 rfl (lv_room (Nat.le_of_ble_eq_true rfl)) dX7_goesMinute_177 ⟨Nat.zero_le _, Nat.zero_le _⟩) hP hD hS hA hfo (fun H locs hP hD hS => ?_)
                    refine lv_aload_n hx hb dX7_goesMinute_180 rfl (lv_at hl 0 rfl) ?_
                    refine lv_dup hx hb dX7_goesMinute_181 rfl ?_
                    refine va_get (D := D) (ci := 7) (v := .int (y20 0 16)) (C := RX7) (T := TX7) (N := 33) hx hb hts iX7 hown hK hP 0 rfl rfl 16 (by decide) (hts _ aw752) (fun _ h9 => h9) rfl dX7_goesMinute_182 ?_
                    refine lv_iconst (v := 1) hx hb dX7_goesMinute_185 (by decide) ?_
                    refine lv_iadd hx hb dX7_goesMinute_186 ?_
                    refine z_put (ci := 7) (v := .int ((y20 0 16) + 1)) (ty := .int) (C := RX7) (T := TX7) (N := 33) hx hb hts iX7 tyX7 tyX7_ok nmX7 hown hK hP hD hS 0 rfl rfl 16 (by decide) (hts _ aw752) (fun _ h9 => h9) rfl (by decide +kernel) rfl rfl (Nat.le_of_ble_eq_true rfl) dX7_goesMinute_187 (fun (w9 : Mem) => (WMod z a1 w9)) (up2 y20 0 16 ((y20 0 16) + 1)) rfl (fun y22 ey22 H locs hP hD hS => ?_)
                    have hf := lt_use ey22 hf
                    obtain rfl := so1 hf
                    exact ret_v hx hb hr hlocks hK hP hD hS dX7_goesMinute_190
                  · have hf := if_f c19 hf
                    refine lv_aload_n hx hb dX7_goesMinute_149 rfl (lv_at hl 0 rfl) ?_
                    refine lv_aload_n hx hb dX7_goesMinute_150 rfl (lv_at hl 0 rfl) ?_
                    refine va_get (D := D) (ci := 7) (v := .ref (a1 10)) (C := RX7) (T := TX7) (N := 33) hx hb hts iX7 hown hK hP 0 rfl rfl 9 (by decide) (hts _ aw745) (fun _ h9 => h9) rfl dX7_goesMinute_151 ?_
                    refine lv_iload_n hx hb dX7_goesMinute_154 rfl (lv_at hl 1 rfl) ?_
                    obtain ⟨h23, hf⟩ := ck_use hf
                    refine z_iald hx hb hK hP 10 rfl h23 dX7_goesMinute_155 ?_
                    obtain ⟨r24, y25, q26, hf⟩ := bd2_use hf
                    have hfo : Foc (WMod z a1 y15) (WMod z a1 y15) (WMod z a1 y25) (WMod z a1 y25) := foc_all
                    refine z_goI (ws1 := (WMod z a1 y25)) (va_runV (As := [.int (y15 10 x14.toNatClampNeg)]) (rest := []) ⟨hx, hb, hml, hown, hts⟩ (tX7_isServed l D z tt a1 y15 (y15 10 x14.toNatClampNeg) fu r24 y25 q26 _) (cwV 1 hts (gV4 aw968 aw970 aw22 aw52 aw971) rfl rfl rfl (by decide +kernel) ⟨Nat.le_of_ble_eq_true rfl, Nat.le_of_ble_eq_true rfl⟩) (z_preV hK hP hD hS hA hT hN hfo (va_recv hK hP (ci := 7) (q0 := 0) rfl rfl)) rfl rfl hl.1 rfl (lv_room (Nat.le_of_ble_eq_true rfl)) dX7_goesMinute_156 ⟨Nat.zero_le _, Nat.zero_le _⟩) hP hD hS hA hfo (fun H locs hP hD hS => ?_)
                    refine lv_if_eq (tgt := 170) hx hb dX7_goesMinute_159 (by decide) (fun c27 => ?_) (fun c27 => ?_)
                    · have hf := if_t c27 hf
                      obtain ⟨x28, ex28⟩ : ∃ y : Int32, y = x14 + 1 := ⟨_, rfl⟩
                      have hf := lt_use ex28 hf
                      refine lv_iinc (v := x28) (lv' := [(1, .int x28), (0, .ref (a1 0))]) hx hb dX7_goesMinute_170 hl (k := 1) rfl (by rw [ex28]; rfl) (by decide) rfl (fun ls hl => ?_)
                      refine lv_goto (tgt := 141) hx hb dX7_goesMinute_173 (by decide) ?_
                      exact ih18 _ _ _ _ hP hD hS _ (lv_sub hl [1, 0] rfl) hf
                    · have hf := if_f c27 hf
                      refine lv_aload_n hx hb dX7_goesMinute_162 rfl (lv_at hl 0 rfl) ?_
                      refine lv_iload_n hx hb dX7_goesMinute_163 rfl (lv_at hl 1 rfl) ?_
                      obtain ⟨y29, q30, hf⟩ := bd_use hf
                      have hfo : Foc (WMod z a1 y25) (WMod z a1 y25) (WMod z a1 y29) (WMod z a1 y29) := foc_all
                      refine z_goV (ws1 := (WMod z a1 y29)) (va_runV (As := [.int x14]) (rest := []) ⟨hx, hb, hml, hown, hts⟩ (tX7_leaves l D z tt a1 y25 x14 fu y29 q30 _) (cwV 1 hts (gV4 aw964 aw966 aw21 aw52 aw967) rfl rfl rfl (by decide +kernel) ⟨Nat.le_of_ble_eq_true rfl, Nat.le_of_ble_eq_true rfl⟩) (z_preV hK hP hD hS hA hT hN hfo (va_recv hK hP (ci := 7) (q0 := 0) rfl rfl)) rfl rfl hl.1 rfl (lv_room (Nat.le_of_ble_eq_true rfl)) dX7_goesMinute_164 ⟨Nat.zero_le _, Nat.zero_le _⟩) hP hD hS hA hfo (fun H locs hP hD hS => ?_)
                      refine lv_goto (tgt := 141) hx hb dX7_goesMinute_167 (by decide) ?_
                      exact ih18 _ _ _ _ hP hD hS _ (lv_sub hl [0, 1] rfl) hf
              exact L141_F16 fu _ _ _ _ hP hD hS _ (lv_sub hl [1, 0] rfl) hf
            · have hf := if_f c13 hf
              refine lv_aload_n hx hb dX7_goesMinute_79 rfl (lv_at hl 0 rfl) ?_
              refine va_get (D := D) (ci := 7) (v := .ref (a1 10)) (C := RX7) (T := TX7) (N := 33) hx hb hts iX7 hown hK hP 0 rfl rfl 9 (by decide) (hts _ aw745) (fun _ h9 => h9) rfl dX7_goesMinute_80 ?_
              refine lv_iload_n hx hb dX7_goesMinute_83 rfl (lv_at hl 1 rfl) ?_
              obtain ⟨h31, hf⟩ := ck_use hf
              refine z_iald hx hb hK hP 10 rfl h31 dX7_goesMinute_84 ?_
              refine lv_topi (fun x32 ex32 => ?_)
              have hf := lt_use ex32 hf
              refine lv_istore_n (lv' := [(2, .int x32), (0, .ref (a1 0)), (1, .int x8)]) hx hb dX7_goesMinute_85 rfl hl (by decide) rfl (fun ls hl => ?_)
              refine lv_aload_n hx hb dX7_goesMinute_86 rfl (lv_at hl 1 rfl) ?_
              refine va_get (D := D) (ci := 7) (v := .int (y9 0 16)) (C := RX7) (T := TX7) (N := 33) hx hb hts iX7 hown hK hP 0 rfl rfl 16 (by decide) (hts _ aw752) (fun _ h9 => h9) rfl dX7_goesMinute_87 ?_
              refine lv_aload_n hx hb dX7_goesMinute_90 rfl (lv_at hl 1 rfl) ?_
              refine va_get (D := D) (ci := 7) (v := .ref (a1 5)) (C := RX7) (T := TX7) (N := 33) hx hb hts iX7 hown hK hP 0 rfl rfl 4 (by decide) (hts _ aw740) (fun _ h9 => h9) rfl dX7_goesMinute_91 ?_
              refine lv_iload_n hx hb dX7_goesMinute_94 rfl (lv_at hl 0 rfl) ?_
              obtain ⟨h33, hf⟩ := ck_use hf
              refine z_iald hx hb hK hP 5 rfl h33 dX7_goesMinute_95 ?_
              refine lv_isub hx hb dX7_goesMinute_96 ?_
              refine lv_aload_n hx hb dX7_goesMinute_97 rfl (lv_at hl 1 rfl) ?_
              refine va_get (D := D) (ci := 7) (v := .ref (a1 7)) (C := RX7) (T := TX7) (N := 33) hx hb hts iX7 hown hK hP 0 rfl rfl 6 (by decide) (hts _ aw742) (fun _ h9 => h9) rfl dX7_goesMinute_98 ?_
              refine lv_iload_n hx hb dX7_goesMinute_101 rfl (lv_at hl 0 rfl) ?_
              obtain ⟨h34, hf⟩ := ck_use hf
              refine z_iald hx hb hK hP 7 rfl h34 dX7_goesMinute_102 ?_
              refine lv_icmp_gt (tgt := 109) hx hb dX7_goesMinute_103 (by decide) (fun c35 => ?_) (fun c35 => ?_)
              · have hf := if_t c35 hf
                refine lv_aload_n hx hb dX7_goesMinute_109 rfl (lv_at hl 1 rfl) ?_
                refine va_get (D := D) (ci := 7) (v := .ref (a1 8)) (C := RX7) (T := TX7) (N := 33) hx hb hts iX7 hown hK hP 0 rfl rfl 7 (by decide) (hts _ aw743) (fun _ h9 => h9) rfl dX7_goesMinute_110 ?_
                refine lv_iload_n hx hb dX7_goesMinute_113 rfl (lv_at hl 0 rfl) ?_
                refine lv_iconst (v := 3) hx hb dX7_goesMinute_114 (by decide) ?_
                obtain ⟨h37, hf⟩ := ck_use hf
                refine z_iast hx hb hK hP hD hS 8 rfl h37 dX7_goesMinute_115 (fun (w9 : Mem) => (WMod z a1 w9)) (up2 y9 8 x32.toNatClampNeg 3) rfl (fun y36 ey36 H locs hP hD hS => ?_)
                have hf := lt_use ey36 hf
                refine lv_aload_n hx hb dX7_goesMinute_116 rfl (lv_at hl 1 rfl) ?_
                refine va_get (D := D) (ci := 7) (v := .ref (a1 9)) (C := RX7) (T := TX7) (N := 33) hx hb hts iX7 hown hK hP 0 rfl rfl 8 (by decide) (hts _ aw744) (fun _ h9 => h9) rfl dX7_goesMinute_117 ?_
                refine lv_iload_n hx hb dX7_goesMinute_120 rfl (lv_at hl 0 rfl) ?_
                refine lv_aload_n hx hb dX7_goesMinute_121 rfl (lv_at hl 1 rfl) ?_
                refine va_get (D := D) (ci := 7) (v := .ref (a1 7)) (C := RX7) (T := TX7) (N := 33) hx hb hts iX7 hown hK hP 0 rfl rfl 6 (by decide) (hts _ aw742) (fun _ h9 => h9) rfl dX7_goesMinute_122 ?_
                refine lv_iload_n hx hb dX7_goesMinute_125 rfl (lv_at hl 0 rfl) ?_
                obtain ⟨h38, hf⟩ := ck_use hf
                refine z_iald hx hb hK hP 7 rfl h38 dX7_goesMinute_126 ?_
                obtain ⟨h40, hf⟩ := ck_use hf
                refine z_iast hx hb hK hP hD hS 9 rfl h40 dX7_goesMinute_127 (fun (w9 : Mem) => (WMod z a1 w9)) (up2 y36 9 x32.toNatClampNeg (y36 7 x32.toNatClampNeg)) rfl (fun y39 ey39 H locs hP hD hS => ?_)
                have hf := lt_use ey39 hf
                refine lv_aload_n hx hb dX7_goesMinute_128 rfl (lv_at hl 1 rfl) ?_
                refine lv_iload_n hx hb dX7_goesMinute_129 rfl (lv_at hl 2 rfl) ?_
                obtain ⟨y41, q42, hf⟩ := bd_use hf
                have hfo : Foc (WMod z a1 y39) (WMod z a1 y39) (WMod z a1 y41) (WMod z a1 y41) := foc_all
                refine z_goV (ws1 := (WMod z a1 y41)) (va_runV (As := [.int x8]) (rest := []) ⟨hx, hb, hml, hown, hts⟩ (tX7_leaves l D z tt a1 y39 x8 fu y41 q42 _) (cwV 1 hts (gV4 aw964 aw966 aw21 aw52 aw967) rfl rfl rfl (by decide +kernel) ⟨Nat.le_of_ble_eq_true rfl, Nat.le_of_ble_eq_true rfl⟩) (z_preV hK hP hD hS hA hT hN hfo (va_recv hK hP (ci := 7) (q0 := 0) rfl rfl)) rfl rfl hl.1 rfl (lv_room (Nat.le_of_ble_eq_true rfl)) dX7_goesMinute_130 ⟨Nat.zero_le _, Nat.zero_le _⟩) hP hD hS hA hfo (fun H locs hP hD hS => ?_)
                obtain ⟨x43, ex43⟩ : ∃ y : Int32, y = x8 + (-1) := ⟨_, rfl⟩
                have hf := lt_use ex43 hf
                refine lv_iinc (v := x43) (lv' := [(1, .int x43), (2, .int x32), (0, .ref (a1 0))]) hx hb dX7_goesMinute_133 hl (k := 2) rfl (by rw [ex43]; rfl) (by decide) rfl (fun ls hl => ?_)
                refine lv_goto (tgt := 75) hx hb dX7_goesMinute_136 (by decide) ?_
                exact ih12 _ _ _ _ hP hD hS _ (lv_sub hl [2, 0] rfl) hf
              · have hf := if_f c35 hf
                refine lv_goto (tgt := 133) hx hb dX7_goesMinute_106 (by decide) ?_
                obtain ⟨x44, ex44⟩ : ∃ y : Int32, y = x8 + (-1) := ⟨_, rfl⟩
                have hf := lt_use ex44 hf
                refine lv_iinc (v := x44) (lv' := [(1, .int x44), (2, .int x32), (0, .ref (a1 0))]) hx hb dX7_goesMinute_133 hl (k := 2) rfl (by rw [ex44]; rfl) (by decide) rfl (fun ls hl => ?_)
                refine lv_goto (tgt := 75) hx hb dX7_goesMinute_136 (by decide) ?_
                exact ih12 _ _ _ _ hP hD hS _ (lv_sub hl [2, 0] rfl) hf
        exact L75_F10 fu _ _ _ _ hP hD hS _ (lv_sub hl [1, 0] rfl) hf
      · have hf := if_f c6 hf
        refine lv_aload_n hx hb dX7_goesMinute_10 rfl (lv_at hl 0 rfl) ?_
        refine va_get (D := D) (ci := 7) (v := .ref (a1 8)) (C := RX7) (T := TX7) (N := 33) hx hb hts iX7 hown hK hP 0 rfl rfl 7 (by decide) (hts _ aw743) (fun _ h9 => h9) rfl dX7_goesMinute_11 ?_
        refine lv_iload_n hx hb dX7_goesMinute_14 rfl (lv_at hl 1 rfl) ?_
        obtain ⟨h45, hf⟩ := ck_use hf
        refine z_iald hx hb hK hP 8 rfl h45 dX7_goesMinute_15 ?_
        refine lv_if_ne (tgt := 62) hx hb dX7_goesMinute_16 (by decide) (fun c46 => ?_) (fun c46 => ?_)
        · have hf := if_f c46 hf
          obtain ⟨x47, ex47⟩ : ∃ y : Int32, y = x1 + 1 := ⟨_, rfl⟩
          have hf := lt_use ex47 hf
          refine lv_iinc (v := x47) (lv' := [(1, .int x47), (0, .ref (a1 0))]) hx hb dX7_goesMinute_62 hl (k := 1) rfl (by rw [ex47]; rfl) (by decide) rfl (fun ls hl => ?_)
          refine lv_goto (tgt := 2) hx hb dX7_goesMinute_65 (by decide) ?_
          exact ih5 _ _ _ _ hP hD hS _ (lv_sub hl [1, 0] rfl) hf
        · have hf := if_t c46 hf
          refine lv_aload_n hx hb dX7_goesMinute_19 rfl (lv_at hl 0 rfl) ?_
          refine va_get (D := D) (ci := 7) (v := .ref (a1 5)) (C := RX7) (T := TX7) (N := 33) hx hb hts iX7 hown hK hP 0 rfl rfl 4 (by decide) (hts _ aw740) (fun _ h9 => h9) rfl dX7_goesMinute_20 ?_
          refine lv_iload_n hx hb dX7_goesMinute_23 rfl (lv_at hl 1 rfl) ?_
          obtain ⟨h48, hf⟩ := ck_use hf
          refine z_iald hx hb hK hP 5 rfl h48 dX7_goesMinute_24 ?_
          refine lv_aload_n hx hb dX7_goesMinute_25 rfl (lv_at hl 0 rfl) ?_
          refine va_get (D := D) (ci := 7) (v := .int (y2 0 16)) (C := RX7) (T := TX7) (N := 33) hx hb hts iX7 hown hK hP 0 rfl rfl 16 (by decide) (hts _ aw752) (fun _ h9 => h9) rfl dX7_goesMinute_26 ?_
          refine lv_icmp_eq (tgt := 35) hx hb dX7_goesMinute_29 (by decide) (fun c49 => ?_) (fun c49 => ?_)
          · have hf := if_t c49 hf
            refine lv_aload_n hx hb dX7_goesMinute_35 rfl (lv_at hl 0 rfl) ?_
            refine va_get (D := D) (ci := 7) (v := .ref (a1 8)) (C := RX7) (T := TX7) (N := 33) hx hb hts iX7 hown hK hP 0 rfl rfl 7 (by decide) (hts _ aw743) (fun _ h9 => h9) rfl dX7_goesMinute_36 ?_
            refine lv_iload_n hx hb dX7_goesMinute_39 rfl (lv_at hl 1 rfl) ?_
            refine lv_iconst (v := 1) hx hb dX7_goesMinute_40 (by decide) ?_
            obtain ⟨h51, hf⟩ := ck_use hf
            refine z_iast hx hb hK hP hD hS 8 rfl h51 dX7_goesMinute_41 (fun (w9 : Mem) => (WMod z a1 w9)) (up2 y2 8 x1.toNatClampNeg 1) rfl (fun y50 ey50 H locs hP hD hS => ?_)
            have hf := lt_use ey50 hf
            refine lv_aload_n hx hb dX7_goesMinute_42 rfl (lv_at hl 0 rfl) ?_
            refine va_get (D := D) (ci := 7) (v := .ref (a1 10)) (C := RX7) (T := TX7) (N := 33) hx hb hts iX7 hown hK hP 0 rfl rfl 9 (by decide) (hts _ aw745) (fun _ h9 => h9) rfl dX7_goesMinute_43 ?_
            refine lv_aload_n hx hb dX7_goesMinute_46 rfl (lv_at hl 0 rfl) ?_
            refine va_get (D := D) (ci := 7) (v := .int (y50 0 17)) (C := RX7) (T := TX7) (N := 33) hx hb hts iX7 hown hK hP 0 rfl rfl 17 (by decide) (hts _ aw753) (fun _ h9 => h9) rfl dX7_goesMinute_47 ?_
            refine lv_iload_n hx hb dX7_goesMinute_50 rfl (lv_at hl 1 rfl) ?_
            obtain ⟨h53, hf⟩ := ck_use hf
            refine z_iast hx hb hK hP hD hS 10 rfl h53 dX7_goesMinute_51 (fun (w9 : Mem) => (WMod z a1 w9)) (up2 y50 10 (y50 0 17).toNatClampNeg x1) rfl (fun y52 ey52 H locs hP hD hS => ?_)
            have hf := lt_use ey52 hf
            refine lv_aload_n hx hb dX7_goesMinute_52 rfl (lv_at hl 0 rfl) ?_
            refine lv_dup hx hb dX7_goesMinute_53 rfl ?_
            refine va_get (D := D) (ci := 7) (v := .int (y52 0 17)) (C := RX7) (T := TX7) (N := 33) hx hb hts iX7 hown hK hP 0 rfl rfl 17 (by decide) (hts _ aw753) (fun _ h9 => h9) rfl dX7_goesMinute_54 ?_
            refine lv_iconst (v := 1) hx hb dX7_goesMinute_57 (by decide) ?_
            refine lv_iadd hx hb dX7_goesMinute_58 ?_
            refine z_put (ci := 7) (v := .int ((y52 0 17) + 1)) (ty := .int) (C := RX7) (T := TX7) (N := 33) hx hb hts iX7 tyX7 tyX7_ok nmX7 hown hK hP hD hS 0 rfl rfl 17 (by decide) (hts _ aw753) (fun _ h9 => h9) rfl (by decide +kernel) rfl rfl (Nat.le_of_ble_eq_true rfl) dX7_goesMinute_59 (fun (w9 : Mem) => (WMod z a1 w9)) (up2 y52 0 17 ((y52 0 17) + 1)) rfl (fun y54 ey54 H locs hP hD hS => ?_)
            have hf := lt_use ey54 hf
            obtain ⟨x55, ex55⟩ : ∃ y : Int32, y = x1 + 1 := ⟨_, rfl⟩
            have hf := lt_use ex55 hf
            refine lv_iinc (v := x55) (lv' := [(1, .int x55), (0, .ref (a1 0))]) hx hb dX7_goesMinute_62 hl (k := 1) rfl (by rw [ex55]; rfl) (by decide) rfl (fun ls hl => ?_)
            refine lv_goto (tgt := 2) hx hb dX7_goesMinute_65 (by decide) ?_
            exact ih5 _ _ _ _ hP hD hS _ (lv_sub hl [1, 0] rfl) hf
          · have hf := if_f c49 hf
            refine lv_goto (tgt := 62) hx hb dX7_goesMinute_32 (by decide) ?_
            obtain ⟨x56, ex56⟩ : ∃ y : Int32, y = x1 + 1 := ⟨_, rfl⟩
            have hf := lt_use ex56 hf
            refine lv_iinc (v := x56) (lv' := [(1, .int x56), (0, .ref (a1 0))]) hx hb dX7_goesMinute_62 hl (k := 1) rfl (by rw [ex56]; rfl) (by decide) rfl (fun ls hl => ?_)
            refine lv_goto (tgt := 2) hx hb dX7_goesMinute_65 (by decide) ?_
            exact ih5 _ _ _ _ hP hD hS _ (lv_sub hl [1, 0] rfl) hf
  exact L2_F3 fu _ _ _ _ hP hD hS _ (lv_sub hl [1, 0] rfl) hf
def pX7_isOver (fu : Nat) (m1 : Mem) : Option Int32 :=
  if (m1 0 16) < 180 then
    zl1 (fun g4 (x2 : Int32) =>
      if (m1 0 15) ≤ x2 then
        bd (pX7_isFree fu m1 0) fun r7 =>
        if r7 = 0 then
          some 0
        else
          bd (pX7_isFree fu m1 1) fun r10 =>
          if r10 = 0 then
            some 0
          else
            some 1
      else
        ck x2 8 <|
        if (m1 8 x2.toNatClampNeg) = 0 then
          some 0
        else
          ck x2 8 <|
          if (m1 8 x2.toNatClampNeg) = 1 then
            some 0
          else
            lt' (x2 + 1) fun x17 =>
            g4 x17) fu 0
  else
    some 1
set_option maxHeartbeats 4000000 in
set_option maxRecDepth 100000 in
theorem tX7_isOver (l : Launch) (D : va_G) (z tt : Nat → Nat) (a1 : Nat → Nat) (m1 : Mem)  (fu : Nat) (rr : Int32) (hf : pX7_isOver fu m1 = some rr) : MetI l yX7_isOver wsX7_isOver ({ frames := 1, cells := 0, slots := 0, locals := 21 } : Room) D z tt ([.ref (a1 0)] : List Value) (WMod z a1 m1) rr (WMod z a1 m1) := by
  intro sz
  refine Met.ofW (cc := cX7_isOver) (maxL := 2) (ret := (some .boolean)) (by decide) rfl ?_
  intro p e s m args below meth c s₁ B hml hv
  obtain ⟨rfl, hsz, hP, hK, hD0, hT, hN⟩ := hv
  have hx := B.exec
  have hb := B.bytes
  have hr := B.returns
  have hts : ∀ w ∈ wsA, w.before ([.ref (a1 0)] : List Value).toArray s = true := fun w h => atoms_spec (ws := wsX7_isOver) B.pre w (List.mem_cons_of_mem _ h)
  have hown : s.vm.findClass RX7 = some m.cls := findClass_of_methodNamed B.named
  have hlocks := B.notSynchronized
  subst hsz
  have hD := hD0.self (sz := s.heap.size)
  generalize hAe : va_A (WMod z a1 m1) s.heap.size = A at hD hT ⊢
  have hA : ∀ q : Nat, s.heap.size ≤ q → A q := fun q h => by rw [← hAe]; exact Or.inr h
  have hS : va_S A s.heap s.heap [] := va_S.rf
  have hl := lv_entry ([.ref (a1 0)] : List Value) (n := 2) (Nat.le_of_ble_eq_true rfl)
  rw [lg_entry_eq]
  generalize (lg_sl ([.ref (a1 0)] : List Value) ++ List.replicate (2 - (lg_sl ([.ref (a1 0)] : List Value)).length) Slot.unset).toArray = ls at hl ⊢
  have hl : lv_has ls 2 [(0, .ref (a1 0))] := hl
  unfold pX7_isOver at hf
  refine lv_aload_n hx hb dX7_isOver_0 rfl (lv_at hl 0 rfl) ?_
  refine va_get (D := D) (ci := 7) (v := .int (m1 0 16)) (C := RX7) (T := TX7) (N := 33) hx hb hts iX7 hown hK hP 0 rfl rfl 16 (by decide) (hts _ aw752) (fun _ h9 => h9) rfl dX7_isOver_1 ?_
  refine lv_sipush (v := 180) hx hb dX7_isOver_4 (by decide) ?_
  refine lv_icmp_lt (tgt := 12) hx hb dX7_isOver_7 (by decide) (fun c1 => ?_) (fun c1 => ?_)
  · have hf := if_t c1 hf
    refine lv_iconst (v := 0) hx hb dX7_isOver_12 (by decide) ?_
    refine lv_istore_n (lv' := [(1, .int 0), (0, .ref (a1 0))]) hx hb dX7_isOver_13 rfl hl (by decide) rfl (fun ls hl => ?_)
    obtain ⟨F3, eF3, hf⟩ := zl1_use hf
    have L14_F3 : ∀ (n : Nat) (x2 : Int32) (H : Heap) (locs : List Loc), va_P D vwCl (WMod z a1 m1) H → va_D A (WMod z a1 m1) → va_S A s.heap H locs → ∀ (ls : Array Slot), lv_has ls 2 [(0, .ref (a1 0)), (1, .int x2)] → zl1 F3 n x2 = some rr → GI p l e (headSpec wsX7_isOver ({ frames := 1, cells := 0, slots := 0, locals := 21 } : Room)).room s m ([.ref (a1 0)] : List Value).toArray below meth c A D z rr (WMod z a1 m1) H locs (F0 m 14 ls []) := by
      intro n
      induction n with
      | zero =>
        intro x2 H locs hP hD hS ls hl hf
        exact no_none hf
      | succ n ih5 =>
        intro x2 H locs hP hD hS ls hl hf
        have hf := zl1_s eF3 hf
        refine lv_iload_n hx hb dX7_isOver_14 rfl (lv_at hl 1 rfl) ?_
        refine lv_aload_n hx hb dX7_isOver_15 rfl (lv_at hl 0 rfl) ?_
        refine va_get (D := D) (ci := 7) (v := .int (m1 0 15)) (C := RX7) (T := TX7) (N := 33) hx hb hts iX7 hown hK hP 0 rfl rfl 15 (by decide) (hts _ aw751) (fun _ h9 => h9) rfl dX7_isOver_16 ?_
        refine lv_icmp_ge (tgt := 49) hx hb dX7_isOver_19 (by decide) (fun c6 => ?_) (fun c6 => ?_)
        · have hf := if_t c6 hf
          refine lv_aload_n hx hb dX7_isOver_49 rfl (lv_at hl 0 rfl) ?_
          refine lv_iconst (v := 0) hx hb dX7_isOver_50 (by decide) ?_
          obtain ⟨r7, q8, hf⟩ := bd_use hf
          have hfo : Foc (WMod z a1 m1) (WMod z a1 m1) (WMod z a1 m1) (WMod z a1 m1) := foc_all
          refine z_goI (ws1 := (WMod z a1 m1)) (va_runV (As := [.int 0]) (rest := []) ⟨hx, hb, hml, hown, hts⟩ (tX7_isFree l D z tt a1 m1 0 fu r7 q8 _) (cwV 1 hts (gV4 aw944 aw946 aw18 aw52 aw947) rfl rfl rfl (by decide +kernel) ⟨Nat.le_of_ble_eq_true rfl, Nat.le_of_ble_eq_true rfl⟩) (z_preV hK hP hD hS hA hT hN hfo (va_recv hK hP (ci := 7) (q0 := 0) rfl rfl)) rfl rfl hl.1 rfl (lv_room (Nat.le_of_ble_eq_true rfl)) dX7_isOver_51 ⟨Nat.zero_le _, Nat.zero_le _⟩) hP hD hS hA hfo (fun H locs hP hD hS => ?_)
          refine lv_if_eq (tgt := 69) hx hb dX7_isOver_54 (by decide) (fun c9 => ?_) (fun c9 => ?_)
          · have hf := if_t c9 hf
            refine lv_iconst (v := 0) hx hb dX7_isOver_69 (by decide) ?_
            obtain rfl := so1 hf
            exact ret_z hx hb hr hlocks hK hP hD hS (by decide) dX7_isOver_70
          · have hf := if_f c9 hf
            refine lv_aload_n hx hb dX7_isOver_57 rfl (lv_at hl 0 rfl) ?_
            refine lv_iconst (v := 1) hx hb dX7_isOver_58 (by decide) ?_
            obtain ⟨r10, q11, hf⟩ := bd_use hf
            have hfo : Foc (WMod z a1 m1) (WMod z a1 m1) (WMod z a1 m1) (WMod z a1 m1) := foc_all
            refine z_goI (ws1 := (WMod z a1 m1)) (va_runV (As := [.int 1]) (rest := []) ⟨hx, hb, hml, hown, hts⟩ (tX7_isFree l D z tt a1 m1 1 fu r10 q11 _) (cwV 1 hts (gV4 aw944 aw946 aw18 aw52 aw947) rfl rfl rfl (by decide +kernel) ⟨Nat.le_of_ble_eq_true rfl, Nat.le_of_ble_eq_true rfl⟩) (z_preV hK hP hD hS hA hT hN hfo (va_recv hK hP (ci := 7) (q0 := 0) rfl rfl)) rfl rfl hl.1 rfl (lv_room (Nat.le_of_ble_eq_true rfl)) dX7_isOver_59 ⟨Nat.zero_le _, Nat.zero_le _⟩) hP hD hS hA hfo (fun H locs hP hD hS => ?_)
            refine lv_if_eq (tgt := 69) hx hb dX7_isOver_62 (by decide) (fun c12 => ?_) (fun c12 => ?_)
            · have hf := if_t c12 hf
              refine lv_iconst (v := 0) hx hb dX7_isOver_69 (by decide) ?_
              obtain rfl := so1 hf
              exact ret_z hx hb hr hlocks hK hP hD hS (by decide) dX7_isOver_70
            · have hf := if_f c12 hf
              refine lv_iconst (v := 1) hx hb dX7_isOver_65 (by decide) ?_
              refine lv_goto (tgt := 70) hx hb dX7_isOver_66 (by decide) ?_
              obtain rfl := so1 hf
              exact ret_z hx hb hr hlocks hK hP hD hS (by decide) dX7_isOver_70
        · have hf := if_f c6 hf
          refine lv_aload_n hx hb dX7_isOver_22 rfl (lv_at hl 0 rfl) ?_
          refine va_get (D := D) (ci := 7) (v := .ref (a1 8)) (C := RX7) (T := TX7) (N := 33) hx hb hts iX7 hown hK hP 0 rfl rfl 7 (by decide) (hts _ aw743) (fun _ h9 => h9) rfl dX7_isOver_23 ?_
          refine lv_iload_n hx hb dX7_isOver_26 rfl (lv_at hl 1 rfl) ?_
          obtain ⟨h13, hf⟩ := ck_use hf
          refine z_iald hx hb hK hP 8 rfl h13 dX7_isOver_27 ?_
          refine lv_if_eq (tgt := 41) hx hb dX7_isOver_28 (by decide) (fun c14 => ?_) (fun c14 => ?_)
          · have hf := if_t c14 hf
            refine lv_iconst (v := 0) hx hb dX7_isOver_41 (by decide) ?_
            obtain rfl := so1 hf
            exact ret_z hx hb hr hlocks hK hP hD hS (by decide) dX7_isOver_42
          · have hf := if_f c14 hf
            refine lv_aload_n hx hb dX7_isOver_31 rfl (lv_at hl 0 rfl) ?_
            refine va_get (D := D) (ci := 7) (v := .ref (a1 8)) (C := RX7) (T := TX7) (N := 33) hx hb hts iX7 hown hK hP 0 rfl rfl 7 (by decide) (hts _ aw743) (fun _ h9 => h9) rfl dX7_isOver_32 ?_
            refine lv_iload_n hx hb dX7_isOver_35 rfl (lv_at hl 1 rfl) ?_
            obtain ⟨h15, hf⟩ := ck_use hf
            refine z_iald hx hb hK hP 8 rfl h15 dX7_isOver_36 ?_
            refine lv_iconst (v := 1) hx hb dX7_isOver_37 (by decide) ?_
            refine lv_icmp_ne (tgt := 43) hx hb dX7_isOver_38 (by decide) (fun c16 => ?_) (fun c16 => ?_)
            · have hf := if_f c16 hf
              obtain ⟨x17, ex17⟩ : ∃ y : Int32, y = x2 + 1 := ⟨_, rfl⟩
              have hf := lt_use ex17 hf
              refine lv_iinc (v := x17) (lv' := [(1, .int x17), (0, .ref (a1 0))]) hx hb dX7_isOver_43 hl (k := 1) rfl (by rw [ex17]; rfl) (by decide) rfl (fun ls hl => ?_)
              refine lv_goto (tgt := 14) hx hb dX7_isOver_46 (by decide) ?_
              exact ih5 _ _ _ hP hD hS _ (lv_sub hl [1, 0] rfl) hf
            · have hf := if_t c16 hf
              refine lv_iconst (v := 0) hx hb dX7_isOver_41 (by decide) ?_
              obtain rfl := so1 hf
              exact ret_z hx hb hr hlocks hK hP hD hS (by decide) dX7_isOver_42
    exact L14_F3 fu _ _ _ hP hD hS _ (lv_sub hl [1, 0] rfl) hf
  · have hf := if_f c1 hf
    refine lv_iconst (v := 1) hx hb dX7_isOver_10 (by decide) ?_
    obtain rfl := so1 hf
    exact ret_z hx hb hr hlocks hK hP hD hS (by decide) dX7_isOver_11
def pX7_goesToEnd (fu : Nat) (m1 : Mem) : Option Mem :=
  lt' (up2 m1 0 18 0) fun y1 =>
  zl1 (fun g4 (y2 : Mem) =>
    bd (pX7_isOver fu y2) fun r6 =>
    if r6 = 0 then
      bd (pX7_goesMinute fu y2) fun y9 =>
      g4 y9
    else
      some y2) fu y1
set_option maxHeartbeats 4000000 in
set_option maxRecDepth 100000 in
theorem tX7_goesToEnd (l : Launch) (D : va_G) (z tt : Nat → Nat) (a1 : Nat → Nat) (m1 : Mem)  (fu : Nat) (m1' : Mem) (hf : pX7_goesToEnd fu m1 = some m1') : MetV l yX7_goesToEnd wsX7_goesToEnd ({ frames := 6, cells := 0, slots := 0, locals := 136 } : Room) D z tt ([.ref (a1 0)] : List Value) (WMod z a1 m1) (WMod z a1 m1') := by
  intro sz
  refine Met.ofW (cc := cX7_goesToEnd) (maxL := 1) (ret := none) (by decide) rfl ?_
  intro p e s m args below meth c s₁ B hml hv
  obtain ⟨rfl, hsz, hP, hK, hD0, hT, hN⟩ := hv
  have hx := B.exec
  have hb := B.bytes
  have hr := B.returns
  have hts : ∀ w ∈ wsA, w.before ([.ref (a1 0)] : List Value).toArray s = true := fun w h => atoms_spec (ws := wsX7_goesToEnd) B.pre w (List.mem_cons_of_mem _ h)
  have hown : s.vm.findClass RX7 = some m.cls := findClass_of_methodNamed B.named
  have hlocks := B.notSynchronized
  subst hsz
  have hD := hD0.self (sz := s.heap.size)
  generalize hAe : va_A (WMod z a1 m1) s.heap.size = A at hD hT ⊢
  have hA : ∀ q : Nat, s.heap.size ≤ q → A q := fun q h => by rw [← hAe]; exact Or.inr h
  have hS : va_S A s.heap s.heap [] := va_S.rf
  have hl := lv_entry ([.ref (a1 0)] : List Value) (n := 1) (Nat.le_of_ble_eq_true rfl)
  rw [lg_entry_eq]
  generalize (lg_sl ([.ref (a1 0)] : List Value) ++ List.replicate (1 - (lg_sl ([.ref (a1 0)] : List Value)).length) Slot.unset).toArray = ls at hl ⊢
  have hl : lv_has ls 1 [(0, .ref (a1 0))] := hl
  unfold pX7_goesToEnd at hf
  refine lv_aload_n hx hb dX7_goesToEnd_0 rfl (lv_at hl 0 rfl) ?_
  refine lv_iconst (v := 0) hx hb dX7_goesToEnd_1 (by decide) ?_
  refine z_put (ci := 7) (v := .int 0) (ty := .int) (C := RX7) (T := TX7) (N := 33) hx hb hts iX7 tyX7 tyX7_ok nmX7 hown hK hP hD hS 0 rfl rfl 18 (by decide) (hts _ aw754) (fun _ h9 => h9) rfl (by decide +kernel) rfl rfl (Nat.le_of_ble_eq_true rfl) dX7_goesToEnd_2 (fun (w9 : Mem) => (WMod z a1 w9)) (up2 m1 0 18 0) rfl (fun y1 ey1 H locs hP hD hS => ?_)
  have hf := lt_use ey1 hf
  obtain ⟨F3, eF3, hf⟩ := zl1_use hf
  have L5_F3 : ∀ (n : Nat) (y2 : Mem) (H : Heap) (locs : List Loc), va_P D vwCl (WMod z a1 y2) H → va_D A (WMod z a1 y2) → va_S A s.heap H locs → ∀ (ls : Array Slot), lv_has ls 1 [(0, .ref (a1 0))] → zl1 F3 n y2 = some m1' → GV p l e (headSpec wsX7_goesToEnd ({ frames := 6, cells := 0, slots := 0, locals := 136 } : Room)).room s m ([.ref (a1 0)] : List Value).toArray below meth c A D z (WMod z a1 m1') H locs (F0 m 5 ls []) := by
    intro n
    induction n with
    | zero =>
      intro y2 H locs hP hD hS ls hl hf
      exact no_none hf
    | succ n ih5 =>
      intro y2 H locs hP hD hS ls hl hf
      have hf := zl1_s eF3 hf
      refine lv_aload_n hx hb dX7_goesToEnd_5 rfl (lv_at hl 0 rfl) ?_
      obtain ⟨r6, q7, hf⟩ := bd_use hf
      have hfo : Foc (WMod z a1 y2) (WMod z a1 y2) (WMod z a1 y2) (WMod z a1 y2) := foc_all
      refine z_goI (ws1 := (WMod z a1 y2)) (va_runV (As := []) (rest := []) ⟨hx, hb, hml, hown, hts⟩ (tX7_isOver l D z tt a1 y2  fu r6 q7 _) (cwV 0 hts (gV4 aw956 aw958 aw19 aw52 aw959) rfl rfl rfl (by decide +kernel) ⟨Nat.le_of_ble_eq_true rfl, Nat.le_of_ble_eq_true rfl⟩) (z_preV hK hP hD hS hA hT hN hfo (va_recv hK hP (ci := 7) (q0 := 0) rfl rfl)) rfl rfl hl.1 rfl (lv_room (Nat.le_of_ble_eq_true rfl)) dX7_goesToEnd_6 ⟨Nat.zero_le _, Nat.zero_le _⟩) hP hD hS hA hfo (fun H locs hP hD hS => ?_)
      refine lv_if_ne (tgt := 19) hx hb dX7_goesToEnd_9 (by decide) (fun c8 => ?_) (fun c8 => ?_)
      · have hf := if_f c8 hf
        obtain rfl := so1 hf
        exact ret_v hx hb hr hlocks hK hP hD hS dX7_goesToEnd_19
      · have hf := if_t c8 hf
        refine lv_aload_n hx hb dX7_goesToEnd_12 rfl (lv_at hl 0 rfl) ?_
        obtain ⟨y9, q10, hf⟩ := bd_use hf
        have hfo : Foc (WMod z a1 y2) (WMod z a1 y2) (WMod z a1 y9) (WMod z a1 y9) := foc_all
        refine z_goV (ws1 := (WMod z a1 y9)) (va_runV (As := []) (rest := []) ⟨hx, hb, hml, hown, hts⟩ (tX7_goesMinute l D z tt a1 y2  fu y9 q10 _) (cwV 0 hts (gV4 aw960 aw962 aw20 aw52 aw963) rfl rfl rfl (by decide +kernel) ⟨Nat.le_of_ble_eq_true rfl, Nat.le_of_ble_eq_true rfl⟩) (z_preV hK hP hD hS hA hT hN hfo (va_recv hK hP (ci := 7) (q0 := 0) rfl rfl)) rfl rfl hl.1 rfl (lv_room (Nat.le_of_ble_eq_true rfl)) dX7_goesToEnd_13 ⟨Nat.zero_le _, Nat.zero_le _⟩) hP hD hS hA hfo (fun H locs hP hD hS => ?_)
        refine lv_goto (tgt := 5) hx hb dX7_goesToEnd_16 (by decide) ?_
        exact ih5 _ _ _ hP hD hS _ (lv_sub hl [0] rfl) hf
  exact L5_F3 fu _ _ _ hP hD hS _ (lv_sub hl [0] rfl) hf
def pX7_begins (fu : Nat) (m1 : Mem) : Option Mem :=
  lt' (up2 m1 0 16 0) fun y1 =>
  lt' (up2 y1 0 17 0) fun y2 =>
  zl2 (fun g6 (x3 : Int32) (y4 : Mem) =>
    if 8 ≤ x3 then
      zl2 (fun g12 (x9 : Int32) (y10 : Mem) =>
        if 2 ≤ x9 then
          some y10
        else
          ck x9 2 <|
          lt' (up2 y10 11 x9.toNatClampNeg 0) fun y15 =>
          ck x9 2 <|
          lt' (up2 y15 12 x9.toNatClampNeg 0) fun y17 =>
          ck x9 2 <|
          lt' (up2 y17 13 x9.toNatClampNeg 0) fun y19 =>
          ck x9 2 <|
          lt' (up2 y19 14 x9.toNatClampNeg 0) fun y21 =>
          ck x9 2 <|
          lt' (up2 y21 15 x9.toNatClampNeg (-9)) fun y23 =>
          lt' (x9 + 1) fun x25 =>
          g12 x25 y23) fu 0 y4
    else
      ck x3 8 <|
      lt' (up2 y4 8 x3.toNatClampNeg 0) fun y26 =>
      ck x3 8 <|
      lt' (up2 y26 9 x3.toNatClampNeg 0) fun y28 =>
      lt' (x3 + 1) fun x30 =>
      g6 x30 y28) fu 0 y2
set_option maxHeartbeats 4000000 in
set_option maxRecDepth 100000 in
theorem tX7_begins (l : Launch) (D : va_G) (z tt : Nat → Nat) (a1 : Nat → Nat) (m1 : Mem)  (fu : Nat) (m1' : Mem) (hf : pX7_begins fu m1 = some m1') : MetV l yX7_begins wsX7_begins ({ frames := 0, cells := 0, slots := 0, locals := 0 } : Room) D z tt ([.ref (a1 0)] : List Value) (WMod z a1 m1) (WMod z a1 m1') := by
  intro sz
  refine Met.ofW (cc := cX7_begins) (maxL := 2) (ret := none) (by decide) rfl ?_
  intro p e s m args below meth c s₁ B hml hv
  obtain ⟨rfl, hsz, hP, hK, hD0, hT, hN⟩ := hv
  have hx := B.exec
  have hb := B.bytes
  have hr := B.returns
  have hts : ∀ w ∈ wsA, w.before ([.ref (a1 0)] : List Value).toArray s = true := fun w h => atoms_spec (ws := wsX7_begins) B.pre w (List.mem_cons_of_mem _ h)
  have hown : s.vm.findClass RX7 = some m.cls := findClass_of_methodNamed B.named
  have hlocks := B.notSynchronized
  subst hsz
  have hD := hD0.self (sz := s.heap.size)
  generalize hAe : va_A (WMod z a1 m1) s.heap.size = A at hD hT ⊢
  have hA : ∀ q : Nat, s.heap.size ≤ q → A q := fun q h => by rw [← hAe]; exact Or.inr h
  have hS : va_S A s.heap s.heap [] := va_S.rf
  have hl := lv_entry ([.ref (a1 0)] : List Value) (n := 2) (Nat.le_of_ble_eq_true rfl)
  rw [lg_entry_eq]
  generalize (lg_sl ([.ref (a1 0)] : List Value) ++ List.replicate (2 - (lg_sl ([.ref (a1 0)] : List Value)).length) Slot.unset).toArray = ls at hl ⊢
  have hl : lv_has ls 2 [(0, .ref (a1 0))] := hl
  unfold pX7_begins at hf
  refine lv_aload_n hx hb dX7_begins_0 rfl (lv_at hl 0 rfl) ?_
  refine lv_iconst (v := 0) hx hb dX7_begins_1 (by decide) ?_
  refine z_put (ci := 7) (v := .int 0) (ty := .int) (C := RX7) (T := TX7) (N := 33) hx hb hts iX7 tyX7 tyX7_ok nmX7 hown hK hP hD hS 0 rfl rfl 16 (by decide) (hts _ aw752) (fun _ h9 => h9) rfl (by decide +kernel) rfl rfl (Nat.le_of_ble_eq_true rfl) dX7_begins_2 (fun (w9 : Mem) => (WMod z a1 w9)) (up2 m1 0 16 0) rfl (fun y1 ey1 H locs hP hD hS => ?_)
  have hf := lt_use ey1 hf
  refine lv_aload_n hx hb dX7_begins_5 rfl (lv_at hl 0 rfl) ?_
  refine lv_iconst (v := 0) hx hb dX7_begins_6 (by decide) ?_
  refine z_put (ci := 7) (v := .int 0) (ty := .int) (C := RX7) (T := TX7) (N := 33) hx hb hts iX7 tyX7 tyX7_ok nmX7 hown hK hP hD hS 0 rfl rfl 17 (by decide) (hts _ aw753) (fun _ h9 => h9) rfl (by decide +kernel) rfl rfl (Nat.le_of_ble_eq_true rfl) dX7_begins_7 (fun (w9 : Mem) => (WMod z a1 w9)) (up2 y1 0 17 0) rfl (fun y2 ey2 H locs hP hD hS => ?_)
  have hf := lt_use ey2 hf
  refine lv_iconst (v := 0) hx hb dX7_begins_10 (by decide) ?_
  refine lv_istore_n (lv' := [(1, .int 0), (0, .ref (a1 0))]) hx hb dX7_begins_11 rfl hl (by decide) rfl (fun ls hl => ?_)
  obtain ⟨F5, eF5, hf⟩ := zl2_use hf
  have L12_F5 : ∀ (n : Nat) (x3 : Int32) (y4 : Mem) (H : Heap) (locs : List Loc), va_P D vwCl (WMod z a1 y4) H → va_D A (WMod z a1 y4) → va_S A s.heap H locs → ∀ (ls : Array Slot), lv_has ls 2 [(0, .ref (a1 0)), (1, .int x3)] → zl2 F5 n x3 y4 = some m1' → GV p l e (headSpec wsX7_begins ({ frames := 0, cells := 0, slots := 0, locals := 0 } : Room)).room s m ([.ref (a1 0)] : List Value).toArray below meth c A D z (WMod z a1 m1') H locs (F0 m 12 ls []) := by
    intro n
    induction n with
    | zero =>
      intro x3 y4 H locs hP hD hS ls hl hf
      exact no_none hf
    | succ n ih7 =>
      intro x3 y4 H locs hP hD hS ls hl hf
      have hf := zl2_s eF5 hf
      refine lv_iload_n hx hb dX7_begins_12 rfl (lv_at hl 1 rfl) ?_
      refine lv_bipush (v := 8) hx hb dX7_begins_13 (by decide) ?_
      refine lv_icmp_ge (tgt := 38) hx hb dX7_begins_15 (by decide) (fun c8 => ?_) (fun c8 => ?_)
      · have hf := if_t c8 hf
        refine lv_iconst (v := 0) hx hb dX7_begins_38 (by decide) ?_
        refine lv_istore_n (lv' := [(1, .int 0), (0, .ref (a1 0))]) hx hb dX7_begins_39 rfl hl (by decide) rfl (fun ls hl => ?_)
        obtain ⟨F11, eF11, hf⟩ := zl2_use hf
        have L40_F11 : ∀ (n : Nat) (x9 : Int32) (y10 : Mem) (H : Heap) (locs : List Loc), va_P D vwCl (WMod z a1 y10) H → va_D A (WMod z a1 y10) → va_S A s.heap H locs → ∀ (ls : Array Slot), lv_has ls 2 [(0, .ref (a1 0)), (1, .int x9)] → zl2 F11 n x9 y10 = some m1' → GV p l e (headSpec wsX7_begins ({ frames := 0, cells := 0, slots := 0, locals := 0 } : Room)).room s m ([.ref (a1 0)] : List Value).toArray below meth c A D z (WMod z a1 m1') H locs (F0 m 40 ls []) := by
          intro n
          induction n with
          | zero =>
            intro x9 y10 H locs hP hD hS ls hl hf
            exact no_none hf
          | succ n ih13 =>
            intro x9 y10 H locs hP hD hS ls hl hf
            have hf := zl2_s eF11 hf
            refine lv_iload_n hx hb dX7_begins_40 rfl (lv_at hl 1 rfl) ?_
            refine lv_iconst (v := 2) hx hb dX7_begins_41 (by decide) ?_
            refine lv_icmp_ge (tgt := 87) hx hb dX7_begins_42 (by decide) (fun c14 => ?_) (fun c14 => ?_)
            · have hf := if_t c14 hf
              obtain rfl := so1 hf
              exact ret_v hx hb hr hlocks hK hP hD hS dX7_begins_87
            · have hf := if_f c14 hf
              refine lv_aload_n hx hb dX7_begins_45 rfl (lv_at hl 0 rfl) ?_
              refine va_get (D := D) (ci := 7) (v := .ref (a1 11)) (C := RX7) (T := TX7) (N := 33) hx hb hts iX7 hown hK hP 0 rfl rfl 10 (by decide) (hts _ aw746) (fun _ h9 => h9) rfl dX7_begins_46 ?_
              refine lv_iload_n hx hb dX7_begins_49 rfl (lv_at hl 1 rfl) ?_
              refine lv_iconst (v := 0) hx hb dX7_begins_50 (by decide) ?_
              obtain ⟨h16, hf⟩ := ck_use hf
              refine z_iast hx hb hK hP hD hS 11 rfl h16 dX7_begins_51 (fun (w9 : Mem) => (WMod z a1 w9)) (up2 y10 11 x9.toNatClampNeg 0) rfl (fun y15 ey15 H locs hP hD hS => ?_)
              have hf := lt_use ey15 hf
              refine lv_aload_n hx hb dX7_begins_52 rfl (lv_at hl 0 rfl) ?_
              refine va_get (D := D) (ci := 7) (v := .ref (a1 12)) (C := RX7) (T := TX7) (N := 33) hx hb hts iX7 hown hK hP 0 rfl rfl 11 (by decide) (hts _ aw747) (fun _ h9 => h9) rfl dX7_begins_53 ?_
              refine lv_iload_n hx hb dX7_begins_56 rfl (lv_at hl 1 rfl) ?_
              refine lv_iconst (v := 0) hx hb dX7_begins_57 (by decide) ?_
              obtain ⟨h18, hf⟩ := ck_use hf
              refine z_iast hx hb hK hP hD hS 12 rfl h18 dX7_begins_58 (fun (w9 : Mem) => (WMod z a1 w9)) (up2 y15 12 x9.toNatClampNeg 0) rfl (fun y17 ey17 H locs hP hD hS => ?_)
              have hf := lt_use ey17 hf
              refine lv_aload_n hx hb dX7_begins_59 rfl (lv_at hl 0 rfl) ?_
              refine va_get (D := D) (ci := 7) (v := .ref (a1 13)) (C := RX7) (T := TX7) (N := 33) hx hb hts iX7 hown hK hP 0 rfl rfl 12 (by decide) (hts _ aw748) (fun _ h9 => h9) rfl dX7_begins_60 ?_
              refine lv_iload_n hx hb dX7_begins_63 rfl (lv_at hl 1 rfl) ?_
              refine lv_iconst (v := 0) hx hb dX7_begins_64 (by decide) ?_
              obtain ⟨h20, hf⟩ := ck_use hf
              refine z_iast hx hb hK hP hD hS 13 rfl h20 dX7_begins_65 (fun (w9 : Mem) => (WMod z a1 w9)) (up2 y17 13 x9.toNatClampNeg 0) rfl (fun y19 ey19 H locs hP hD hS => ?_)
              have hf := lt_use ey19 hf
              refine lv_aload_n hx hb dX7_begins_66 rfl (lv_at hl 0 rfl) ?_
              refine va_get (D := D) (ci := 7) (v := .ref (a1 14)) (C := RX7) (T := TX7) (N := 33) hx hb hts iX7 hown hK hP 0 rfl rfl 13 (by decide) (hts _ aw749) (fun _ h9 => h9) rfl dX7_begins_67 ?_
              refine lv_iload_n hx hb dX7_begins_70 rfl (lv_at hl 1 rfl) ?_
              refine lv_iconst (v := 0) hx hb dX7_begins_71 (by decide) ?_
              obtain ⟨h22, hf⟩ := ck_use hf
              refine z_iast hx hb hK hP hD hS 14 rfl h22 dX7_begins_72 (fun (w9 : Mem) => (WMod z a1 w9)) (up2 y19 14 x9.toNatClampNeg 0) rfl (fun y21 ey21 H locs hP hD hS => ?_)
              have hf := lt_use ey21 hf
              refine lv_aload_n hx hb dX7_begins_73 rfl (lv_at hl 0 rfl) ?_
              refine va_get (D := D) (ci := 7) (v := .ref (a1 15)) (C := RX7) (T := TX7) (N := 33) hx hb hts iX7 hown hK hP 0 rfl rfl 14 (by decide) (hts _ aw750) (fun _ h9 => h9) rfl dX7_begins_74 ?_
              refine lv_iload_n hx hb dX7_begins_77 rfl (lv_at hl 1 rfl) ?_
              refine lv_bipush (v := (-9)) hx hb dX7_begins_78 (by decide) ?_
              obtain ⟨h24, hf⟩ := ck_use hf
              refine z_iast hx hb hK hP hD hS 15 rfl h24 dX7_begins_80 (fun (w9 : Mem) => (WMod z a1 w9)) (up2 y21 15 x9.toNatClampNeg (-9)) rfl (fun y23 ey23 H locs hP hD hS => ?_)
              have hf := lt_use ey23 hf
              obtain ⟨x25, ex25⟩ : ∃ y : Int32, y = x9 + 1 := ⟨_, rfl⟩
              have hf := lt_use ex25 hf
              refine lv_iinc (v := x25) (lv' := [(1, .int x25), (0, .ref (a1 0))]) hx hb dX7_begins_81 hl (k := 1) rfl (by rw [ex25]; rfl) (by decide) rfl (fun ls hl => ?_)
              refine lv_goto (tgt := 40) hx hb dX7_begins_84 (by decide) ?_
              exact ih13 _ _ _ _ hP hD hS _ (lv_sub hl [1, 0] rfl) hf
        exact L40_F11 fu _ _ _ _ hP hD hS _ (lv_sub hl [1, 0] rfl) hf
      · have hf := if_f c8 hf
        refine lv_aload_n hx hb dX7_begins_18 rfl (lv_at hl 0 rfl) ?_
        refine va_get (D := D) (ci := 7) (v := .ref (a1 8)) (C := RX7) (T := TX7) (N := 33) hx hb hts iX7 hown hK hP 0 rfl rfl 7 (by decide) (hts _ aw743) (fun _ h9 => h9) rfl dX7_begins_19 ?_
        refine lv_iload_n hx hb dX7_begins_22 rfl (lv_at hl 1 rfl) ?_
        refine lv_iconst (v := 0) hx hb dX7_begins_23 (by decide) ?_
        obtain ⟨h27, hf⟩ := ck_use hf
        refine z_iast hx hb hK hP hD hS 8 rfl h27 dX7_begins_24 (fun (w9 : Mem) => (WMod z a1 w9)) (up2 y4 8 x3.toNatClampNeg 0) rfl (fun y26 ey26 H locs hP hD hS => ?_)
        have hf := lt_use ey26 hf
        refine lv_aload_n hx hb dX7_begins_25 rfl (lv_at hl 0 rfl) ?_
        refine va_get (D := D) (ci := 7) (v := .ref (a1 9)) (C := RX7) (T := TX7) (N := 33) hx hb hts iX7 hown hK hP 0 rfl rfl 8 (by decide) (hts _ aw744) (fun _ h9 => h9) rfl dX7_begins_26 ?_
        refine lv_iload_n hx hb dX7_begins_29 rfl (lv_at hl 1 rfl) ?_
        refine lv_iconst (v := 0) hx hb dX7_begins_30 (by decide) ?_
        obtain ⟨h29, hf⟩ := ck_use hf
        refine z_iast hx hb hK hP hD hS 9 rfl h29 dX7_begins_31 (fun (w9 : Mem) => (WMod z a1 w9)) (up2 y26 9 x3.toNatClampNeg 0) rfl (fun y28 ey28 H locs hP hD hS => ?_)
        have hf := lt_use ey28 hf
        obtain ⟨x30, ex30⟩ : ∃ y : Int32, y = x3 + 1 := ⟨_, rfl⟩
        have hf := lt_use ex30 hf
        refine lv_iinc (v := x30) (lv' := [(1, .int x30), (0, .ref (a1 0))]) hx hb dX7_begins_32 hl (k := 1) rfl (by rw [ex30]; rfl) (by decide) rfl (fun ls hl => ?_)
        refine lv_goto (tgt := 12) hx hb dX7_begins_35 (by decide) ?_
        exact ih7 _ _ _ _ hP hD hS _ (lv_sub hl [1, 0] rfl) hf
  exact L12_F5 fu _ _ _ _ hP hD hS _ (lv_sub hl [1, 0] rfl) hf
def pX7_stateMany (fu : Nat) (m1 : Mem) (p1 : Int32) : Option Int32 :=
  zl2 (fun g4 (x1 : Int32) (x2 : Int32) =>
    if (m1 0 15) ≤ x2 then
      some x1
    else
      ck x2 8 <|
      if (m1 8 x2.toNatClampNeg) = p1 then
        lt' ((x1 + 1) : Int32) fun x11 =>
        lt' (x2 + 1) fun x12 =>
        g4 x11 x12
      else
        lt' ((x1 + 0) : Int32) fun x9 =>
        lt' (x2 + 1) fun x10 =>
        g4 x9 x10) fu 0 0
set_option maxHeartbeats 4000000 in
set_option maxRecDepth 100000 in
theorem tX7_stateMany (l : Launch) (D : va_G) (z tt : Nat → Nat) (a1 : Nat → Nat) (m1 : Mem) (p1 : Int32) (fu : Nat) (rr : Int32) (hf : pX7_stateMany fu m1 p1 = some rr) : MetI l yX7_stateMany wsX7_stateMany ({ frames := 0, cells := 0, slots := 0, locals := 0 } : Room) D z tt ([.ref (a1 0), .int p1] : List Value) (WMod z a1 m1) rr (WMod z a1 m1) := by
  intro sz
  refine Met.ofW (cc := cX7_stateMany) (maxL := 4) (ret := (some .int)) (by decide) rfl ?_
  intro p e s m args below meth c s₁ B hml hv
  obtain ⟨rfl, hsz, hP, hK, hD0, hT, hN⟩ := hv
  have hx := B.exec
  have hb := B.bytes
  have hr := B.returns
  have hts : ∀ w ∈ wsA, w.before ([.ref (a1 0), .int p1] : List Value).toArray s = true := fun w h => atoms_spec (ws := wsX7_stateMany) B.pre w (List.mem_cons_of_mem _ h)
  have hown : s.vm.findClass RX7 = some m.cls := findClass_of_methodNamed B.named
  have hlocks := B.notSynchronized
  subst hsz
  have hD := hD0.self (sz := s.heap.size)
  generalize hAe : va_A (WMod z a1 m1) s.heap.size = A at hD hT ⊢
  have hA : ∀ q : Nat, s.heap.size ≤ q → A q := fun q h => by rw [← hAe]; exact Or.inr h
  have hS : va_S A s.heap s.heap [] := va_S.rf
  have hl := lv_entry ([.ref (a1 0), .int p1] : List Value) (n := 4) (Nat.le_of_ble_eq_true rfl)
  rw [lg_entry_eq]
  generalize (lg_sl ([.ref (a1 0), .int p1] : List Value) ++ List.replicate (4 - (lg_sl ([.ref (a1 0), .int p1] : List Value)).length) Slot.unset).toArray = ls at hl ⊢
  have hl : lv_has ls 4 [(0, .ref (a1 0)), (1, .int p1)] := hl
  unfold pX7_stateMany at hf
  refine lv_iconst (v := 0) hx hb dX7_stateMany_0 (by decide) ?_
  refine lv_istore_n (lv' := [(2, .int 0), (0, .ref (a1 0)), (1, .int p1)]) hx hb dX7_stateMany_1 rfl hl (by decide) rfl (fun ls hl => ?_)
  refine lv_iconst (v := 0) hx hb dX7_stateMany_2 (by decide) ?_
  refine lv_istore_n (lv' := [(3, .int 0), (2, .int 0), (0, .ref (a1 0)), (1, .int p1)]) hx hb dX7_stateMany_3 rfl hl (by decide) rfl (fun ls hl => ?_)
  obtain ⟨F3, eF3, hf⟩ := zl2_use hf
  have L4_F3 : ∀ (n : Nat) (x1 : Int32) (x2 : Int32) (H : Heap) (locs : List Loc), va_P D vwCl (WMod z a1 m1) H → va_D A (WMod z a1 m1) → va_S A s.heap H locs → ∀ (ls : Array Slot), lv_has ls 4 [(0, .ref (a1 0)), (1, .int p1), (2, .int x1), (3, .int x2)] → zl2 F3 n x1 x2 = some rr → GI p l e (headSpec wsX7_stateMany ({ frames := 0, cells := 0, slots := 0, locals := 0 } : Room)).room s m ([.ref (a1 0), .int p1] : List Value).toArray below meth c A D z rr (WMod z a1 m1) H locs (F0 m 4 ls []) := by
    intro n
    induction n with
    | zero =>
      intro x1 x2 H locs hP hD hS ls hl hf
      exact no_none hf
    | succ n ih5 =>
      intro x1 x2 H locs hP hD hS ls hl hf
      have hf := zl2_s eF3 hf
      refine lv_iload_n hx hb dX7_stateMany_4 rfl (lv_at hl 3 rfl) ?_
      refine lv_aload_n hx hb dX7_stateMany_5 rfl (lv_at hl 0 rfl) ?_
      refine va_get (D := D) (ci := 7) (v := .int (m1 0 15)) (C := RX7) (T := TX7) (N := 33) hx hb hts iX7 hown hK hP 0 rfl rfl 15 (by decide) (hts _ aw751) (fun _ h9 => h9) rfl dX7_stateMany_6 ?_
      refine lv_icmp_ge (tgt := 36) hx hb dX7_stateMany_9 (by decide) (fun c6 => ?_) (fun c6 => ?_)
      · have hf := if_t c6 hf
        refine lv_iload_n hx hb dX7_stateMany_36 rfl (lv_at hl 2 rfl) ?_
        obtain rfl := so1 hf
        exact ret_i hx hb hr hlocks hK hP hD hS dX7_stateMany_37
      · have hf := if_f c6 hf
        refine lv_iload_n hx hb dX7_stateMany_12 rfl (lv_at hl 2 rfl) ?_
        refine lv_aload_n hx hb dX7_stateMany_13 rfl (lv_at hl 0 rfl) ?_
        refine va_get (D := D) (ci := 7) (v := .ref (a1 8)) (C := RX7) (T := TX7) (N := 33) hx hb hts iX7 hown hK hP 0 rfl rfl 7 (by decide) (hts _ aw743) (fun _ h9 => h9) rfl dX7_stateMany_14 ?_
        refine lv_iload_n hx hb dX7_stateMany_17 rfl (lv_at hl 3 rfl) ?_
        obtain ⟨h7, hf⟩ := ck_use hf
        refine z_iald hx hb hK hP 8 rfl h7 dX7_stateMany_18 ?_
        refine lv_iload_n hx hb dX7_stateMany_19 rfl (lv_at hl 1 rfl) ?_
        refine lv_icmp_ne (tgt := 27) hx hb dX7_stateMany_20 (by decide) (fun c8 => ?_) (fun c8 => ?_)
        · have hf := if_f c8 hf
          refine lv_iconst (v := 0) hx hb dX7_stateMany_27 (by decide) ?_
          refine lv_iadd hx hb dX7_stateMany_28 ?_
          refine lv_topi (fun x9 ex9 => ?_)
          have hf := lt_use ex9 hf
          refine lv_istore_n (lv' := [(2, .int x9), (0, .ref (a1 0)), (1, .int p1), (3, .int x2)]) hx hb dX7_stateMany_29 rfl hl (by decide) rfl (fun ls hl => ?_)
          obtain ⟨x10, ex10⟩ : ∃ y : Int32, y = x2 + 1 := ⟨_, rfl⟩
          have hf := lt_use ex10 hf
          refine lv_iinc (v := x10) (lv' := [(3, .int x10), (2, .int x9), (0, .ref (a1 0)), (1, .int p1)]) hx hb dX7_stateMany_30 hl (k := 3) rfl (by rw [ex10]; rfl) (by decide) rfl (fun ls hl => ?_)
          refine lv_goto (tgt := 4) hx hb dX7_stateMany_33 (by decide) ?_
          exact ih5 _ _ _ _ hP hD hS _ (lv_sub hl [2, 3, 1, 0] rfl) hf
        · have hf := if_t c8 hf
          refine lv_iconst (v := 1) hx hb dX7_stateMany_23 (by decide) ?_
          refine lv_goto (tgt := 28) hx hb dX7_stateMany_24 (by decide) ?_
          refine lv_iadd hx hb dX7_stateMany_28 ?_
          refine lv_topi (fun x11 ex11 => ?_)
          have hf := lt_use ex11 hf
          refine lv_istore_n (lv' := [(2, .int x11), (0, .ref (a1 0)), (1, .int p1), (3, .int x2)]) hx hb dX7_stateMany_29 rfl hl (by decide) rfl (fun ls hl => ?_)
          obtain ⟨x12, ex12⟩ : ∃ y : Int32, y = x2 + 1 := ⟨_, rfl⟩
          have hf := lt_use ex12 hf
          refine lv_iinc (v := x12) (lv' := [(3, .int x12), (2, .int x11), (0, .ref (a1 0)), (1, .int p1)]) hx hb dX7_stateMany_30 hl (k := 3) rfl (by rw [ex12]; rfl) (by decide) rfl (fun ls hl => ?_)
          refine lv_goto (tgt := 4) hx hb dX7_stateMany_33 (by decide) ?_
          exact ih5 _ _ _ _ hP hD hS _ (lv_sub hl [2, 3, 1, 0] rfl) hf
  exact L4_F3 fu _ _ _ _ hP hD hS _ (lv_sub hl [2, 3, 1, 0] rfl) hf
def pX7_waitedAll (fu : Nat) (m1 : Mem) : Option Int32 :=
  zl2 (fun g4 (x1 : Int32) (x2 : Int32) =>
    if (m1 0 15) ≤ x2 then
      some x1
    else
      ck x2 8 <|
      lt' ((x1 + (m1 9 x2.toNatClampNeg)) : Int32) fun x8 =>
      lt' (x2 + 1) fun x9 =>
      g4 x8 x9) fu 0 0
set_option maxHeartbeats 4000000 in
set_option maxRecDepth 100000 in
theorem tX7_waitedAll (l : Launch) (D : va_G) (z tt : Nat → Nat) (a1 : Nat → Nat) (m1 : Mem)  (fu : Nat) (rr : Int32) (hf : pX7_waitedAll fu m1 = some rr) : MetI l yX7_waitedAll wsX7_waitedAll ({ frames := 0, cells := 0, slots := 0, locals := 0 } : Room) D z tt ([.ref (a1 0)] : List Value) (WMod z a1 m1) rr (WMod z a1 m1) := by
  intro sz
  refine Met.ofW (cc := cX7_waitedAll) (maxL := 3) (ret := (some .int)) (by decide) rfl ?_
  intro p e s m args below meth c s₁ B hml hv
  obtain ⟨rfl, hsz, hP, hK, hD0, hT, hN⟩ := hv
  have hx := B.exec
  have hb := B.bytes
  have hr := B.returns
  have hts : ∀ w ∈ wsA, w.before ([.ref (a1 0)] : List Value).toArray s = true := fun w h => atoms_spec (ws := wsX7_waitedAll) B.pre w (List.mem_cons_of_mem _ h)
  have hown : s.vm.findClass RX7 = some m.cls := findClass_of_methodNamed B.named
  have hlocks := B.notSynchronized
  subst hsz
  have hD := hD0.self (sz := s.heap.size)
  generalize hAe : va_A (WMod z a1 m1) s.heap.size = A at hD hT ⊢
  have hA : ∀ q : Nat, s.heap.size ≤ q → A q := fun q h => by rw [← hAe]; exact Or.inr h
  have hS : va_S A s.heap s.heap [] := va_S.rf
  have hl := lv_entry ([.ref (a1 0)] : List Value) (n := 3) (Nat.le_of_ble_eq_true rfl)
  rw [lg_entry_eq]
  generalize (lg_sl ([.ref (a1 0)] : List Value) ++ List.replicate (3 - (lg_sl ([.ref (a1 0)] : List Value)).length) Slot.unset).toArray = ls at hl ⊢
  have hl : lv_has ls 3 [(0, .ref (a1 0))] := hl
  unfold pX7_waitedAll at hf
  refine lv_iconst (v := 0) hx hb dX7_waitedAll_0 (by decide) ?_
  refine lv_istore_n (lv' := [(1, .int 0), (0, .ref (a1 0))]) hx hb dX7_waitedAll_1 rfl hl (by decide) rfl (fun ls hl => ?_)
  refine lv_iconst (v := 0) hx hb dX7_waitedAll_2 (by decide) ?_
  refine lv_istore_n (lv' := [(2, .int 0), (1, .int 0), (0, .ref (a1 0))]) hx hb dX7_waitedAll_3 rfl hl (by decide) rfl (fun ls hl => ?_)
  obtain ⟨F3, eF3, hf⟩ := zl2_use hf
  have L4_F3 : ∀ (n : Nat) (x1 : Int32) (x2 : Int32) (H : Heap) (locs : List Loc), va_P D vwCl (WMod z a1 m1) H → va_D A (WMod z a1 m1) → va_S A s.heap H locs → ∀ (ls : Array Slot), lv_has ls 3 [(0, .ref (a1 0)), (1, .int x1), (2, .int x2)] → zl2 F3 n x1 x2 = some rr → GI p l e (headSpec wsX7_waitedAll ({ frames := 0, cells := 0, slots := 0, locals := 0 } : Room)).room s m ([.ref (a1 0)] : List Value).toArray below meth c A D z rr (WMod z a1 m1) H locs (F0 m 4 ls []) := by
    intro n
    induction n with
    | zero =>
      intro x1 x2 H locs hP hD hS ls hl hf
      exact no_none hf
    | succ n ih5 =>
      intro x1 x2 H locs hP hD hS ls hl hf
      have hf := zl2_s eF3 hf
      refine lv_iload_n hx hb dX7_waitedAll_4 rfl (lv_at hl 2 rfl) ?_
      refine lv_aload_n hx hb dX7_waitedAll_5 rfl (lv_at hl 0 rfl) ?_
      refine va_get (D := D) (ci := 7) (v := .int (m1 0 15)) (C := RX7) (T := TX7) (N := 33) hx hb hts iX7 hown hK hP 0 rfl rfl 15 (by decide) (hts _ aw751) (fun _ h9 => h9) rfl dX7_waitedAll_6 ?_
      refine lv_icmp_ge (tgt := 27) hx hb dX7_waitedAll_9 (by decide) (fun c6 => ?_) (fun c6 => ?_)
      · have hf := if_t c6 hf
        refine lv_iload_n hx hb dX7_waitedAll_27 rfl (lv_at hl 1 rfl) ?_
        obtain rfl := so1 hf
        exact ret_i hx hb hr hlocks hK hP hD hS dX7_waitedAll_28
      · have hf := if_f c6 hf
        refine lv_iload_n hx hb dX7_waitedAll_12 rfl (lv_at hl 1 rfl) ?_
        refine lv_aload_n hx hb dX7_waitedAll_13 rfl (lv_at hl 0 rfl) ?_
        refine va_get (D := D) (ci := 7) (v := .ref (a1 9)) (C := RX7) (T := TX7) (N := 33) hx hb hts iX7 hown hK hP 0 rfl rfl 8 (by decide) (hts _ aw744) (fun _ h9 => h9) rfl dX7_waitedAll_14 ?_
        refine lv_iload_n hx hb dX7_waitedAll_17 rfl (lv_at hl 2 rfl) ?_
        obtain ⟨h7, hf⟩ := ck_use hf
        refine z_iald hx hb hK hP 9 rfl h7 dX7_waitedAll_18 ?_
        refine lv_iadd hx hb dX7_waitedAll_19 ?_
        refine lv_topi (fun x8 ex8 => ?_)
        have hf := lt_use ex8 hf
        refine lv_istore_n (lv' := [(1, .int x8), (0, .ref (a1 0)), (2, .int x2)]) hx hb dX7_waitedAll_20 rfl hl (by decide) rfl (fun ls hl => ?_)
        obtain ⟨x9, ex9⟩ : ∃ y : Int32, y = x2 + 1 := ⟨_, rfl⟩
        have hf := lt_use ex9 hf
        refine lv_iinc (v := x9) (lv' := [(2, .int x9), (1, .int x8), (0, .ref (a1 0))]) hx hb dX7_waitedAll_21 hl (k := 2) rfl (by rw [ex9]; rfl) (by decide) rfl (fun ls hl => ?_)
        refine lv_goto (tgt := 4) hx hb dX7_waitedAll_24 (by decide) ?_
        exact ih5 _ _ _ _ hP hD hS _ (lv_sub hl [2, 1, 0] rfl) hf
  exact L4_F3 fu _ _ _ _ hP hD hS _ (lv_sub hl [2, 1, 0] rfl) hf
def pX7_costNow (fu : Nat) (m1 : Mem) : Option Int32 :=
  bd (pX7_waitedAll fu m1) fun r1 =>
  bd (pX7_stateMany fu m1 3) fun r3 =>
  some (((r1 * (m1 2 4)) + (((m1 11 0) + (m1 11 1)) * (m1 2 5))) + (9 * r3))
set_option maxHeartbeats 4000000 in
set_option maxRecDepth 100000 in
theorem tX7_costNow (l : Launch) (D : va_G) (z tt : Nat → Nat) (a1 : Nat → Nat) (m1 : Mem)  (fu : Nat) (rr : Int32) (hf : pX7_costNow fu m1 = some rr) : MetI l yX7_costNow wsX7_costNow ({ frames := 1, cells := 0, slots := 0, locals := 23 } : Room) D z tt ([.ref (a1 0)] : List Value) (WMod z a1 m1) rr (WMod z a1 m1) := by
  intro sz
  refine Met.ofW (cc := cX7_costNow) (maxL := 1) (ret := (some .int)) (by decide) rfl ?_
  intro p e s m args below meth c s₁ B hml hv
  obtain ⟨rfl, hsz, hP, hK, hD0, hT, hN⟩ := hv
  have hx := B.exec
  have hb := B.bytes
  have hr := B.returns
  have hts : ∀ w ∈ wsA, w.before ([.ref (a1 0)] : List Value).toArray s = true := fun w h => atoms_spec (ws := wsX7_costNow) B.pre w (List.mem_cons_of_mem _ h)
  have hown : s.vm.findClass RX7 = some m.cls := findClass_of_methodNamed B.named
  have hlocks := B.notSynchronized
  subst hsz
  have hD := hD0.self (sz := s.heap.size)
  generalize hAe : va_A (WMod z a1 m1) s.heap.size = A at hD hT ⊢
  have hA : ∀ q : Nat, s.heap.size ≤ q → A q := fun q h => by rw [← hAe]; exact Or.inr h
  have hS : va_S A s.heap s.heap [] := va_S.rf
  have hl := lv_entry ([.ref (a1 0)] : List Value) (n := 1) (Nat.le_of_ble_eq_true rfl)
  rw [lg_entry_eq]
  generalize (lg_sl ([.ref (a1 0)] : List Value) ++ List.replicate (1 - (lg_sl ([.ref (a1 0)] : List Value)).length) Slot.unset).toArray = ls at hl ⊢
  have hl : lv_has ls 1 [(0, .ref (a1 0))] := hl
  unfold pX7_costNow at hf
  refine lv_aload_n hx hb dX7_costNow_0 rfl (lv_at hl 0 rfl) ?_
  obtain ⟨r1, q2, hf⟩ := bd_use hf
  have hfo : Foc (WMod z a1 m1) (WMod z a1 m1) (WMod z a1 m1) (WMod z a1 m1) := foc_all
  refine z_goI (ws1 := (WMod z a1 m1)) (va_runV (As := []) (rest := []) ⟨hx, hb, hml, hown, hts⟩ (tX7_waitedAll l D z tt a1 m1  fu r1 q2 _) (cwV 0 hts (gV4 aw1012 aw1014 aw30 aw52 aw1015) rfl rfl rfl (by decide +kernel) ⟨Nat.le_of_ble_eq_true rfl, Nat.le_of_ble_eq_true rfl⟩) (z_preV hK hP hD hS hA hT hN hfo (va_recv hK hP (ci := 7) (q0 := 0) rfl rfl)) rfl rfl hl.1 rfl (lv_room (Nat.le_of_ble_eq_true rfl)) dX7_costNow_1 ⟨Nat.zero_le _, Nat.zero_le _⟩) hP hD hS hA hfo (fun H locs hP hD hS => ?_)
  refine lv_aload_n hx hb dX7_costNow_4 rfl (lv_at hl 0 rfl) ?_
  refine va_get (D := D) (ci := 7) (v := .ref (a1 2)) (C := RX7) (T := TX7) (N := 33) hx hb hts iX7 hown hK hP 0 rfl rfl 1 (by decide) (hts _ aw737) (fun _ h9 => h9) rfl dX7_costNow_5 ?_
  refine lv_iconst (v := 4) hx hb dX7_costNow_8 (by decide) ?_
  refine z_ialdc hx hb hK hP 2 rfl (i := 4) (k := 4) (by decide) (Nat.le_of_ble_eq_true rfl) dX7_costNow_9 ?_
  refine lv_imul hx hb dX7_costNow_10 ?_
  refine lv_aload_n hx hb dX7_costNow_11 rfl (lv_at hl 0 rfl) ?_
  refine va_get (D := D) (ci := 7) (v := .ref (a1 11)) (C := RX7) (T := TX7) (N := 33) hx hb hts iX7 hown hK hP 0 rfl rfl 10 (by decide) (hts _ aw746) (fun _ h9 => h9) rfl dX7_costNow_12 ?_
  refine lv_iconst (v := 0) hx hb dX7_costNow_15 (by decide) ?_
  refine z_ialdc hx hb hK hP 11 rfl (i := 0) (k := 0) (by decide) (Nat.le_of_ble_eq_true rfl) dX7_costNow_16 ?_
  refine lv_aload_n hx hb dX7_costNow_17 rfl (lv_at hl 0 rfl) ?_
  refine va_get (D := D) (ci := 7) (v := .ref (a1 11)) (C := RX7) (T := TX7) (N := 33) hx hb hts iX7 hown hK hP 0 rfl rfl 10 (by decide) (hts _ aw746) (fun _ h9 => h9) rfl dX7_costNow_18 ?_
  refine lv_iconst (v := 1) hx hb dX7_costNow_21 (by decide) ?_
  refine z_ialdc hx hb hK hP 11 rfl (i := 1) (k := 1) (by decide) (Nat.le_of_ble_eq_true rfl) dX7_costNow_22 ?_
  refine lv_iadd hx hb dX7_costNow_23 ?_
  refine lv_aload_n hx hb dX7_costNow_24 rfl (lv_at hl 0 rfl) ?_
  refine va_get (D := D) (ci := 7) (v := .ref (a1 2)) (C := RX7) (T := TX7) (N := 33) hx hb hts iX7 hown hK hP 0 rfl rfl 1 (by decide) (hts _ aw737) (fun _ h9 => h9) rfl dX7_costNow_25 ?_
  refine lv_iconst (v := 5) hx hb dX7_costNow_28 (by decide) ?_
  refine z_ialdc hx hb hK hP 2 rfl (i := 5) (k := 5) (by decide) (Nat.le_of_ble_eq_true rfl) dX7_costNow_29 ?_
  refine lv_imul hx hb dX7_costNow_30 ?_
  refine lv_iadd hx hb dX7_costNow_31 ?_
  refine lv_bipush (v := 9) hx hb dX7_costNow_32 (by decide) ?_
  refine lv_aload_n hx hb dX7_costNow_34 rfl (lv_at hl 0 rfl) ?_
  refine lv_iconst (v := 3) hx hb dX7_costNow_35 (by decide) ?_
  obtain ⟨r3, q4, hf⟩ := bd_use hf
  have hfo : Foc (WMod z a1 m1) (WMod z a1 m1) (WMod z a1 m1) (WMod z a1 m1) := foc_all
  refine z_goI (ws1 := (WMod z a1 m1)) (va_runV (As := [.int 3]) (rest := [.int 9, .int ((r1 * (m1 2 4)) + (((m1 11 0) + (m1 11 1)) * (m1 2 5)))]) ⟨hx, hb, hml, hown, hts⟩ (tX7_stateMany l D z tt a1 m1 3 fu r3 q4 _) (cwV 1 hts (gV4 aw1016 aw1018 aw31 aw52 aw1019) rfl rfl rfl (by decide +kernel) ⟨Nat.le_of_ble_eq_true rfl, Nat.le_of_ble_eq_true rfl⟩) (z_preV hK hP hD hS hA hT hN hfo (va_recv hK hP (ci := 7) (q0 := 0) rfl rfl)) rfl rfl hl.1 rfl (lv_room (Nat.le_of_ble_eq_true rfl)) dX7_costNow_36 ⟨Nat.zero_le _, Nat.zero_le _⟩) hP hD hS hA hfo (fun H locs hP hD hS => ?_)
  refine lv_imul hx hb dX7_costNow_39 ?_
  refine lv_iadd hx hb dX7_costNow_40 ?_
  obtain rfl := so1 hf
  exact ret_i hx hb hr hlocks hK hP hD hS dX7_costNow_41
