def pX4_append (fu : Nat) (m1 : Mem) (p1 : Int32) : Option (Int32 × Mem) :=
  if 96 ≤ (m1 0 1) then
    some ((m1 0 1), m1)
  else
    ck (m1 0 1) 96 <|
    lt' (up2 m1 1 (m1 0 1).toNatClampNeg p1) fun y2 =>
    lt' (up2 y2 0 1 ((y2 0 1) + 1)) fun y4 =>
    some ((y4 0 1), y4)
set_option maxHeartbeats 4000000 in
set_option maxRecDepth 100000 in
theorem tX4_append (l : Launch) (D : va_G) (z tt : Nat → Nat) (a1 : Nat → Nat) (m1 : Mem) (p1 : Int32) (fu : Nat) (rr : Int32) (m1' : Mem) (hf : pX4_append fu m1 p1 = some (rr, m1')) : MetI l yX4_append wsX4_append ({ frames := 0, cells := 0, slots := 0, locals := 0 } : Room) D z tt ([.ref (a1 0), .int p1] : List Value) (WLet z a1 m1) rr (WLet z a1 m1') := by
  intro sz
  refine Met.ofW (cc := cX4_append) (maxL := 2) (ret := (some .int)) (by decide) rfl ?_
  intro p e s m args below meth c s₁ B hml hv
  obtain ⟨rfl, hsz, hP, hK, hD0, hT, hN⟩ := hv
  have hx := B.exec
  have hb := B.bytes
  have hr := B.returns
  have hts : ∀ w ∈ wsA, w.before ([.ref (a1 0), .int p1] : List Value).toArray s = true := fun w h => atoms_spec (ws := wsX4_append) B.pre w (List.mem_cons_of_mem _ h)
  have hown : s.vm.findClass RX4 = some m.cls := findClass_of_methodNamed B.named
  have hlocks := B.notSynchronized
  subst hsz
  have hD := hD0.self (sz := s.heap.size)
  generalize hAe : va_A (WLet z a1 m1) s.heap.size = A at hD hT ⊢
  have hA : ∀ q : Nat, s.heap.size ≤ q → A q := fun q h => by rw [← hAe]; exact Or.inr h
  have hS : va_S A s.heap s.heap [] := va_S.rf
  have hl := lv_entry ([.ref (a1 0), .int p1] : List Value) (n := 2) (Nat.le_of_ble_eq_true rfl)
  rw [lg_entry_eq]
  generalize (lg_sl ([.ref (a1 0), .int p1] : List Value) ++ List.replicate (2 - (lg_sl ([.ref (a1 0), .int p1] : List Value)).length) Slot.unset).toArray = ls at hl ⊢
  have hl : lv_has ls 2 [(0, .ref (a1 0)), (1, .int p1)] := hl
  unfold pX4_append at hf
  refine lv_aload_n hx hb dX4_append_0 rfl (lv_at hl 0 rfl) ?_
  refine va_get (D := D) (ci := 4) (v := .int (m1 0 1)) (C := RX4) (T := TX4) (N := 3) hx hb hts iX4 hown hK hP 0 rfl rfl 1 (by decide) (hts _ aw230) (fun _ h9 => h9) rfl dX4_append_1 ?_
  refine lv_aload_n hx hb dX4_append_4 rfl (lv_at hl 0 rfl) ?_
  refine va_get (D := D) (ci := 4) (v := .ref (a1 1)) (C := RX4) (T := TX4) (N := 3) hx hb hts iX4 hown hK hP 0 rfl rfl 0 (by decide) (hts _ aw229) (fun _ h9 => h9) rfl dX4_append_5 ?_
  refine z_alen hx hb hK hP 1 0 rfl rfl (v := 96) rfl dX4_append_8 ?_
  refine lv_icmp_ge (tgt := 32) hx hb dX4_append_9 (by decide) (fun c1 => ?_) (fun c1 => ?_)
  · have hf := if_t c1 hf
    refine lv_aload_n hx hb dX4_append_32 rfl (lv_at hl 0 rfl) ?_
    refine va_get (D := D) (ci := 4) (v := .int (m1 0 1)) (C := RX4) (T := TX4) (N := 3) hx hb hts iX4 hown hK hP 0 rfl rfl 1 (by decide) (hts _ aw230) (fun _ h9 => h9) rfl dX4_append_33 ?_
    obtain ⟨rfl, rfl⟩ := so2 hf
    exact ret_i hx hb hr hlocks hK hP hD hS dX4_append_36
  · have hf := if_f c1 hf
    refine lv_aload_n hx hb dX4_append_12 rfl (lv_at hl 0 rfl) ?_
    refine va_get (D := D) (ci := 4) (v := .ref (a1 1)) (C := RX4) (T := TX4) (N := 3) hx hb hts iX4 hown hK hP 0 rfl rfl 0 (by decide) (hts _ aw229) (fun _ h9 => h9) rfl dX4_append_13 ?_
    refine lv_aload_n hx hb dX4_append_16 rfl (lv_at hl 0 rfl) ?_
    refine va_get (D := D) (ci := 4) (v := .int (m1 0 1)) (C := RX4) (T := TX4) (N := 3) hx hb hts iX4 hown hK hP 0 rfl rfl 1 (by decide) (hts _ aw230) (fun _ h9 => h9) rfl dX4_append_17 ?_
    refine lv_iload_n hx hb dX4_append_20 rfl (lv_at hl 1 rfl) ?_
    obtain ⟨h3, hf⟩ := ck_use hf
    refine z_iast hx hb hK hP hD hS 1 rfl h3 dX4_append_21 (fun (w9 : Mem) => (WLet z a1 w9)) (up2 m1 1 (m1 0 1).toNatClampNeg p1) rfl (fun y2 ey2 H locs hP hD hS => ?_)
    have hf := lt_use ey2 hf
    refine lv_aload_n hx hb dX4_append_22 rfl (lv_at hl 0 rfl) ?_
    refine lv_dup hx hb dX4_append_23 rfl ?_
    refine va_get (D := D) (ci := 4) (v := .int (y2 0 1)) (C := RX4) (T := TX4) (N := 3) hx hb hts iX4 hown hK hP 0 rfl rfl 1 (by decide) (hts _ aw230) (fun _ h9 => h9) rfl dX4_append_24 ?_
    refine lv_iconst (v := 1) hx hb dX4_append_27 (by decide) ?_
    refine lv_iadd hx hb dX4_append_28 ?_
    refine z_put (ci := 4) (v := .int ((y2 0 1) + 1)) (ty := .int) (C := RX4) (T := TX4) (N := 3) hx hb hts iX4 tyX4 tyX4_ok nmX4 hown hK hP hD hS 0 rfl rfl 1 (by decide) (hts _ aw230) (fun _ h9 => h9) rfl (by decide +kernel) rfl rfl (Nat.le_of_ble_eq_true rfl) dX4_append_29 (fun (w9 : Mem) => (WLet z a1 w9)) (up2 y2 0 1 ((y2 0 1) + 1)) rfl (fun y4 ey4 H locs hP hD hS => ?_)
    have hf := lt_use ey4 hf
    refine lv_aload_n hx hb dX4_append_32 rfl (lv_at hl 0 rfl) ?_
    refine va_get (D := D) (ci := 4) (v := .int (y4 0 1)) (C := RX4) (T := TX4) (N := 3) hx hb hts iX4 hown hK hP 0 rfl rfl 1 (by decide) (hts _ aw230) (fun _ h9 => h9) rfl dX4_append_33 ?_
    obtain ⟨rfl, rfl⟩ := so2 hf
    exact ret_i hx hb hr hlocks hK hP hD hS dX4_append_36
def pX4_letterAt (fu : Nat) (m1 : Mem) (p1 : Int32) : Option Int32 :=
  if p1 < 0 then
    some (-9)
  else
    if (m1 0 1) ≤ p1 then
      some (-9)
    else
      if 96 ≤ p1 then
        some (-9)
      else
        ck p1 96 <|
        some (m1 1 p1.toNatClampNeg)
set_option maxHeartbeats 4000000 in
set_option maxRecDepth 100000 in
theorem tX4_letterAt (l : Launch) (D : va_G) (z tt : Nat → Nat) (a1 : Nat → Nat) (m1 : Mem) (p1 : Int32) (fu : Nat) (rr : Int32) (hf : pX4_letterAt fu m1 p1 = some rr) : MetI l yX4_letterAt wsX4_letterAt ({ frames := 0, cells := 0, slots := 0, locals := 0 } : Room) D z tt ([.ref (a1 0), .int p1] : List Value) (WLet z a1 m1) rr (WLet z a1 m1) := by
  intro sz
  refine Met.ofW (cc := cX4_letterAt) (maxL := 2) (ret := (some .int)) (by decide) rfl ?_
  intro p e s m args below meth c s₁ B hml hv
  obtain ⟨rfl, hsz, hP, hK, hD0, hT, hN⟩ := hv
  have hx := B.exec
  have hb := B.bytes
  have hr := B.returns
  have hts : ∀ w ∈ wsA, w.before ([.ref (a1 0), .int p1] : List Value).toArray s = true := fun w h => atoms_spec (ws := wsX4_letterAt) B.pre w (List.mem_cons_of_mem _ h)
  have hown : s.vm.findClass RX4 = some m.cls := findClass_of_methodNamed B.named
  have hlocks := B.notSynchronized
  subst hsz
  have hD := hD0.self (sz := s.heap.size)
  generalize hAe : va_A (WLet z a1 m1) s.heap.size = A at hD hT ⊢
  have hA : ∀ q : Nat, s.heap.size ≤ q → A q := fun q h => by rw [← hAe]; exact Or.inr h
  have hS : va_S A s.heap s.heap [] := va_S.rf
  have hl := lv_entry ([.ref (a1 0), .int p1] : List Value) (n := 2) (Nat.le_of_ble_eq_true rfl)
  rw [lg_entry_eq]
  generalize (lg_sl ([.ref (a1 0), .int p1] : List Value) ++ List.replicate (2 - (lg_sl ([.ref (a1 0), .int p1] : List Value)).length) Slot.unset).toArray = ls at hl ⊢
  have hl : lv_has ls 2 [(0, .ref (a1 0)), (1, .int p1)] := hl
  unfold pX4_letterAt at hf
  refine lv_iload_n hx hb dX4_letterAt_0 rfl (lv_at hl 1 rfl) ?_
  refine lv_if_lt (tgt := 30) hx hb dX4_letterAt_1 (by decide) (fun c1 => ?_) (fun c1 => ?_)
  · have hf := if_t c1 hf
    refine lv_bipush (v := (-9)) hx hb dX4_letterAt_30 (by decide) ?_
    obtain rfl := so1 hf
    exact ret_i hx hb hr hlocks hK hP hD hS dX4_letterAt_32
  · have hf := if_f c1 hf
    refine lv_iload_n hx hb dX4_letterAt_4 rfl (lv_at hl 1 rfl) ?_
    refine lv_aload_n hx hb dX4_letterAt_5 rfl (lv_at hl 0 rfl) ?_
    refine va_get (D := D) (ci := 4) (v := .int (m1 0 1)) (C := RX4) (T := TX4) (N := 3) hx hb hts iX4 hown hK hP 0 rfl rfl 1 (by decide) (hts _ aw230) (fun _ h9 => h9) rfl dX4_letterAt_6 ?_
    refine lv_icmp_ge (tgt := 30) hx hb dX4_letterAt_9 (by decide) (fun c2 => ?_) (fun c2 => ?_)
    · have hf := if_t c2 hf
      refine lv_bipush (v := (-9)) hx hb dX4_letterAt_30 (by decide) ?_
      obtain rfl := so1 hf
      exact ret_i hx hb hr hlocks hK hP hD hS dX4_letterAt_32
    · have hf := if_f c2 hf
      refine lv_iload_n hx hb dX4_letterAt_12 rfl (lv_at hl 1 rfl) ?_
      refine lv_aload_n hx hb dX4_letterAt_13 rfl (lv_at hl 0 rfl) ?_
      refine va_get (D := D) (ci := 4) (v := .ref (a1 1)) (C := RX4) (T := TX4) (N := 3) hx hb hts iX4 hown hK hP 0 rfl rfl 0 (by decide) (hts _ aw229) (fun _ h9 => h9) rfl dX4_letterAt_14 ?_
      refine z_alen hx hb hK hP 1 0 rfl rfl (v := 96) rfl dX4_letterAt_17 ?_
      refine lv_icmp_ge (tgt := 30) hx hb dX4_letterAt_18 (by decide) (fun c3 => ?_) (fun c3 => ?_)
      · have hf := if_t c3 hf
        refine lv_bipush (v := (-9)) hx hb dX4_letterAt_30 (by decide) ?_
        obtain rfl := so1 hf
        exact ret_i hx hb hr hlocks hK hP hD hS dX4_letterAt_32
      · have hf := if_f c3 hf
        refine lv_aload_n hx hb dX4_letterAt_21 rfl (lv_at hl 0 rfl) ?_
        refine va_get (D := D) (ci := 4) (v := .ref (a1 1)) (C := RX4) (T := TX4) (N := 3) hx hb hts iX4 hown hK hP 0 rfl rfl 0 (by decide) (hts _ aw229) (fun _ h9 => h9) rfl dX4_letterAt_22 ?_
        refine lv_iload_n hx hb dX4_letterAt_25 rfl (lv_at hl 1 rfl) ?_
        obtain ⟨h4, hf⟩ := ck_use hf
        refine z_iald hx hb hK hP 1 rfl h4 dX4_letterAt_26 ?_
        refine lv_goto (tgt := 32) hx hb dX4_letterAt_27 (by decide) ?_
        obtain rfl := so1 hf
        exact ret_i hx hb hr hlocks hK hP hD hS dX4_letterAt_32
def pX4_skip (fu : Nat) (m1 : Mem) (p1 : Int32) : Option (Int32 × Mem) :=
  bd (pX4_letterAt fu m1 (m1 0 2)) fun r1 =>
  jn1 (fun (x3 : Int32) =>
    if x3 = 0 then
      lt' (up2 m1 0 2 ((m1 0 2) + 0)) fun y6 =>
      ckz x3 <| some (x3, y6)
    else
      lt' (up2 m1 0 2 ((m1 0 2) + 1)) fun y8 =>
      ckz x3 <| some (x3, y8)) fun k4 =>
  if r1 = p1 then
    k4 1
  else
    k4 0
set_option maxHeartbeats 4000000 in
set_option maxRecDepth 100000 in
theorem tX4_skip (l : Launch) (D : va_G) (z tt : Nat → Nat) (a1 : Nat → Nat) (m1 : Mem) (p1 : Int32) (fu : Nat) (rr : Int32) (m1' : Mem) (hf : pX4_skip fu m1 p1 = some (rr, m1')) : MetI l yX4_skip wsX4_skip ({ frames := 1, cells := 0, slots := 0, locals := 21 } : Room) D z tt ([.ref (a1 0), .int p1] : List Value) (WLet z a1 m1) rr (WLet z a1 m1') := by
  intro sz
  refine Met.ofW (cc := cX4_skip) (maxL := 3) (ret := (some .boolean)) (by decide) rfl ?_
  intro p e s m args below meth c s₁ B hml hv
  obtain ⟨rfl, hsz, hP, hK, hD0, hT, hN⟩ := hv
  have hx := B.exec
  have hb := B.bytes
  have hr := B.returns
  have hts : ∀ w ∈ wsA, w.before ([.ref (a1 0), .int p1] : List Value).toArray s = true := fun w h => atoms_spec (ws := wsX4_skip) B.pre w (List.mem_cons_of_mem _ h)
  have hown : s.vm.findClass RX4 = some m.cls := findClass_of_methodNamed B.named
  have hlocks := B.notSynchronized
  subst hsz
  have hD := hD0.self (sz := s.heap.size)
  generalize hAe : va_A (WLet z a1 m1) s.heap.size = A at hD hT ⊢
  have hA : ∀ q : Nat, s.heap.size ≤ q → A q := fun q h => by rw [← hAe]; exact Or.inr h
  have hS : va_S A s.heap s.heap [] := va_S.rf
  have hl := lv_entry ([.ref (a1 0), .int p1] : List Value) (n := 3) (Nat.le_of_ble_eq_true rfl)
  rw [lg_entry_eq]
  generalize (lg_sl ([.ref (a1 0), .int p1] : List Value) ++ List.replicate (3 - (lg_sl ([.ref (a1 0), .int p1] : List Value)).length) Slot.unset).toArray = ls at hl ⊢
  have hl : lv_has ls 3 [(0, .ref (a1 0)), (1, .int p1)] := hl
  unfold pX4_skip at hf
  refine lv_aload_n hx hb dX4_skip_0 rfl (lv_at hl 0 rfl) ?_
  refine lv_aload_n hx hb dX4_skip_1 rfl (lv_at hl 0 rfl) ?_
  refine va_get (D := D) (ci := 4) (v := .int (m1 0 2)) (C := RX4) (T := TX4) (N := 3) hx hb hts iX4 hown hK hP 0 rfl rfl 2 (by decide) (hts _ aw232) (fun _ h9 => h9) rfl dX4_skip_2 ?_
  obtain ⟨r1, q2, hf⟩ := bd_use hf
  have hfo : Foc (WLet z a1 m1) (WLet z a1 m1) (WLet z a1 m1) (WLet z a1 m1) := foc_all
  refine z_goI (ws1 := (WLet z a1 m1)) (va_runV (As := [.int (m1 0 2)]) (rest := []) ⟨hx, hb, hml, hown, hts⟩ (tX4_letterAt l D z tt a1 m1 (m1 0 2) fu r1 q2 _) (cwV 1 hts (gV4 aw319 aw320 aw321 aw51 aw322) rfl rfl rfl (by decide +kernel) ⟨Nat.le_of_ble_eq_true rfl, Nat.le_of_ble_eq_true rfl⟩) (z_preV hK hP hD hS hA hT hN hfo (va_recv hK hP (ci := 4) (q0 := 0) rfl rfl)) rfl rfl hl.1 rfl (lv_room (Nat.le_of_ble_eq_true rfl)) dX4_skip_5 ⟨Nat.zero_le _, Nat.zero_le _⟩) hP hD hS hA hfo (fun H locs hP hD hS => ?_)
  refine lv_iload_n hx hb dX4_skip_8 rfl (lv_at hl 1 rfl) ?_
  obtain ⟨k4, ek4, hf⟩ := jn1_use hf
  have B17_k4 : ∀ (x3 : Int32) (H : Heap) (locs : List Loc), va_P D vwCl (WLet z a1 m1) H → va_D A (WLet z a1 m1) → va_S A s.heap H locs → ∀ (ls : Array Slot), lv_has ls 3 [(0, .ref (a1 0))] → k4 x3 = some (rr, m1') → GI p l e (headSpec wsX4_skip ({ frames := 1, cells := 0, slots := 0, locals := 21 } : Room)).room s m ([.ref (a1 0), .int p1] : List Value).toArray below meth c A D z rr (WLet z a1 m1') H locs (F0 m 17 ls [.int x3]) := by
    intro x3 H locs hP hD hS ls hl hf
    have hf := jn1_ap ek4 hf
    refine lv_istore_n (lv' := [(2, .int x3), (0, .ref (a1 0))]) hx hb dX4_skip_17 rfl hl (by decide) rfl (fun ls hl => ?_)
    refine lv_aload_n hx hb dX4_skip_18 rfl (lv_at hl 1 rfl) ?_
    refine lv_dup hx hb dX4_skip_19 rfl ?_
    refine va_get (D := D) (ci := 4) (v := .int (m1 0 2)) (C := RX4) (T := TX4) (N := 3) hx hb hts iX4 hown hK hP 0 rfl rfl 2 (by decide) (hts _ aw232) (fun _ h9 => h9) rfl dX4_skip_20 ?_
    refine lv_iload_n hx hb dX4_skip_23 rfl (lv_at hl 0 rfl) ?_
    refine lv_if_eq (tgt := 31) hx hb dX4_skip_24 (by decide) (fun c5 => ?_) (fun c5 => ?_)
    · have hf := if_t c5 hf
      refine lv_iconst (v := 0) hx hb dX4_skip_31 (by decide) ?_
      refine lv_iadd hx hb dX4_skip_32 ?_
      refine z_put (ci := 4) (v := .int ((m1 0 2) + 0)) (ty := .int) (C := RX4) (T := TX4) (N := 3) hx hb hts iX4 tyX4 tyX4_ok nmX4 hown hK hP hD hS 0 rfl rfl 2 (by decide) (hts _ aw232) (fun _ h9 => h9) rfl (by decide +kernel) rfl rfl (Nat.le_of_ble_eq_true rfl) dX4_skip_33 (fun (w9 : Mem) => (WLet z a1 w9)) (up2 m1 0 2 ((m1 0 2) + 0)) rfl (fun y6 ey6 H locs hP hD hS => ?_)
      have hf := lt_use ey6 hf
      refine lv_iload_n hx hb dX4_skip_36 rfl (lv_at hl 0 rfl) ?_
      obtain ⟨h7, hf⟩ := ckz_use hf
      obtain ⟨rfl, rfl⟩ := so2 hf
      exact ret_z hx hb hr hlocks hK hP hD hS h7 dX4_skip_37
    · have hf := if_f c5 hf
      refine lv_iconst (v := 1) hx hb dX4_skip_27 (by decide) ?_
      refine lv_goto (tgt := 32) hx hb dX4_skip_28 (by decide) ?_
      refine lv_iadd hx hb dX4_skip_32 ?_
      refine z_put (ci := 4) (v := .int ((m1 0 2) + 1)) (ty := .int) (C := RX4) (T := TX4) (N := 3) hx hb hts iX4 tyX4 tyX4_ok nmX4 hown hK hP hD hS 0 rfl rfl 2 (by decide) (hts _ aw232) (fun _ h9 => h9) rfl (by decide +kernel) rfl rfl (Nat.le_of_ble_eq_true rfl) dX4_skip_33 (fun (w9 : Mem) => (WLet z a1 w9)) (up2 m1 0 2 ((m1 0 2) + 1)) rfl (fun y8 ey8 H locs hP hD hS => ?_)
      have hf := lt_use ey8 hf
      refine lv_iload_n hx hb dX4_skip_36 rfl (lv_at hl 0 rfl) ?_
      obtain ⟨h9, hf⟩ := ckz_use hf
      obtain ⟨rfl, rfl⟩ := so2 hf
      exact ret_z hx hb hr hlocks hK hP hD hS h9 dX4_skip_37
  refine lv_icmp_ne (tgt := 16) hx hb dX4_skip_9 (by decide) (fun c10 => ?_) (fun c10 => ?_)
  · have hf := if_f c10 hf
    refine lv_iconst (v := 0) hx hb dX4_skip_16 (by decide) ?_
    exact B17_k4 _ _ _ hP hD hS _ (lv_sub hl [0] rfl) hf
  · have hf := if_t c10 hf
    refine lv_iconst (v := 1) hx hb dX4_skip_12 (by decide) ?_
    refine lv_goto (tgt := 17) hx hb dX4_skip_13 (by decide) ?_
    exact B17_k4 _ _ _ hP hD hS _ (lv_sub hl [0] rfl) hf
def pX4_skipDigits (fu : Nat) (m1 : Mem) (p1 : Int32) : Option (Int32 × Mem) :=
  zl2 (fun g4 (x1 : Int32) (y2 : Mem) =>
    if p1 ≤ x1 then
      some (1, y2)
    else
      bd (pX4_letterAt fu y2 (y2 0 2)) fun r7 =>
      if r7 < 48 then
        some (0, y2)
      else
        bd (pX4_letterAt fu y2 (y2 0 2)) fun r10 =>
        if r10 ≤ 57 then
          lt' (up2 y2 0 2 ((y2 0 2) + 1)) fun y13 =>
          lt' (x1 + 1) fun x14 =>
          g4 x14 y13
        else
          some (0, y2)) fu 0 m1
set_option maxHeartbeats 4000000 in
set_option maxRecDepth 100000 in
theorem tX4_skipDigits (l : Launch) (D : va_G) (z tt : Nat → Nat) (a1 : Nat → Nat) (m1 : Mem) (p1 : Int32) (fu : Nat) (rr : Int32) (m1' : Mem) (hf : pX4_skipDigits fu m1 p1 = some (rr, m1')) : MetI l yX4_skipDigits wsX4_skipDigits ({ frames := 1, cells := 0, slots := 0, locals := 21 } : Room) D z tt ([.ref (a1 0), .int p1] : List Value) (WLet z a1 m1) rr (WLet z a1 m1') := by
  intro sz
  refine Met.ofW (cc := cX4_skipDigits) (maxL := 3) (ret := (some .boolean)) (by decide) rfl ?_
  intro p e s m args below meth c s₁ B hml hv
  obtain ⟨rfl, hsz, hP, hK, hD0, hT, hN⟩ := hv
  have hx := B.exec
  have hb := B.bytes
  have hr := B.returns
  have hts : ∀ w ∈ wsA, w.before ([.ref (a1 0), .int p1] : List Value).toArray s = true := fun w h => atoms_spec (ws := wsX4_skipDigits) B.pre w (List.mem_cons_of_mem _ h)
  have hown : s.vm.findClass RX4 = some m.cls := findClass_of_methodNamed B.named
  have hlocks := B.notSynchronized
  subst hsz
  have hD := hD0.self (sz := s.heap.size)
  generalize hAe : va_A (WLet z a1 m1) s.heap.size = A at hD hT ⊢
  have hA : ∀ q : Nat, s.heap.size ≤ q → A q := fun q h => by rw [← hAe]; exact Or.inr h
  have hS : va_S A s.heap s.heap [] := va_S.rf
  have hl := lv_entry ([.ref (a1 0), .int p1] : List Value) (n := 3) (Nat.le_of_ble_eq_true rfl)
  rw [lg_entry_eq]
  generalize (lg_sl ([.ref (a1 0), .int p1] : List Value) ++ List.replicate (3 - (lg_sl ([.ref (a1 0), .int p1] : List Value)).length) Slot.unset).toArray = ls at hl ⊢
  have hl : lv_has ls 3 [(0, .ref (a1 0)), (1, .int p1)] := hl
  unfold pX4_skipDigits at hf
  refine lv_iconst (v := 0) hx hb dX4_skipDigits_0 (by decide) ?_
  refine lv_istore_n (lv' := [(2, .int 0), (0, .ref (a1 0)), (1, .int p1)]) hx hb dX4_skipDigits_1 rfl hl (by decide) rfl (fun ls hl => ?_)
  obtain ⟨F3, eF3, hf⟩ := zl2_use hf
  have L2_F3 : ∀ (n : Nat) (x1 : Int32) (y2 : Mem) (H : Heap) (locs : List Loc), va_P D vwCl (WLet z a1 y2) H → va_D A (WLet z a1 y2) → va_S A s.heap H locs → ∀ (ls : Array Slot), lv_has ls 3 [(0, .ref (a1 0)), (1, .int p1), (2, .int x1)] → zl2 F3 n x1 y2 = some (rr, m1') → GI p l e (headSpec wsX4_skipDigits ({ frames := 1, cells := 0, slots := 0, locals := 21 } : Room)).room s m ([.ref (a1 0), .int p1] : List Value).toArray below meth c A D z rr (WLet z a1 m1') H locs (F0 m 2 ls []) := by
    intro n
    induction n with
    | zero =>
      intro x1 y2 H locs hP hD hS ls hl hf
      exact no_none hf
    | succ n ih5 =>
      intro x1 y2 H locs hP hD hS ls hl hf
      have hf := zl2_s eF3 hf
      refine lv_iload_n hx hb dX4_skipDigits_2 rfl (lv_at hl 2 rfl) ?_
      refine lv_iload_n hx hb dX4_skipDigits_3 rfl (lv_at hl 1 rfl) ?_
      refine lv_icmp_ge (tgt := 51) hx hb dX4_skipDigits_4 (by decide) (fun c6 => ?_) (fun c6 => ?_)
      · have hf := if_t c6 hf
        refine lv_iconst (v := 1) hx hb dX4_skipDigits_51 (by decide) ?_
        obtain ⟨rfl, rfl⟩ := so2 hf
        exact ret_z hx hb hr hlocks hK hP hD hS (by decide) dX4_skipDigits_52
      · have hf := if_f c6 hf
        refine lv_aload_n hx hb dX4_skipDigits_7 rfl (lv_at hl 0 rfl) ?_
        refine lv_aload_n hx hb dX4_skipDigits_8 rfl (lv_at hl 0 rfl) ?_
        refine va_get (D := D) (ci := 4) (v := .int (y2 0 2)) (C := RX4) (T := TX4) (N := 3) hx hb hts iX4 hown hK hP 0 rfl rfl 2 (by decide) (hts _ aw232) (fun _ h9 => h9) rfl dX4_skipDigits_9 ?_
        obtain ⟨r7, q8, hf⟩ := bd_use hf
        have hfo : Foc (WLet z a1 y2) (WLet z a1 y2) (WLet z a1 y2) (WLet z a1 y2) := foc_all
        refine z_goI (ws1 := (WLet z a1 y2)) (va_runV (As := [.int (y2 0 2)]) (rest := []) ⟨hx, hb, hml, hown, hts⟩ (tX4_letterAt l D z tt a1 y2 (y2 0 2) fu r7 q8 _) (cwV 1 hts (gV4 aw319 aw320 aw321 aw51 aw322) rfl rfl rfl (by decide +kernel) ⟨Nat.le_of_ble_eq_true rfl, Nat.le_of_ble_eq_true rfl⟩) (z_preV hK hP hD hS hA hT hN hfo (va_recv hK hP (ci := 4) (q0 := 0) rfl rfl)) rfl rfl hl.1 rfl (lv_room (Nat.le_of_ble_eq_true rfl)) dX4_skipDigits_12 ⟨Nat.zero_le _, Nat.zero_le _⟩) hP hD hS hA hfo (fun H locs hP hD hS => ?_)
        refine lv_bipush (v := 48) hx hb dX4_skipDigits_15 (by decide) ?_
        refine lv_icmp_lt (tgt := 33) hx hb dX4_skipDigits_17 (by decide) (fun c9 => ?_) (fun c9 => ?_)
        · have hf := if_t c9 hf
          refine lv_iconst (v := 0) hx hb dX4_skipDigits_33 (by decide) ?_
          obtain ⟨rfl, rfl⟩ := so2 hf
          exact ret_z hx hb hr hlocks hK hP hD hS (by decide) dX4_skipDigits_34
        · have hf := if_f c9 hf
          refine lv_aload_n hx hb dX4_skipDigits_20 rfl (lv_at hl 0 rfl) ?_
          refine lv_aload_n hx hb dX4_skipDigits_21 rfl (lv_at hl 0 rfl) ?_
          refine va_get (D := D) (ci := 4) (v := .int (y2 0 2)) (C := RX4) (T := TX4) (N := 3) hx hb hts iX4 hown hK hP 0 rfl rfl 2 (by decide) (hts _ aw232) (fun _ h9 => h9) rfl dX4_skipDigits_22 ?_
          obtain ⟨r10, q11, hf⟩ := bd_use hf
          have hfo : Foc (WLet z a1 y2) (WLet z a1 y2) (WLet z a1 y2) (WLet z a1 y2) := foc_all
          refine z_goI (ws1 := (WLet z a1 y2)) (va_runV (As := [.int (y2 0 2)]) (rest := []) ⟨hx, hb, hml, hown, hts⟩ (tX4_letterAt l D z tt a1 y2 (y2 0 2) fu r10 q11 _) (cwV 1 hts (gV4 aw319 aw320 aw321 aw51 aw322) rfl rfl rfl (by decide +kernel) ⟨Nat.le_of_ble_eq_true rfl, Nat.le_of_ble_eq_true rfl⟩) (z_preV hK hP hD hS hA hT hN hfo (va_recv hK hP (ci := 4) (q0 := 0) rfl rfl)) rfl rfl hl.1 rfl (lv_room (Nat.le_of_ble_eq_true rfl)) dX4_skipDigits_25 ⟨Nat.zero_le _, Nat.zero_le _⟩) hP hD hS hA hfo (fun H locs hP hD hS => ?_)
          refine lv_bipush (v := 57) hx hb dX4_skipDigits_28 (by decide) ?_
          refine lv_icmp_le (tgt := 35) hx hb dX4_skipDigits_30 (by decide) (fun c12 => ?_) (fun c12 => ?_)
          · have hf := if_t c12 hf
            refine lv_aload_n hx hb dX4_skipDigits_35 rfl (lv_at hl 0 rfl) ?_
            refine lv_dup hx hb dX4_skipDigits_36 rfl ?_
            refine va_get (D := D) (ci := 4) (v := .int (y2 0 2)) (C := RX4) (T := TX4) (N := 3) hx hb hts iX4 hown hK hP 0 rfl rfl 2 (by decide) (hts _ aw232) (fun _ h9 => h9) rfl dX4_skipDigits_37 ?_
            refine lv_iconst (v := 1) hx hb dX4_skipDigits_40 (by decide) ?_
            refine lv_iadd hx hb dX4_skipDigits_41 ?_
            refine z_put (ci := 4) (v := .int ((y2 0 2) + 1)) (ty := .int) (C := RX4) (T := TX4) (N := 3) hx hb hts iX4 tyX4 tyX4_ok nmX4 hown hK hP hD hS 0 rfl rfl 2 (by decide) (hts _ aw232) (fun _ h9 => h9) rfl (by decide +kernel) rfl rfl (Nat.le_of_ble_eq_true rfl) dX4_skipDigits_42 (fun (w9 : Mem) => (WLet z a1 w9)) (up2 y2 0 2 ((y2 0 2) + 1)) rfl (fun y13 ey13 H locs hP hD hS => ?_)
            have hf := lt_use ey13 hf
            obtain ⟨x14, ex14⟩ : ∃ y : Int32, y = x1 + 1 := ⟨_, rfl⟩
            have hf := lt_use ex14 hf
            refine lv_iinc (v := x14) (lv' := [(2, .int x14), (0, .ref (a1 0)), (1, .int p1)]) hx hb dX4_skipDigits_45 hl (k := 2) rfl (by rw [ex14]; rfl) (by decide) rfl (fun ls hl => ?_)
            refine lv_goto (tgt := 2) hx hb dX4_skipDigits_48 (by decide) ?_
            exact ih5 _ _ _ _ hP hD hS _ (lv_sub hl [1, 2, 0] rfl) hf
          · have hf := if_f c12 hf
            refine lv_iconst (v := 0) hx hb dX4_skipDigits_33 (by decide) ?_
            obtain ⟨rfl, rfl⟩ := so2 hf
            exact ret_z hx hb hr hlocks hK hP hD hS (by decide) dX4_skipDigits_34
  exact L2_F3 fu _ _ _ _ hP hD hS _ (lv_sub hl [1, 2, 0] rfl) hf
def pX4_skipStatement (fu : Nat) (m1 : Mem) : Option (Int32 × Mem) :=
  bd2 (pX4_skip fu m1 115) fun r1 y2 =>
  if r1 = 0 then
    bd2 (pX4_skip fu y2 99) fun r5 y6 =>
    if r5 = 0 then
      bd2 (pX4_skip fu y6 107) fun r9 y10 =>
      if r9 = 0 then
        some (0, y10)
      else
        bd2 (pX4_skipDigits fu y10 3) fun r13 y14 =>
        if r13 = 0 then
          some (0, y14)
        else
          bd2 (pX4_skip fu y14 59) fun r17 y18 =>
          if r17 = 0 then
            some (0, y18)
          else
            some (1, y18)
    else
      bd2 (pX4_skipDigits fu y6 8) fun r21 y22 =>
      if r21 = 0 then
        some (0, y22)
      else
        bd2 (pX4_skip fu y22 59) fun r25 y26 =>
        if r25 = 0 then
          some (0, y26)
        else
          some (1, y26)
  else
    bd2 (pX4_skipDigits fu y2 1) fun r29 y30 =>
    if r29 = 0 then
      some (0, y30)
    else
      bd2 (pX4_skip fu y30 61) fun r33 y34 =>
      if r33 = 0 then
        some (0, y34)
      else
        bd2 (pX4_skipDigits fu y34 1) fun r37 y38 =>
        if r37 = 0 then
          some (0, y38)
        else
          bd2 (pX4_skip fu y38 59) fun r41 y42 =>
          if r41 = 0 then
            bd2 (pX4_skipDigits fu y42 1) fun r45 y46 =>
            if r45 = 0 then
              some (0, y46)
            else
              bd2 (pX4_skip fu y46 59) fun r49 y50 =>
              if r49 = 0 then
                some (0, y50)
              else
                some (1, y50)
          else
            some (1, y42)
set_option maxHeartbeats 4000000 in
set_option maxRecDepth 100000 in
theorem tX4_skipStatement (l : Launch) (D : va_G) (z tt : Nat → Nat) (a1 : Nat → Nat) (m1 : Mem)  (fu : Nat) (rr : Int32) (m1' : Mem) (hf : pX4_skipStatement fu m1 = some (rr, m1')) : MetI l yX4_skipStatement wsX4_skipStatement ({ frames := 2, cells := 0, slots := 0, locals := 43 } : Room) D z tt ([.ref (a1 0)] : List Value) (WLet z a1 m1) rr (WLet z a1 m1') := by
  intro sz
  refine Met.ofW (cc := cX4_skipStatement) (maxL := 1) (ret := (some .boolean)) (by decide) rfl ?_
  intro p e s m args below meth c s₁ B hml hv
  obtain ⟨rfl, hsz, hP, hK, hD0, hT, hN⟩ := hv
  have hx := B.exec
  have hb := B.bytes
  have hr := B.returns
  have hts : ∀ w ∈ wsA, w.before ([.ref (a1 0)] : List Value).toArray s = true := fun w h => atoms_spec (ws := wsX4_skipStatement) B.pre w (List.mem_cons_of_mem _ h)
  have hown : s.vm.findClass RX4 = some m.cls := findClass_of_methodNamed B.named
  have hlocks := B.notSynchronized
  subst hsz
  have hD := hD0.self (sz := s.heap.size)
  generalize hAe : va_A (WLet z a1 m1) s.heap.size = A at hD hT ⊢
  have hA : ∀ q : Nat, s.heap.size ≤ q → A q := fun q h => by rw [← hAe]; exact Or.inr h
  have hS : va_S A s.heap s.heap [] := va_S.rf
  have hl := lv_entry ([.ref (a1 0)] : List Value) (n := 1) (Nat.le_of_ble_eq_true rfl)
  rw [lg_entry_eq]
  generalize (lg_sl ([.ref (a1 0)] : List Value) ++ List.replicate (1 - (lg_sl ([.ref (a1 0)] : List Value)).length) Slot.unset).toArray = ls at hl ⊢
  have hl : lv_has ls 1 [(0, .ref (a1 0))] := hl
  unfold pX4_skipStatement at hf
  refine lv_aload_n hx hb dX4_skipStatement_0 rfl (lv_at hl 0 rfl) ?_
  refine lv_bipush (v := 115) hx hb dX4_skipStatement_1 (by decide) ?_
  obtain ⟨r1, y2, q3, hf⟩ := bd2_use hf
  have hfo : Foc (WLet z a1 m1) (WLet z a1 m1) (WLet z a1 y2) (WLet z a1 y2) := foc_all
  refine z_goI (ws1 := (WLet z a1 y2)) (va_runV (As := [.int 115]) (rest := []) ⟨hx, hb, hml, hown, hts⟩ (tX4_skip l D z tt a1 m1 115 fu r1 y2 q3 _) (cwV 1 hts (gV4 aw315 aw316 aw317 aw51 aw318) rfl rfl rfl (by decide +kernel) ⟨Nat.le_of_ble_eq_true rfl, Nat.le_of_ble_eq_true rfl⟩) (z_preV hK hP hD hS hA hT hN hfo (va_recv hK hP (ci := 4) (q0 := 0) rfl rfl)) rfl rfl hl.1 rfl (lv_room (Nat.le_of_ble_eq_true rfl)) dX4_skipStatement_3 ⟨Nat.zero_le _, Nat.zero_le _⟩) hP hD hS hA hfo (fun H locs hP hD hS => ?_)
  refine lv_if_eq (tgt := 66) hx hb dX4_skipStatement_6 (by decide) (fun c4 => ?_) (fun c4 => ?_)
  · have hf := if_t c4 hf
    refine lv_aload_n hx hb dX4_skipStatement_66 rfl (lv_at hl 0 rfl) ?_
    refine lv_bipush (v := 99) hx hb dX4_skipStatement_67 (by decide) ?_
    obtain ⟨r5, y6, q7, hf⟩ := bd2_use hf
    have hfo : Foc (WLet z a1 y2) (WLet z a1 y2) (WLet z a1 y6) (WLet z a1 y6) := foc_all
    refine z_goI (ws1 := (WLet z a1 y6)) (va_runV (As := [.int 99]) (rest := []) ⟨hx, hb, hml, hown, hts⟩ (tX4_skip l D z tt a1 y2 99 fu r5 y6 q7 _) (cwV 1 hts (gV4 aw315 aw316 aw317 aw51 aw318) rfl rfl rfl (by decide +kernel) ⟨Nat.le_of_ble_eq_true rfl, Nat.le_of_ble_eq_true rfl⟩) (z_preV hK hP hD hS hA hT hN hfo (va_recv hK hP (ci := 4) (q0 := 0) rfl rfl)) rfl rfl hl.1 rfl (lv_room (Nat.le_of_ble_eq_true rfl)) dX4_skipStatement_69 ⟨Nat.zero_le _, Nat.zero_le _⟩) hP hD hS hA hfo (fun H locs hP hD hS => ?_)
    refine lv_if_eq (tgt := 99) hx hb dX4_skipStatement_72 (by decide) (fun c8 => ?_) (fun c8 => ?_)
    · have hf := if_t c8 hf
      refine lv_aload_n hx hb dX4_skipStatement_99 rfl (lv_at hl 0 rfl) ?_
      refine lv_bipush (v := 107) hx hb dX4_skipStatement_100 (by decide) ?_
      obtain ⟨r9, y10, q11, hf⟩ := bd2_use hf
      have hfo : Foc (WLet z a1 y6) (WLet z a1 y6) (WLet z a1 y10) (WLet z a1 y10) := foc_all
      refine z_goI (ws1 := (WLet z a1 y10)) (va_runV (As := [.int 107]) (rest := []) ⟨hx, hb, hml, hown, hts⟩ (tX4_skip l D z tt a1 y6 107 fu r9 y10 q11 _) (cwV 1 hts (gV4 aw315 aw316 aw317 aw51 aw318) rfl rfl rfl (by decide +kernel) ⟨Nat.le_of_ble_eq_true rfl, Nat.le_of_ble_eq_true rfl⟩) (z_preV hK hP hD hS hA hT hN hfo (va_recv hK hP (ci := 4) (q0 := 0) rfl rfl)) rfl rfl hl.1 rfl (lv_room (Nat.le_of_ble_eq_true rfl)) dX4_skipStatement_102 ⟨Nat.zero_le _, Nat.zero_le _⟩) hP hD hS hA hfo (fun H locs hP hD hS => ?_)
      refine lv_if_eq (tgt := 129) hx hb dX4_skipStatement_105 (by decide) (fun c12 => ?_) (fun c12 => ?_)
      · have hf := if_t c12 hf
        refine lv_iconst (v := 0) hx hb dX4_skipStatement_129 (by decide) ?_
        obtain ⟨rfl, rfl⟩ := so2 hf
        exact ret_z hx hb hr hlocks hK hP hD hS (by decide) dX4_skipStatement_130
      · have hf := if_f c12 hf
        refine lv_aload_n hx hb dX4_skipStatement_108 rfl (lv_at hl 0 rfl) ?_
        refine lv_iconst (v := 3) hx hb dX4_skipStatement_109 (by decide) ?_
        obtain ⟨r13, y14, q15, hf⟩ := bd2_use hf
        have hfo : Foc (WLet z a1 y10) (WLet z a1 y10) (WLet z a1 y14) (WLet z a1 y14) := foc_all
        refine z_goI (ws1 := (WLet z a1 y14)) (va_runV (As := [.int 3]) (rest := []) ⟨hx, hb, hml, hown, hts⟩ (tX4_skipDigits l D z tt a1 y10 3 fu r13 y14 q15 _) (cwV 1 hts (gV4 aw323 aw324 aw325 aw51 aw326) rfl rfl rfl (by decide +kernel) ⟨Nat.le_of_ble_eq_true rfl, Nat.le_of_ble_eq_true rfl⟩) (z_preV hK hP hD hS hA hT hN hfo (va_recv hK hP (ci := 4) (q0 := 0) rfl rfl)) rfl rfl hl.1 rfl (lv_room (Nat.le_of_ble_eq_true rfl)) dX4_skipStatement_110 ⟨Nat.zero_le _, Nat.zero_le _⟩) hP hD hS hA hfo (fun H locs hP hD hS => ?_)
        refine lv_if_eq (tgt := 129) hx hb dX4_skipStatement_113 (by decide) (fun c16 => ?_) (fun c16 => ?_)
        · have hf := if_t c16 hf
          refine lv_iconst (v := 0) hx hb dX4_skipStatement_129 (by decide) ?_
          obtain ⟨rfl, rfl⟩ := so2 hf
          exact ret_z hx hb hr hlocks hK hP hD hS (by decide) dX4_skipStatement_130
        · have hf := if_f c16 hf
          refine lv_aload_n hx hb dX4_skipStatement_116 rfl (lv_at hl 0 rfl) ?_
          refine lv_bipush (v := 59) hx hb dX4_skipStatement_117 (by decide) ?_
          obtain ⟨r17, y18, q19, hf⟩ := bd2_use hf
          have hfo : Foc (WLet z a1 y14) (WLet z a1 y14) (WLet z a1 y18) (WLet z a1 y18) := foc_all
          refine z_goI (ws1 := (WLet z a1 y18)) (va_runV (As := [.int 59]) (rest := []) ⟨hx, hb, hml, hown, hts⟩ (tX4_skip l D z tt a1 y14 59 fu r17 y18 q19 _) (cwV 1 hts (gV4 aw315 aw316 aw317 aw51 aw318) rfl rfl rfl (by decide +kernel) ⟨Nat.le_of_ble_eq_true rfl, Nat.le_of_ble_eq_true rfl⟩) (z_preV hK hP hD hS hA hT hN hfo (va_recv hK hP (ci := 4) (q0 := 0) rfl rfl)) rfl rfl hl.1 rfl (lv_room (Nat.le_of_ble_eq_true rfl)) dX4_skipStatement_119 ⟨Nat.zero_le _, Nat.zero_le _⟩) hP hD hS hA hfo (fun H locs hP hD hS => ?_)
          refine lv_if_eq (tgt := 129) hx hb dX4_skipStatement_122 (by decide) (fun c20 => ?_) (fun c20 => ?_)
          · have hf := if_t c20 hf
            refine lv_iconst (v := 0) hx hb dX4_skipStatement_129 (by decide) ?_
            obtain ⟨rfl, rfl⟩ := so2 hf
            exact ret_z hx hb hr hlocks hK hP hD hS (by decide) dX4_skipStatement_130
          · have hf := if_f c20 hf
            refine lv_iconst (v := 1) hx hb dX4_skipStatement_125 (by decide) ?_
            refine lv_goto (tgt := 130) hx hb dX4_skipStatement_126 (by decide) ?_
            obtain ⟨rfl, rfl⟩ := so2 hf
            exact ret_z hx hb hr hlocks hK hP hD hS (by decide) dX4_skipStatement_130
    · have hf := if_f c8 hf
      refine lv_aload_n hx hb dX4_skipStatement_75 rfl (lv_at hl 0 rfl) ?_
      refine lv_bipush (v := 8) hx hb dX4_skipStatement_76 (by decide) ?_
      obtain ⟨r21, y22, q23, hf⟩ := bd2_use hf
      have hfo : Foc (WLet z a1 y6) (WLet z a1 y6) (WLet z a1 y22) (WLet z a1 y22) := foc_all
      refine z_goI (ws1 := (WLet z a1 y22)) (va_runV (As := [.int 8]) (rest := []) ⟨hx, hb, hml, hown, hts⟩ (tX4_skipDigits l D z tt a1 y6 8 fu r21 y22 q23 _) (cwV 1 hts (gV4 aw323 aw324 aw325 aw51 aw326) rfl rfl rfl (by decide +kernel) ⟨Nat.le_of_ble_eq_true rfl, Nat.le_of_ble_eq_true rfl⟩) (z_preV hK hP hD hS hA hT hN hfo (va_recv hK hP (ci := 4) (q0 := 0) rfl rfl)) rfl rfl hl.1 rfl (lv_room (Nat.le_of_ble_eq_true rfl)) dX4_skipStatement_78 ⟨Nat.zero_le _, Nat.zero_le _⟩) hP hD hS hA hfo (fun H locs hP hD hS => ?_)
      refine lv_if_eq (tgt := 97) hx hb dX4_skipStatement_81 (by decide) (fun c24 => ?_) (fun c24 => ?_)
      · have hf := if_t c24 hf
        refine lv_iconst (v := 0) hx hb dX4_skipStatement_97 (by decide) ?_
        obtain ⟨rfl, rfl⟩ := so2 hf
        exact ret_z hx hb hr hlocks hK hP hD hS (by decide) dX4_skipStatement_98
      · have hf := if_f c24 hf
        refine lv_aload_n hx hb dX4_skipStatement_84 rfl (lv_at hl 0 rfl) ?_
        refine lv_bipush (v := 59) hx hb dX4_skipStatement_85 (by decide) ?_
        obtain ⟨r25, y26, q27, hf⟩ := bd2_use hf
        have hfo : Foc (WLet z a1 y22) (WLet z a1 y22) (WLet z a1 y26) (WLet z a1 y26) := foc_all
        refine z_goI (ws1 := (WLet z a1 y26)) (va_runV (As := [.int 59]) (rest := []) ⟨hx, hb, hml, hown, hts⟩ (tX4_skip l D z tt a1 y22 59 fu r25 y26 q27 _) (cwV 1 hts (gV4 aw315 aw316 aw317 aw51 aw318) rfl rfl rfl (by decide +kernel) ⟨Nat.le_of_ble_eq_true rfl, Nat.le_of_ble_eq_true rfl⟩) (z_preV hK hP hD hS hA hT hN hfo (va_recv hK hP (ci := 4) (q0 := 0) rfl rfl)) rfl rfl hl.1 rfl (lv_room (Nat.le_of_ble_eq_true rfl)) dX4_skipStatement_87 ⟨Nat.zero_le _, Nat.zero_le _⟩) hP hD hS hA hfo (fun H locs hP hD hS => ?_)
        refine lv_if_eq (tgt := 97) hx hb dX4_skipStatement_90 (by decide) (fun c28 => ?_) (fun c28 => ?_)
        · have hf := if_t c28 hf
          refine lv_iconst (v := 0) hx hb dX4_skipStatement_97 (by decide) ?_
          obtain ⟨rfl, rfl⟩ := so2 hf
          exact ret_z hx hb hr hlocks hK hP hD hS (by decide) dX4_skipStatement_98
        · have hf := if_f c28 hf
          refine lv_iconst (v := 1) hx hb dX4_skipStatement_93 (by decide) ?_
          refine lv_goto (tgt := 98) hx hb dX4_skipStatement_94 (by decide) ?_
          obtain ⟨rfl, rfl⟩ := so2 hf
          exact ret_z hx hb hr hlocks hK hP hD hS (by decide) dX4_skipStatement_98
  · have hf := if_f c4 hf
    refine lv_aload_n hx hb dX4_skipStatement_9 rfl (lv_at hl 0 rfl) ?_
    refine lv_iconst (v := 1) hx hb dX4_skipStatement_10 (by decide) ?_
    obtain ⟨r29, y30, q31, hf⟩ := bd2_use hf
    have hfo : Foc (WLet z a1 y2) (WLet z a1 y2) (WLet z a1 y30) (WLet z a1 y30) := foc_all
    refine z_goI (ws1 := (WLet z a1 y30)) (va_runV (As := [.int 1]) (rest := []) ⟨hx, hb, hml, hown, hts⟩ (tX4_skipDigits l D z tt a1 y2 1 fu r29 y30 q31 _) (cwV 1 hts (gV4 aw323 aw324 aw325 aw51 aw326) rfl rfl rfl (by decide +kernel) ⟨Nat.le_of_ble_eq_true rfl, Nat.le_of_ble_eq_true rfl⟩) (z_preV hK hP hD hS hA hT hN hfo (va_recv hK hP (ci := 4) (q0 := 0) rfl rfl)) rfl rfl hl.1 rfl (lv_room (Nat.le_of_ble_eq_true rfl)) dX4_skipStatement_11 ⟨Nat.zero_le _, Nat.zero_le _⟩) hP hD hS hA hfo (fun H locs hP hD hS => ?_)
    refine lv_if_eq (tgt := 64) hx hb dX4_skipStatement_14 (by decide) (fun c32 => ?_) (fun c32 => ?_)
    · have hf := if_t c32 hf
      refine lv_iconst (v := 0) hx hb dX4_skipStatement_64 (by decide) ?_
      obtain ⟨rfl, rfl⟩ := so2 hf
      exact ret_z hx hb hr hlocks hK hP hD hS (by decide) dX4_skipStatement_65
    · have hf := if_f c32 hf
      refine lv_aload_n hx hb dX4_skipStatement_17 rfl (lv_at hl 0 rfl) ?_
      refine lv_bipush (v := 61) hx hb dX4_skipStatement_18 (by decide) ?_
      obtain ⟨r33, y34, q35, hf⟩ := bd2_use hf
      have hfo : Foc (WLet z a1 y30) (WLet z a1 y30) (WLet z a1 y34) (WLet z a1 y34) := foc_all
      refine z_goI (ws1 := (WLet z a1 y34)) (va_runV (As := [.int 61]) (rest := []) ⟨hx, hb, hml, hown, hts⟩ (tX4_skip l D z tt a1 y30 61 fu r33 y34 q35 _) (cwV 1 hts (gV4 aw315 aw316 aw317 aw51 aw318) rfl rfl rfl (by decide +kernel) ⟨Nat.le_of_ble_eq_true rfl, Nat.le_of_ble_eq_true rfl⟩) (z_preV hK hP hD hS hA hT hN hfo (va_recv hK hP (ci := 4) (q0 := 0) rfl rfl)) rfl rfl hl.1 rfl (lv_room (Nat.le_of_ble_eq_true rfl)) dX4_skipStatement_20 ⟨Nat.zero_le _, Nat.zero_le _⟩) hP hD hS hA hfo (fun H locs hP hD hS => ?_)
      refine lv_if_eq (tgt := 64) hx hb dX4_skipStatement_23 (by decide) (fun c36 => ?_) (fun c36 => ?_)
      · have hf := if_t c36 hf
        refine lv_iconst (v := 0) hx hb dX4_skipStatement_64 (by decide) ?_
        obtain ⟨rfl, rfl⟩ := so2 hf
        exact ret_z hx hb hr hlocks hK hP hD hS (by decide) dX4_skipStatement_65
      · have hf := if_f c36 hf
        refine lv_aload_n hx hb dX4_skipStatement_26 rfl (lv_at hl 0 rfl) ?_
        refine lv_iconst (v := 1) hx hb dX4_skipStatement_27 (by decide) ?_
        obtain ⟨r37, y38, q39, hf⟩ := bd2_use hf
        have hfo : Foc (WLet z a1 y34) (WLet z a1 y34) (WLet z a1 y38) (WLet z a1 y38) := foc_all
        refine z_goI (ws1 := (WLet z a1 y38)) (va_runV (As := [.int 1]) (rest := []) ⟨hx, hb, hml, hown, hts⟩ (tX4_skipDigits l D z tt a1 y34 1 fu r37 y38 q39 _) (cwV 1 hts (gV4 aw323 aw324 aw325 aw51 aw326) rfl rfl rfl (by decide +kernel) ⟨Nat.le_of_ble_eq_true rfl, Nat.le_of_ble_eq_true rfl⟩) (z_preV hK hP hD hS hA hT hN hfo (va_recv hK hP (ci := 4) (q0 := 0) rfl rfl)) rfl rfl hl.1 rfl (lv_room (Nat.le_of_ble_eq_true rfl)) dX4_skipStatement_28 ⟨Nat.zero_le _, Nat.zero_le _⟩) hP hD hS hA hfo (fun H locs hP hD hS => ?_)
        refine lv_if_eq (tgt := 64) hx hb dX4_skipStatement_31 (by decide) (fun c40 => ?_) (fun c40 => ?_)
        · have hf := if_t c40 hf
          refine lv_iconst (v := 0) hx hb dX4_skipStatement_64 (by decide) ?_
          obtain ⟨rfl, rfl⟩ := so2 hf
          exact ret_z hx hb hr hlocks hK hP hD hS (by decide) dX4_skipStatement_65
        · have hf := if_f c40 hf
          refine lv_aload_n hx hb dX4_skipStatement_34 rfl (lv_at hl 0 rfl) ?_
          refine lv_bipush (v := 59) hx hb dX4_skipStatement_35 (by decide) ?_
          obtain ⟨r41, y42, q43, hf⟩ := bd2_use hf
          have hfo : Foc (WLet z a1 y38) (WLet z a1 y38) (WLet z a1 y42) (WLet z a1 y42) := foc_all
          refine z_goI (ws1 := (WLet z a1 y42)) (va_runV (As := [.int 59]) (rest := []) ⟨hx, hb, hml, hown, hts⟩ (tX4_skip l D z tt a1 y38 59 fu r41 y42 q43 _) (cwV 1 hts (gV4 aw315 aw316 aw317 aw51 aw318) rfl rfl rfl (by decide +kernel) ⟨Nat.le_of_ble_eq_true rfl, Nat.le_of_ble_eq_true rfl⟩) (z_preV hK hP hD hS hA hT hN hfo (va_recv hK hP (ci := 4) (q0 := 0) rfl rfl)) rfl rfl hl.1 rfl (lv_room (Nat.le_of_ble_eq_true rfl)) dX4_skipStatement_37 ⟨Nat.zero_le _, Nat.zero_le _⟩) hP hD hS hA hfo (fun H locs hP hD hS => ?_)
          refine lv_if_ne (tgt := 60) hx hb dX4_skipStatement_40 (by decide) (fun c44 => ?_) (fun c44 => ?_)
          · have hf := if_f c44 hf
            refine lv_iconst (v := 1) hx hb dX4_skipStatement_60 (by decide) ?_
            refine lv_goto (tgt := 65) hx hb dX4_skipStatement_61 (by decide) ?_
            obtain ⟨rfl, rfl⟩ := so2 hf
            exact ret_z hx hb hr hlocks hK hP hD hS (by decide) dX4_skipStatement_65
          · have hf := if_t c44 hf
            refine lv_aload_n hx hb dX4_skipStatement_43 rfl (lv_at hl 0 rfl) ?_
            refine lv_iconst (v := 1) hx hb dX4_skipStatement_44 (by decide) ?_
            obtain ⟨r45, y46, q47, hf⟩ := bd2_use hf
            have hfo : Foc (WLet z a1 y42) (WLet z a1 y42) (WLet z a1 y46) (WLet z a1 y46) := foc_all
            refine z_goI (ws1 := (WLet z a1 y46)) (va_runV (As := [.int 1]) (rest := []) ⟨hx, hb, hml, hown, hts⟩ (tX4_skipDigits l D z tt a1 y42 1 fu r45 y46 q47 _) (cwV 1 hts (gV4 aw323 aw324 aw325 aw51 aw326) rfl rfl rfl (by decide +kernel) ⟨Nat.le_of_ble_eq_true rfl, Nat.le_of_ble_eq_true rfl⟩) (z_preV hK hP hD hS hA hT hN hfo (va_recv hK hP (ci := 4) (q0 := 0) rfl rfl)) rfl rfl hl.1 rfl (lv_room (Nat.le_of_ble_eq_true rfl)) dX4_skipStatement_45 ⟨Nat.zero_le _, Nat.zero_le _⟩) hP hD hS hA hfo (fun H locs hP hD hS => ?_)
            refine lv_if_eq (tgt := 64) hx hb dX4_skipStatement_48 (by decide) (fun c48 => ?_) (fun c48 => ?_)
            · have hf := if_t c48 hf
              refine lv_iconst (v := 0) hx hb dX4_skipStatement_64 (by decide) ?_
              obtain ⟨rfl, rfl⟩ := so2 hf
              exact ret_z hx hb hr hlocks hK hP hD hS (by decide) dX4_skipStatement_65
            · have hf := if_f c48 hf
              refine lv_aload_n hx hb dX4_skipStatement_51 rfl (lv_at hl 0 rfl) ?_
              refine lv_bipush (v := 59) hx hb dX4_skipStatement_52 (by decide) ?_
              obtain ⟨r49, y50, q51, hf⟩ := bd2_use hf
              have hfo : Foc (WLet z a1 y46) (WLet z a1 y46) (WLet z a1 y50) (WLet z a1 y50) := foc_all
              refine z_goI (ws1 := (WLet z a1 y50)) (va_runV (As := [.int 59]) (rest := []) ⟨hx, hb, hml, hown, hts⟩ (tX4_skip l D z tt a1 y46 59 fu r49 y50 q51 _) (cwV 1 hts (gV4 aw315 aw316 aw317 aw51 aw318) rfl rfl rfl (by decide +kernel) ⟨Nat.le_of_ble_eq_true rfl, Nat.le_of_ble_eq_true rfl⟩) (z_preV hK hP hD hS hA hT hN hfo (va_recv hK hP (ci := 4) (q0 := 0) rfl rfl)) rfl rfl hl.1 rfl (lv_room (Nat.le_of_ble_eq_true rfl)) dX4_skipStatement_54 ⟨Nat.zero_le _, Nat.zero_le _⟩) hP hD hS hA hfo (fun H locs hP hD hS => ?_)
              refine lv_if_eq (tgt := 64) hx hb dX4_skipStatement_57 (by decide) (fun c52 => ?_) (fun c52 => ?_)
              · have hf := if_t c52 hf
                refine lv_iconst (v := 0) hx hb dX4_skipStatement_64 (by decide) ?_
                obtain ⟨rfl, rfl⟩ := so2 hf
                exact ret_z hx hb hr hlocks hK hP hD hS (by decide) dX4_skipStatement_65
              · have hf := if_f c52 hf
                refine lv_iconst (v := 1) hx hb dX4_skipStatement_60 (by decide) ?_
                refine lv_goto (tgt := 65) hx hb dX4_skipStatement_61 (by decide) ?_
                obtain ⟨rfl, rfl⟩ := so2 hf
                exact ret_z hx hb hr hlocks hK hP hD hS (by decide) dX4_skipStatement_65
def pX4_number (fu : Nat) (m1 : Mem) (p1 : Int32) (p2 : Int32) : Option Int32 :=
  zl2 (fun g4 (x1 : Int32) (x2 : Int32) =>
    if p2 ≤ x2 then
      some x1
    else
      bd (pX4_letterAt fu m1 (p1 + x2)) fun r7 =>
      lt' ((((x1 * 10) + r7) - 48) : Int32) fun x9 =>
      lt' (x2 + 1) fun x10 =>
      g4 x9 x10) fu 0 0
set_option maxHeartbeats 4000000 in
set_option maxRecDepth 100000 in
theorem tX4_number (l : Launch) (D : va_G) (z tt : Nat → Nat) (a1 : Nat → Nat) (m1 : Mem) (p1 : Int32) (p2 : Int32) (fu : Nat) (rr : Int32) (hf : pX4_number fu m1 p1 p2 = some rr) : MetI l yX4_number wsX4_number ({ frames := 1, cells := 0, slots := 0, locals := 21 } : Room) D z tt ([.ref (a1 0), .int p1, .int p2] : List Value) (WLet z a1 m1) rr (WLet z a1 m1) := by
  intro sz
  refine Met.ofW (cc := cX4_number) (maxL := 5) (ret := (some .int)) (by decide) rfl ?_
  intro p e s m args below meth c s₁ B hml hv
  obtain ⟨rfl, hsz, hP, hK, hD0, hT, hN⟩ := hv
  have hx := B.exec
  have hb := B.bytes
  have hr := B.returns
  have hts : ∀ w ∈ wsA, w.before ([.ref (a1 0), .int p1, .int p2] : List Value).toArray s = true := fun w h => atoms_spec (ws := wsX4_number) B.pre w (List.mem_cons_of_mem _ h)
  have hown : s.vm.findClass RX4 = some m.cls := findClass_of_methodNamed B.named
  have hlocks := B.notSynchronized
  subst hsz
  have hD := hD0.self (sz := s.heap.size)
  generalize hAe : va_A (WLet z a1 m1) s.heap.size = A at hD hT ⊢
  have hA : ∀ q : Nat, s.heap.size ≤ q → A q := fun q h => by rw [← hAe]; exact Or.inr h
  have hS : va_S A s.heap s.heap [] := va_S.rf
  have hl := lv_entry ([.ref (a1 0), .int p1, .int p2] : List Value) (n := 5) (Nat.le_of_ble_eq_true rfl)
  rw [lg_entry_eq]
  generalize (lg_sl ([.ref (a1 0), .int p1, .int p2] : List Value) ++ List.replicate (5 - (lg_sl ([.ref (a1 0), .int p1, .int p2] : List Value)).length) Slot.unset).toArray = ls at hl ⊢
  have hl : lv_has ls 5 [(0, .ref (a1 0)), (1, .int p1), (2, .int p2)] := hl
  unfold pX4_number at hf
  refine lv_iconst (v := 0) hx hb dX4_number_0 (by decide) ?_
  refine lv_istore_n (lv' := [(3, .int 0), (0, .ref (a1 0)), (1, .int p1), (2, .int p2)]) hx hb dX4_number_1 rfl hl (by decide) rfl (fun ls hl => ?_)
  refine lv_iconst (v := 0) hx hb dX4_number_2 (by decide) ?_
  refine lv_istore (lv' := [(4, .int 0), (3, .int 0), (0, .ref (a1 0)), (1, .int p1), (2, .int p2)]) hx hb dX4_number_3 hl (by decide) rfl (fun ls hl => ?_)
  obtain ⟨F3, eF3, hf⟩ := zl2_use hf
  have L5_F3 : ∀ (n : Nat) (x1 : Int32) (x2 : Int32) (H : Heap) (locs : List Loc), va_P D vwCl (WLet z a1 m1) H → va_D A (WLet z a1 m1) → va_S A s.heap H locs → ∀ (ls : Array Slot), lv_has ls 5 [(0, .ref (a1 0)), (1, .int p1), (2, .int p2), (3, .int x1), (4, .int x2)] → zl2 F3 n x1 x2 = some rr → GI p l e (headSpec wsX4_number ({ frames := 1, cells := 0, slots := 0, locals := 21 } : Room)).room s m ([.ref (a1 0), .int p1, .int p2] : List Value).toArray below meth c A D z rr (WLet z a1 m1) H locs (F0 m 5 ls []) := by
    intro n
    induction n with
    | zero =>
      intro x1 x2 H locs hP hD hS ls hl hf
      exact no_none hf
    | succ n ih5 =>
      intro x1 x2 H locs hP hD hS ls hl hf
      have hf := zl2_s eF3 hf
      refine lv_iload hx hb dX4_number_5 (lv_at hl 4 rfl) ?_
      refine lv_iload_n hx hb dX4_number_7 rfl (lv_at hl 2 rfl) ?_
      refine lv_icmp_ge (tgt := 34) hx hb dX4_number_8 (by decide) (fun c6 => ?_) (fun c6 => ?_)
      · have hf := if_t c6 hf
        refine lv_iload_n hx hb dX4_number_34 rfl (lv_at hl 3 rfl) ?_
        obtain rfl := so1 hf
        exact ret_i hx hb hr hlocks hK hP hD hS dX4_number_35
      · have hf := if_f c6 hf
        refine lv_iload_n hx hb dX4_number_11 rfl (lv_at hl 3 rfl) ?_
        refine lv_bipush (v := 10) hx hb dX4_number_12 (by decide) ?_
        refine lv_imul hx hb dX4_number_14 ?_
        refine lv_aload_n hx hb dX4_number_15 rfl (lv_at hl 0 rfl) ?_
        refine lv_iload_n hx hb dX4_number_16 rfl (lv_at hl 1 rfl) ?_
        refine lv_iload hx hb dX4_number_17 (lv_at hl 4 rfl) ?_
        refine lv_iadd hx hb dX4_number_19 ?_
        obtain ⟨r7, q8, hf⟩ := bd_use hf
        have hfo : Foc (WLet z a1 m1) (WLet z a1 m1) (WLet z a1 m1) (WLet z a1 m1) := foc_all
        refine z_goI (ws1 := (WLet z a1 m1)) (va_runV (As := [.int (p1 + x2)]) (rest := [.int (x1 * 10)]) ⟨hx, hb, hml, hown, hts⟩ (tX4_letterAt l D z tt a1 m1 (p1 + x2) fu r7 q8 _) (cwV 1 hts (gV4 aw319 aw320 aw321 aw51 aw322) rfl rfl rfl (by decide +kernel) ⟨Nat.le_of_ble_eq_true rfl, Nat.le_of_ble_eq_true rfl⟩) (z_preV hK hP hD hS hA hT hN hfo (va_recv hK hP (ci := 4) (q0 := 0) rfl rfl)) rfl rfl hl.1 rfl (lv_room (Nat.le_of_ble_eq_true rfl)) dX4_number_20 ⟨Nat.zero_le _, Nat.zero_le _⟩) hP hD hS hA hfo (fun H locs hP hD hS => ?_)
        refine lv_iadd hx hb dX4_number_23 ?_
        refine lv_bipush (v := 48) hx hb dX4_number_24 (by decide) ?_
        refine lv_isub hx hb dX4_number_26 ?_
        refine lv_topi (fun x9 ex9 => ?_)
        have hf := lt_use ex9 hf
        refine lv_istore_n (lv' := [(3, .int x9), (0, .ref (a1 0)), (1, .int p1), (2, .int p2), (4, .int x2)]) hx hb dX4_number_27 rfl hl (by decide) rfl (fun ls hl => ?_)
        obtain ⟨x10, ex10⟩ : ∃ y : Int32, y = x2 + 1 := ⟨_, rfl⟩
        have hf := lt_use ex10 hf
        refine lv_iinc (v := x10) (lv' := [(4, .int x10), (3, .int x9), (0, .ref (a1 0)), (1, .int p1), (2, .int p2)]) hx hb dX4_number_28 hl (k := 4) rfl (by rw [ex10]; rfl) (by decide) rfl (fun ls hl => ?_)
        refine lv_goto (tgt := 5) hx hb dX4_number_31 (by decide) ?_
        exact ih5 _ _ _ _ hP hD hS _ (lv_sub hl [2, 3, 4, 1, 0] rfl) hf
  exact L5_F3 fu _ _ _ _ hP hD hS _ (lv_sub hl [2, 3, 4, 1, 0] rfl) hf
def pX4_carryOut (fu : Nat) (m1 : Mem) (m2 : Mem) (p2 : Int32) : Option (Int32 × Mem) :=
  bd (pX4_letterAt fu m1 p2) fun r1 =>
  if r1 = 115 then
    bd (pX4_number fu m1 (p2 + 1) 1) fun r40 =>
    bd (pX4_number fu m1 (p2 + 3) (((m1 0 2) - p2) - 4)) fun r42 =>
    bd (pX2_settingRefusal fu m2 r40 r42) fun r44 =>
    jn1 (fun (x46 : Int32) =>
      if x46 = 0 then
        ckz x46 <| some (x46, m2)
      else
        bd2 (pX2_change fu m2 r40 r42) fun r50 y51 =>
        ckz x46 <| some (x46, y51)) fun k47 =>
    if r44 = 0 then
      k47 1
    else
      k47 0
  else
    bd (pX4_letterAt fu m1 p2) fun r4 =>
    if r4 = 99 then
      bd (pX4_number fu m1 (p2 + 1) 1) fun r26 =>
      bd (pX4_number fu m1 (p2 + 2) 1) fun r28 =>
      bd (pX4_number fu m1 (p2 + 3) 3) fun r30 =>
      bd (pX4_number fu m1 (p2 + 6) 1) fun r32 =>
      bd (pX4_number fu m1 (p2 + 7) 2) fun r34 =>
      bd2 (pX2_add fu m2 r26 r28 r30 r32 r34) fun r36 y37 =>
      ckz r36 <| some (r36, y37)
    else
      bd (pX4_number fu m1 (p2 + 1) 1) fun r7 =>
      bd (pX4_number fu m1 (p2 + 2) 1) fun r9 =>
      bd (pX2_hasComer fu m2 r7) fun r11 =>
      jn1 (fun (x13 : Int32) =>
        if x13 = 0 then
          ckz x13 <| some (x13, m2)
        else
          ck r7 8 <|
          bd (pX4_number fu m1 (p2 + 3) 1) fun r18 =>
          bd (pX1_become fu (m2 (5 + r7.toNatClampNeg)) r9 r18) fun y20 =>
          lt' (va_up m2 (5 + r7.toNatClampNeg) y20) fun y22 =>
          ckz x13 <| some (x13, y22)) fun k14 =>
      if r11 = 0 then
        k14 0
      else
        if 7 ≤ r9 then
          k14 0
        else
          k14 1
set_option maxHeartbeats 4000000 in
set_option maxRecDepth 100000 in
theorem tX4_carryOut (l : Launch) (D : va_G) (z tt : Nat → Nat) (a1 : Nat → Nat) (a2 : Nat → Nat) (m1 : Mem) (m2 : Mem) (p2 : Int32) (fu : Nat) (rr : Int32) (m2' : Mem) (hf : pX4_carryOut fu m1 m2 p2 = some (rr, m2')) : MetI l yX4_carryOut wsX4_carryOut ({ frames := 3, cells := 0, slots := 0, locals := 66 } : Room) D z tt ([.ref (a1 0), .ref (a2 0), .int p2] : List Value) (WLet z a1 m1 ++ (WDay z a2 m2)) rr (WLet z a1 m1 ++ (WDay z a2 m2')) := by
  intro sz
  refine Met.ofW (cc := cX4_carryOut) (maxL := 6) (ret := (some .boolean)) (by decide) rfl ?_
  intro p e s m args below meth c s₁ B hml hv
  obtain ⟨rfl, hsz, hP, hK, hD0, hT, hN⟩ := hv
  have hx := B.exec
  have hb := B.bytes
  have hr := B.returns
  have hts : ∀ w ∈ wsA, w.before ([.ref (a1 0), .ref (a2 0), .int p2] : List Value).toArray s = true := fun w h => atoms_spec (ws := wsX4_carryOut) B.pre w (List.mem_cons_of_mem _ h)
  have hown : s.vm.findClass RX4 = some m.cls := findClass_of_methodNamed B.named
  have hlocks := B.notSynchronized
  subst hsz
  have hD := hD0.self (sz := s.heap.size)
  generalize hAe : va_A (WLet z a1 m1 ++ (WDay z a2 m2)) s.heap.size = A at hD hT ⊢
  have hA : ∀ q : Nat, s.heap.size ≤ q → A q := fun q h => by rw [← hAe]; exact Or.inr h
  have hS : va_S A s.heap s.heap [] := va_S.rf
  have hl := lv_entry ([.ref (a1 0), .ref (a2 0), .int p2] : List Value) (n := 6) (Nat.le_of_ble_eq_true rfl)
  rw [lg_entry_eq]
  generalize (lg_sl ([.ref (a1 0), .ref (a2 0), .int p2] : List Value) ++ List.replicate (6 - (lg_sl ([.ref (a1 0), .ref (a2 0), .int p2] : List Value)).length) Slot.unset).toArray = ls at hl ⊢
  have hl : lv_has ls 6 [(0, .ref (a1 0)), (1, .ref (a2 0)), (2, .int p2)] := hl
  unfold pX4_carryOut at hf
  refine lv_aload_n hx hb dX4_carryOut_0 rfl (lv_at hl 0 rfl) ?_
  refine lv_iload_n hx hb dX4_carryOut_1 rfl (lv_at hl 2 rfl) ?_
  obtain ⟨r1, q2, hf⟩ := bd_use hf
  have hfo : Foc (WLet z a1 m1 ++ (WDay z a2 m2)) (WLet z a1 m1) (WLet z a1 m1 ++ (WDay z a2 m2)) (WLet z a1 m1) := (foc_l foc_all)
  refine z_goI (ws1 := (WLet z a1 m1 ++ (WDay z a2 m2))) (va_runV (As := [.int p2]) (rest := []) ⟨hx, hb, hml, hown, hts⟩ (tX4_letterAt l D z tt a1 m1 p2 fu r1 q2 _) (cwV 1 hts (gV4 aw319 aw320 aw321 aw51 aw322) rfl rfl rfl (by decide +kernel) ⟨Nat.le_of_ble_eq_true rfl, Nat.le_of_ble_eq_true rfl⟩) (z_preV hK hP hD hS hA hT hN hfo (va_recv hK hP (ci := 4) (q0 := 0) rfl rfl)) rfl rfl hl.1 rfl (lv_room (Nat.le_of_ble_eq_true rfl)) dX4_carryOut_2 ⟨Nat.zero_le _, Nat.zero_le _⟩) hP hD hS hA hfo (fun H locs hP hD hS => ?_)
  refine lv_bipush (v := 115) hx hb dX4_carryOut_5 (by decide) ?_
  refine lv_icmp_ne (tgt := 69) hx hb dX4_carryOut_7 (by decide) (fun c3 => ?_) (fun c3 => ?_)
  · have hf := if_f c3 hf
    refine lv_aload_n hx hb dX4_carryOut_69 rfl (lv_at hl 0 rfl) ?_
    refine lv_iload_n hx hb dX4_carryOut_70 rfl (lv_at hl 2 rfl) ?_
    obtain ⟨r4, q5, hf⟩ := bd_use hf
    have hfo : Foc (WLet z a1 m1 ++ (WDay z a2 m2)) (WLet z a1 m1) (WLet z a1 m1 ++ (WDay z a2 m2)) (WLet z a1 m1) := (foc_l foc_all)
    refine z_goI (ws1 := (WLet z a1 m1 ++ (WDay z a2 m2))) (va_runV (As := [.int p2]) (rest := []) ⟨hx, hb, hml, hown, hts⟩ (tX4_letterAt l D z tt a1 m1 p2 fu r4 q5 _) (cwV 1 hts (gV4 aw319 aw320 aw321 aw51 aw322) rfl rfl rfl (by decide +kernel) ⟨Nat.le_of_ble_eq_true rfl, Nat.le_of_ble_eq_true rfl⟩) (z_preV hK hP hD hS hA hT hN hfo (va_recv hK hP (ci := 4) (q0 := 0) rfl rfl)) rfl rfl hl.1 rfl (lv_room (Nat.le_of_ble_eq_true rfl)) dX4_carryOut_71 ⟨Nat.zero_le _, Nat.zero_le _⟩) hP hD hS hA hfo (fun H locs hP hD hS => ?_)
    refine lv_bipush (v := 99) hx hb dX4_carryOut_74 (by decide) ?_
    refine lv_icmp_ne (tgt := 126) hx hb dX4_carryOut_76 (by decide) (fun c6 => ?_) (fun c6 => ?_)
    · have hf := if_f c6 hf
      refine lv_aload_n hx hb dX4_carryOut_126 rfl (lv_at hl 0 rfl) ?_
      refine lv_iload_n hx hb dX4_carryOut_127 rfl (lv_at hl 2 rfl) ?_
      refine lv_iconst (v := 1) hx hb dX4_carryOut_128 (by decide) ?_
      refine lv_iadd hx hb dX4_carryOut_129 ?_
      refine lv_iconst (v := 1) hx hb dX4_carryOut_130 (by decide) ?_
      obtain ⟨r7, q8, hf⟩ := bd_use hf
      have hfo : Foc (WLet z a1 m1 ++ (WDay z a2 m2)) (WLet z a1 m1) (WLet z a1 m1 ++ (WDay z a2 m2)) (WLet z a1 m1) := (foc_l foc_all)
      refine z_goI (ws1 := (WLet z a1 m1 ++ (WDay z a2 m2))) (va_runV (As := [.int (p2 + 1), .int 1]) (rest := []) ⟨hx, hb, hml, hown, hts⟩ (tX4_number l D z tt a1 m1 (p2 + 1) 1 fu r7 q8 _) (cwV 2 hts (gV4 aw331 aw332 aw333 aw51 aw334) rfl rfl rfl (by decide +kernel) ⟨Nat.le_of_ble_eq_true rfl, Nat.le_of_ble_eq_true rfl⟩) (z_preV hK hP hD hS hA hT hN hfo (va_recv hK hP (ci := 4) (q0 := 0) rfl rfl)) rfl rfl hl.1 rfl (lv_room (Nat.le_of_ble_eq_true rfl)) dX4_carryOut_131 ⟨Nat.zero_le _, Nat.zero_le _⟩) hP hD hS hA hfo (fun H locs hP hD hS => ?_)
      refine lv_istore_n (lv' := [(3, .int r7), (0, .ref (a1 0)), (1, .ref (a2 0)), (2, .int p2)]) hx hb dX4_carryOut_134 rfl hl (by decide) rfl (fun ls hl => ?_)
      refine lv_aload_n hx hb dX4_carryOut_135 rfl (lv_at hl 1 rfl) ?_
      refine lv_iload_n hx hb dX4_carryOut_136 rfl (lv_at hl 3 rfl) ?_
      refine lv_iconst (v := 2) hx hb dX4_carryOut_137 (by decide) ?_
      refine lv_iadd hx hb dX4_carryOut_138 ?_
      refine lv_iconst (v := 1) hx hb dX4_carryOut_139 (by decide) ?_
      obtain ⟨r9, q10, hf⟩ := bd_use hf
      have hfo : Foc (WLet z a1 m1 ++ (WDay z a2 m2)) (WLet z a1 m1) (WLet z a1 m1 ++ (WDay z a2 m2)) (WLet z a1 m1) := (foc_l foc_all)
      refine z_goI (ws1 := (WLet z a1 m1 ++ (WDay z a2 m2))) (va_runV (As := [.int (p2 + 2), .int 1]) (rest := []) ⟨hx, hb, hml, hown, hts⟩ (tX4_number l D z tt a1 m1 (p2 + 2) 1 fu r9 q10 _) (cwV 2 hts (gV4 aw331 aw332 aw333 aw51 aw334) rfl rfl rfl (by decide +kernel) ⟨Nat.le_of_ble_eq_true rfl, Nat.le_of_ble_eq_true rfl⟩) (z_preV hK hP hD hS hA hT hN hfo (va_recv hK hP (ci := 4) (q0 := 0) rfl rfl)) rfl rfl hl.1 rfl (lv_room (Nat.le_of_ble_eq_true rfl)) dX4_carryOut_140 ⟨Nat.zero_le _, Nat.zero_le _⟩) hP hD hS hA hfo (fun H locs hP hD hS => ?_)
      refine lv_istore (lv' := [(4, .int r9), (3, .int r7), (0, .ref (a1 0)), (1, .ref (a2 0)), (2, .int p2)]) hx hb dX4_carryOut_143 hl (by decide) rfl (fun ls hl => ?_)
      refine lv_aload_n hx hb dX4_carryOut_145 rfl (lv_at hl 3 rfl) ?_
      refine lv_iload_n hx hb dX4_carryOut_146 rfl (lv_at hl 1 rfl) ?_
      obtain ⟨r11, q12, hf⟩ := bd_use hf
      have hfo : Foc (WLet z a1 m1 ++ (WDay z a2 m2)) (WDay z a2 m2) (WLet z a1 m1 ++ (WDay z a2 m2)) (WDay z a2 m2) := (foc_r foc_all)
      refine z_goI (ws1 := (WLet z a1 m1 ++ (WDay z a2 m2))) (va_runV (As := [.int r7]) (rest := []) ⟨hx, hb, hml, hown, hts⟩ (tX2_hasComer l D z tt a2 m2 r7 fu r11 q12 _) (cwV 1 hts (gV4 aw363 aw364 aw365 aw46 aw366) rfl rfl rfl (by decide +kernel) ⟨Nat.le_of_ble_eq_true rfl, Nat.le_of_ble_eq_true rfl⟩) (z_preV hK hP hD hS hA hT hN hfo (va_recv hK hP (ci := 2) (q0 := 2) rfl rfl)) rfl rfl hl.1 rfl (lv_room (Nat.le_of_ble_eq_true rfl)) dX4_carryOut_147 ⟨Nat.zero_le _, Nat.zero_le _⟩) hP hD hS hA hfo (fun H locs hP hD hS => ?_)
      obtain ⟨k14, ek14, hf⟩ := jn1_use hf
      have B165_k14 : ∀ (x13 : Int32) (H : Heap) (locs : List Loc), va_P D vwCl (WLet z a1 m1 ++ (WDay z a2 m2)) H → va_D A (WLet z a1 m1 ++ (WDay z a2 m2)) → va_S A s.heap H locs → ∀ (ls : Array Slot), lv_has ls 6 [(0, .ref (a1 0)), (1, .ref (a2 0)), (2, .int p2), (3, .int r7), (4, .int r9)] → k14 x13 = some (rr, m2') → GI p l e (headSpec wsX4_carryOut ({ frames := 3, cells := 0, slots := 0, locals := 66 } : Room)).room s m ([.ref (a1 0), .ref (a2 0), .int p2] : List Value).toArray below meth c A D z rr (WLet z a1 m1 ++ (WDay z a2 m2')) H locs (F0 m 165 ls [.int x13]) := by
        intro x13 H locs hP hD hS ls hl hf
        have hf := jn1_ap ek14 hf
        refine lv_istore (lv' := [(5, .int x13), (0, .ref (a1 0)), (1, .ref (a2 0)), (2, .int p2), (3, .int r7), (4, .int r9)]) hx hb dX4_carryOut_165 hl (by decide) rfl (fun ls hl => ?_)
        refine lv_iload hx hb dX4_carryOut_167 (lv_at hl 0 rfl) ?_
        refine lv_if_eq (tgt := 191) hx hb dX4_carryOut_169 (by decide) (fun c15 => ?_) (fun c15 => ?_)
        · have hf := if_t c15 hf
          refine lv_iload hx hb dX4_carryOut_191 (lv_at hl 0 rfl) ?_
          obtain ⟨h16, hf⟩ := ckz_use hf
          obtain ⟨rfl, rfl⟩ := so2 hf
          exact ret_z hx hb hr hlocks hK hP hD hS h16 dX4_carryOut_193
        · have hf := if_f c15 hf
          refine lv_aload_n hx hb dX4_carryOut_172 rfl (lv_at hl 2 rfl) ?_
          refine va_get (D := D) (ci := 2) (v := .ref (a2 13)) (C := RX2) (T := TX2) (N := 8) hx hb hts iX2 hown hK hP 2 rfl rfl 1 (by decide) (hts _ aw158) (fun _ h9 => h9) rfl dX4_carryOut_173 ?_
          refine lv_iload_n hx hb dX4_carryOut_176 rfl (lv_at hl 4 rfl) ?_
          obtain ⟨h17, hf⟩ := ck_use hf
          refine z_ald hx hb hK hP 15 1 (C := "FilledForOne$Comer") (g := (fun j => a2 (5 + j))) rfl rfl h17 dX4_carryOut_177 ?_
          refine lv_iload hx hb dX4_carryOut_178 (lv_at hl 5 rfl) ?_
          refine lv_aload_n hx hb dX4_carryOut_180 rfl (lv_at hl 1 rfl) ?_
          refine lv_iload_n hx hb dX4_carryOut_181 rfl (lv_at hl 3 rfl) ?_
          refine lv_iconst (v := 3) hx hb dX4_carryOut_182 (by decide) ?_
          refine lv_iadd hx hb dX4_carryOut_183 ?_
          refine lv_iconst (v := 1) hx hb dX4_carryOut_184 (by decide) ?_
          obtain ⟨r18, q19, hf⟩ := bd_use hf
          have hfo : Foc (WLet z a1 m1 ++ (WDay z a2 m2)) (WLet z a1 m1) (WLet z a1 m1 ++ (WDay z a2 m2)) (WLet z a1 m1) := (foc_l foc_all)
          refine z_goI (ws1 := (WLet z a1 m1 ++ (WDay z a2 m2))) (va_runV (As := [.int (p2 + 3), .int 1]) (rest := [.int r9, .ref (a2 (5 + r7.toNatClampNeg))]) ⟨hx, hb, hml, hown, hts⟩ (tX4_number l D z tt a1 m1 (p2 + 3) 1 fu r18 q19 _) (cwV 2 hts (gV4 aw331 aw332 aw333 aw51 aw334) rfl rfl rfl (by decide +kernel) ⟨Nat.le_of_ble_eq_true rfl, Nat.le_of_ble_eq_true rfl⟩) (z_preV hK hP hD hS hA hT hN hfo (va_recv hK hP (ci := 4) (q0 := 0) rfl rfl)) rfl rfl hl.1 rfl (lv_room (Nat.le_of_ble_eq_true rfl)) dX4_carryOut_185 ⟨Nat.zero_le _, Nat.zero_le _⟩) hP hD hS hA hfo (fun H locs hP hD hS => ?_)
          obtain ⟨y20, q21, hf⟩ := bd_use hf
          obtain ⟨y22, ey22⟩ : ∃ w : Mem, w = va_up m2 (5 + r7.toNatClampNeg) y20 := ⟨_, rfl⟩
          have hf := lt_use ey22 hf
          have hfo : Foc (WLet z a1 m1 ++ (WDay z a2 m2)) (WCom (a2 (5 + r7.toNatClampNeg)) (m2 (5 + r7.toNatClampNeg))) (WLet z a1 m1 ++ (WDay z a2 y22)) (WCom (a2 (5 + r7.toNatClampNeg)) y20) := (foc_r (foc_el (WDay_c z a2 m2 (vp_lt h17)) (by rw [ey22]; exact WDay_sc z a2 m2 y20 (vp_lt h17))))
          refine z_goV (ws1 := (WLet z a1 m1 ++ (WDay z a2 y22))) (va_runV (As := [.int r9, .int r18]) (rest := []) ⟨hx, hb, hml, hown, hts⟩ (tX1_become l D z tt (a2 (5 + r7.toNatClampNeg)) (m2 (5 + r7.toNatClampNeg)) r9 r18 fu y20 q21 _) (cwV 2 hts (gV4 aw367 aw300 aw301 aw47 aw302) rfl rfl rfl (by decide +kernel) ⟨Nat.le_of_ble_eq_true rfl, Nat.le_of_ble_eq_true rfl⟩) (z_preV hK hP hD hS hA hT hN hfo (va_recv hK hP (ci := 1) (q0 := (2 + (5 + r7.toNatClampNeg))) rfl (w_skip (n := 2) rfl (WDay_c z a2 m2 (vp_lt h17))))) rfl rfl hl.1 rfl (lv_room (Nat.le_of_ble_eq_true rfl)) dX4_carryOut_188 ⟨Nat.zero_le _, Nat.zero_le _⟩) hP hD hS hA hfo (fun H locs hP hD hS => ?_)
          refine lv_iload hx hb dX4_carryOut_191 (lv_at hl 0 rfl) ?_
          obtain ⟨h23, hf⟩ := ckz_use hf
          obtain ⟨rfl, rfl⟩ := so2 hf
          exact ret_z hx hb hr hlocks hK hP hD hS h23 dX4_carryOut_193
      refine lv_if_eq (tgt := 164) hx hb dX4_carryOut_150 (by decide) (fun c24 => ?_) (fun c24 => ?_)
      · have hf := if_t c24 hf
        refine lv_iconst (v := 0) hx hb dX4_carryOut_164 (by decide) ?_
        exact B165_k14 _ _ _ hP hD hS _ (lv_sub hl [2, 3, 4, 1, 0] rfl) hf
      · have hf := if_f c24 hf
        refine lv_iload hx hb dX4_carryOut_153 (lv_at hl 0 rfl) ?_
        refine lv_bipush (v := 7) hx hb dX4_carryOut_155 (by decide) ?_
        refine lv_icmp_ge (tgt := 164) hx hb dX4_carryOut_157 (by decide) (fun c25 => ?_) (fun c25 => ?_)
        · have hf := if_t c25 hf
          refine lv_iconst (v := 0) hx hb dX4_carryOut_164 (by decide) ?_
          exact B165_k14 _ _ _ hP hD hS _ (lv_sub hl [2, 3, 4, 1, 0] rfl) hf
        · have hf := if_f c25 hf
          refine lv_iconst (v := 1) hx hb dX4_carryOut_160 (by decide) ?_
          refine lv_goto (tgt := 165) hx hb dX4_carryOut_161 (by decide) ?_
          exact B165_k14 _ _ _ hP hD hS _ (lv_sub hl [2, 3, 4, 1, 0] rfl) hf
    · have hf := if_t c6 hf
      refine lv_aload_n hx hb dX4_carryOut_79 rfl (lv_at hl 1 rfl) ?_
      refine lv_aload_n hx hb dX4_carryOut_80 rfl (lv_at hl 0 rfl) ?_
      refine lv_iload_n hx hb dX4_carryOut_81 rfl (lv_at hl 2 rfl) ?_
      refine lv_iconst (v := 1) hx hb dX4_carryOut_82 (by decide) ?_
      refine lv_iadd hx hb dX4_carryOut_83 ?_
      refine lv_iconst (v := 1) hx hb dX4_carryOut_84 (by decide) ?_
      obtain ⟨r26, q27, hf⟩ := bd_use hf
      have hfo : Foc (WLet z a1 m1 ++ (WDay z a2 m2)) (WLet z a1 m1) (WLet z a1 m1 ++ (WDay z a2 m2)) (WLet z a1 m1) := (foc_l foc_all)
      refine z_goI (ws1 := (WLet z a1 m1 ++ (WDay z a2 m2))) (va_runV (As := [.int (p2 + 1), .int 1]) (rest := [.ref (a2 0)]) ⟨hx, hb, hml, hown, hts⟩ (tX4_number l D z tt a1 m1 (p2 + 1) 1 fu r26 q27 _) (cwV 2 hts (gV4 aw331 aw332 aw333 aw51 aw334) rfl rfl rfl (by decide +kernel) ⟨Nat.le_of_ble_eq_true rfl, Nat.le_of_ble_eq_true rfl⟩) (z_preV hK hP hD hS hA hT hN hfo (va_recv hK hP (ci := 4) (q0 := 0) rfl rfl)) rfl rfl hl.1 rfl (lv_room (Nat.le_of_ble_eq_true rfl)) dX4_carryOut_85 ⟨Nat.zero_le _, Nat.zero_le _⟩) hP hD hS hA hfo (fun H locs hP hD hS => ?_)
      refine lv_aload_n hx hb dX4_carryOut_88 rfl (lv_at hl 0 rfl) ?_
      refine lv_iload_n hx hb dX4_carryOut_89 rfl (lv_at hl 2 rfl) ?_
      refine lv_iconst (v := 2) hx hb dX4_carryOut_90 (by decide) ?_
      refine lv_iadd hx hb dX4_carryOut_91 ?_
      refine lv_iconst (v := 1) hx hb dX4_carryOut_92 (by decide) ?_
      obtain ⟨r28, q29, hf⟩ := bd_use hf
      have hfo : Foc (WLet z a1 m1 ++ (WDay z a2 m2)) (WLet z a1 m1) (WLet z a1 m1 ++ (WDay z a2 m2)) (WLet z a1 m1) := (foc_l foc_all)
      refine z_goI (ws1 := (WLet z a1 m1 ++ (WDay z a2 m2))) (va_runV (As := [.int (p2 + 2), .int 1]) (rest := [.int r26, .ref (a2 0)]) ⟨hx, hb, hml, hown, hts⟩ (tX4_number l D z tt a1 m1 (p2 + 2) 1 fu r28 q29 _) (cwV 2 hts (gV4 aw331 aw332 aw333 aw51 aw334) rfl rfl rfl (by decide +kernel) ⟨Nat.le_of_ble_eq_true rfl, Nat.le_of_ble_eq_true rfl⟩) (z_preV hK hP hD hS hA hT hN hfo (va_recv hK hP (ci := 4) (q0 := 0) rfl rfl)) rfl rfl hl.1 rfl (lv_room (Nat.le_of_ble_eq_true rfl)) dX4_carryOut_93 ⟨Nat.zero_le _, Nat.zero_le _⟩) hP hD hS hA hfo (fun H locs hP hD hS => ?_)
      refine lv_aload_n hx hb dX4_carryOut_96 rfl (lv_at hl 0 rfl) ?_
      refine lv_iload_n hx hb dX4_carryOut_97 rfl (lv_at hl 2 rfl) ?_
      refine lv_iconst (v := 3) hx hb dX4_carryOut_98 (by decide) ?_
      refine lv_iadd hx hb dX4_carryOut_99 ?_
      refine lv_iconst (v := 3) hx hb dX4_carryOut_100 (by decide) ?_
      obtain ⟨r30, q31, hf⟩ := bd_use hf
      have hfo : Foc (WLet z a1 m1 ++ (WDay z a2 m2)) (WLet z a1 m1) (WLet z a1 m1 ++ (WDay z a2 m2)) (WLet z a1 m1) := (foc_l foc_all)
      refine z_goI (ws1 := (WLet z a1 m1 ++ (WDay z a2 m2))) (va_runV (As := [.int (p2 + 3), .int 3]) (rest := [.int r28, .int r26, .ref (a2 0)]) ⟨hx, hb, hml, hown, hts⟩ (tX4_number l D z tt a1 m1 (p2 + 3) 3 fu r30 q31 _) (cwV 2 hts (gV4 aw331 aw332 aw333 aw51 aw334) rfl rfl rfl (by decide +kernel) ⟨Nat.le_of_ble_eq_true rfl, Nat.le_of_ble_eq_true rfl⟩) (z_preV hK hP hD hS hA hT hN hfo (va_recv hK hP (ci := 4) (q0 := 0) rfl rfl)) rfl rfl hl.1 rfl (lv_room (Nat.le_of_ble_eq_true rfl)) dX4_carryOut_101 ⟨Nat.zero_le _, Nat.zero_le _⟩) hP hD hS hA hfo (fun H locs hP hD hS => ?_)
      refine lv_aload_n hx hb dX4_carryOut_104 rfl (lv_at hl 0 rfl) ?_
      refine lv_iload_n hx hb dX4_carryOut_105 rfl (lv_at hl 2 rfl) ?_
      refine lv_bipush (v := 6) hx hb dX4_carryOut_106 (by decide) ?_
      refine lv_iadd hx hb dX4_carryOut_108 ?_
      refine lv_iconst (v := 1) hx hb dX4_carryOut_109 (by decide) ?_
      obtain ⟨r32, q33, hf⟩ := bd_use hf
      have hfo : Foc (WLet z a1 m1 ++ (WDay z a2 m2)) (WLet z a1 m1) (WLet z a1 m1 ++ (WDay z a2 m2)) (WLet z a1 m1) := (foc_l foc_all)
      refine z_goI (ws1 := (WLet z a1 m1 ++ (WDay z a2 m2))) (va_runV (As := [.int (p2 + 6), .int 1]) (rest := [.int r30, .int r28, .int r26, .ref (a2 0)]) ⟨hx, hb, hml, hown, hts⟩ (tX4_number l D z tt a1 m1 (p2 + 6) 1 fu r32 q33 _) (cwV 2 hts (gV4 aw331 aw332 aw333 aw51 aw334) rfl rfl rfl (by decide +kernel) ⟨Nat.le_of_ble_eq_true rfl, Nat.le_of_ble_eq_true rfl⟩) (z_preV hK hP hD hS hA hT hN hfo (va_recv hK hP (ci := 4) (q0 := 0) rfl rfl)) rfl rfl hl.1 rfl (lv_room (Nat.le_of_ble_eq_true rfl)) dX4_carryOut_110 ⟨Nat.zero_le _, Nat.zero_le _⟩) hP hD hS hA hfo (fun H locs hP hD hS => ?_)
      refine lv_aload_n hx hb dX4_carryOut_113 rfl (lv_at hl 0 rfl) ?_
      refine lv_iload_n hx hb dX4_carryOut_114 rfl (lv_at hl 2 rfl) ?_
      refine lv_bipush (v := 7) hx hb dX4_carryOut_115 (by decide) ?_
      refine lv_iadd hx hb dX4_carryOut_117 ?_
      refine lv_iconst (v := 2) hx hb dX4_carryOut_118 (by decide) ?_
      obtain ⟨r34, q35, hf⟩ := bd_use hf
      have hfo : Foc (WLet z a1 m1 ++ (WDay z a2 m2)) (WLet z a1 m1) (WLet z a1 m1 ++ (WDay z a2 m2)) (WLet z a1 m1) := (foc_l foc_all)
      refine z_goI (ws1 := (WLet z a1 m1 ++ (WDay z a2 m2))) (va_runV (As := [.int (p2 + 7), .int 2]) (rest := [.int r32, .int r30, .int r28, .int r26, .ref (a2 0)]) ⟨hx, hb, hml, hown, hts⟩ (tX4_number l D z tt a1 m1 (p2 + 7) 2 fu r34 q35 _) (cwV 2 hts (gV4 aw331 aw332 aw333 aw51 aw334) rfl rfl rfl (by decide +kernel) ⟨Nat.le_of_ble_eq_true rfl, Nat.le_of_ble_eq_true rfl⟩) (z_preV hK hP hD hS hA hT hN hfo (va_recv hK hP (ci := 4) (q0 := 0) rfl rfl)) rfl rfl hl.1 rfl (lv_room (Nat.le_of_ble_eq_true rfl)) dX4_carryOut_119 ⟨Nat.zero_le _, Nat.zero_le _⟩) hP hD hS hA hfo (fun H locs hP hD hS => ?_)
      obtain ⟨r36, y37, q38, hf⟩ := bd2_use hf
      have hfo : Foc (WLet z a1 m1 ++ (WDay z a2 m2)) (WDay z a2 m2) (WLet z a1 m1 ++ (WDay z a2 y37)) (WDay z a2 y37) := (foc_r foc_all)
      refine z_goI (ws1 := (WLet z a1 m1 ++ (WDay z a2 y37))) (va_runV (As := [.int r26, .int r28, .int r30, .int r32, .int r34]) (rest := []) ⟨hx, hb, hml, hown, hts⟩ (tX2_add l D z tt a2 m2 r26 r28 r30 r32 r34 fu r36 y37 q38 _) (cwV 5 hts (gV4 aw358 aw359 aw360 aw46 aw361) rfl rfl rfl (by decide +kernel) ⟨Nat.le_of_ble_eq_true rfl, Nat.le_of_ble_eq_true rfl⟩) (z_preV hK hP hD hS hA hT hN hfo (va_recv hK hP (ci := 2) (q0 := 2) rfl rfl)) rfl rfl hl.1 rfl (lv_room (Nat.le_of_ble_eq_true rfl)) dX4_carryOut_122 ⟨Nat.zero_le _, Nat.zero_le _⟩) hP hD hS hA hfo (fun H locs hP hD hS => ?_)
      obtain ⟨h39, hf⟩ := ckz_use hf
      obtain ⟨rfl, rfl⟩ := so2 hf
      exact ret_z hx hb hr hlocks hK hP hD hS h39 dX4_carryOut_125
  · have hf := if_t c3 hf
    refine lv_aload_n hx hb dX4_carryOut_10 rfl (lv_at hl 0 rfl) ?_
    refine lv_iload_n hx hb dX4_carryOut_11 rfl (lv_at hl 2 rfl) ?_
    refine lv_iconst (v := 1) hx hb dX4_carryOut_12 (by decide) ?_
    refine lv_iadd hx hb dX4_carryOut_13 ?_
    refine lv_iconst (v := 1) hx hb dX4_carryOut_14 (by decide) ?_
    obtain ⟨r40, q41, hf⟩ := bd_use hf
    have hfo : Foc (WLet z a1 m1 ++ (WDay z a2 m2)) (WLet z a1 m1) (WLet z a1 m1 ++ (WDay z a2 m2)) (WLet z a1 m1) := (foc_l foc_all)
    refine z_goI (ws1 := (WLet z a1 m1 ++ (WDay z a2 m2))) (va_runV (As := [.int (p2 + 1), .int 1]) (rest := []) ⟨hx, hb, hml, hown, hts⟩ (tX4_number l D z tt a1 m1 (p2 + 1) 1 fu r40 q41 _) (cwV 2 hts (gV4 aw331 aw332 aw333 aw51 aw334) rfl rfl rfl (by decide +kernel) ⟨Nat.le_of_ble_eq_true rfl, Nat.le_of_ble_eq_true rfl⟩) (z_preV hK hP hD hS hA hT hN hfo (va_recv hK hP (ci := 4) (q0 := 0) rfl rfl)) rfl rfl hl.1 rfl (lv_room (Nat.le_of_ble_eq_true rfl)) dX4_carryOut_15 ⟨Nat.zero_le _, Nat.zero_le _⟩) hP hD hS hA hfo (fun H locs hP hD hS => ?_)
    refine lv_istore_n (lv' := [(3, .int r40), (0, .ref (a1 0)), (1, .ref (a2 0)), (2, .int p2)]) hx hb dX4_carryOut_18 rfl hl (by decide) rfl (fun ls hl => ?_)
    refine lv_aload_n hx hb dX4_carryOut_19 rfl (lv_at hl 1 rfl) ?_
    refine lv_iload_n hx hb dX4_carryOut_20 rfl (lv_at hl 3 rfl) ?_
    refine lv_iconst (v := 3) hx hb dX4_carryOut_21 (by decide) ?_
    refine lv_iadd hx hb dX4_carryOut_22 ?_
    refine lv_aload_n hx hb dX4_carryOut_23 rfl (lv_at hl 1 rfl) ?_
    refine va_get (D := D) (ci := 4) (v := .int (m1 0 2)) (C := RX4) (T := TX4) (N := 3) hx hb hts iX4 hown hK hP 0 rfl rfl 2 (by decide) (hts _ aw232) (fun _ h9 => h9) rfl dX4_carryOut_24 ?_
    refine lv_iload_n hx hb dX4_carryOut_27 rfl (lv_at hl 3 rfl) ?_
    refine lv_isub hx hb dX4_carryOut_28 ?_
    refine lv_iconst (v := 4) hx hb dX4_carryOut_29 (by decide) ?_
    refine lv_isub hx hb dX4_carryOut_30 ?_
    obtain ⟨r42, q43, hf⟩ := bd_use hf
    have hfo : Foc (WLet z a1 m1 ++ (WDay z a2 m2)) (WLet z a1 m1) (WLet z a1 m1 ++ (WDay z a2 m2)) (WLet z a1 m1) := (foc_l foc_all)
    refine z_goI (ws1 := (WLet z a1 m1 ++ (WDay z a2 m2))) (va_runV (As := [.int (p2 + 3), .int (((m1 0 2) - p2) - 4)]) (rest := []) ⟨hx, hb, hml, hown, hts⟩ (tX4_number l D z tt a1 m1 (p2 + 3) (((m1 0 2) - p2) - 4) fu r42 q43 _) (cwV 2 hts (gV4 aw331 aw332 aw333 aw51 aw334) rfl rfl rfl (by decide +kernel) ⟨Nat.le_of_ble_eq_true rfl, Nat.le_of_ble_eq_true rfl⟩) (z_preV hK hP hD hS hA hT hN hfo (va_recv hK hP (ci := 4) (q0 := 0) rfl rfl)) rfl rfl hl.1 rfl (lv_room (Nat.le_of_ble_eq_true rfl)) dX4_carryOut_31 ⟨Nat.zero_le _, Nat.zero_le _⟩) hP hD hS hA hfo (fun H locs hP hD hS => ?_)
    refine lv_istore (lv' := [(4, .int r42), (3, .int r40), (0, .ref (a1 0)), (1, .ref (a2 0)), (2, .int p2)]) hx hb dX4_carryOut_34 hl (by decide) rfl (fun ls hl => ?_)
    refine lv_aload_n hx hb dX4_carryOut_36 rfl (lv_at hl 3 rfl) ?_
    refine lv_iload_n hx hb dX4_carryOut_37 rfl (lv_at hl 1 rfl) ?_
    refine lv_iload hx hb dX4_carryOut_38 (lv_at hl 0 rfl) ?_
    obtain ⟨r44, q45, hf⟩ := bd_use hf
    have hfo : Foc (WLet z a1 m1 ++ (WDay z a2 m2)) (WDay z a2 m2) (WLet z a1 m1 ++ (WDay z a2 m2)) (WDay z a2 m2) := (foc_r foc_all)
    refine z_goI (ws1 := (WLet z a1 m1 ++ (WDay z a2 m2))) (va_runV (As := [.int r40, .int r42]) (rest := []) ⟨hx, hb, hml, hown, hts⟩ (tX2_settingRefusal l D z tt a2 m2 r40 r42 fu r44 q45 _) (cwV 2 hts (gV4 aw335 aw336 aw337 aw46 aw338) rfl rfl rfl (by decide +kernel) ⟨Nat.le_of_ble_eq_true rfl, Nat.le_of_ble_eq_true rfl⟩) (z_preV hK hP hD hS hA hT hN hfo (va_recv hK hP (ci := 2) (q0 := 2) rfl rfl)) rfl rfl hl.1 rfl (lv_room (Nat.le_of_ble_eq_true rfl)) dX4_carryOut_40 ⟨Nat.zero_le _, Nat.zero_le _⟩) hP hD hS hA hfo (fun H locs hP hD hS => ?_)
    obtain ⟨k47, ek47, hf⟩ := jn1_use hf
    have B51_k47 : ∀ (x46 : Int32) (H : Heap) (locs : List Loc), va_P D vwCl (WLet z a1 m1 ++ (WDay z a2 m2)) H → va_D A (WLet z a1 m1 ++ (WDay z a2 m2)) → va_S A s.heap H locs → ∀ (ls : Array Slot), lv_has ls 6 [(1, .ref (a2 0)), (3, .int r40), (4, .int r42)] → k47 x46 = some (rr, m2') → GI p l e (headSpec wsX4_carryOut ({ frames := 3, cells := 0, slots := 0, locals := 66 } : Room)).room s m ([.ref (a1 0), .ref (a2 0), .int p2] : List Value).toArray below meth c A D z rr (WLet z a1 m1 ++ (WDay z a2 m2')) H locs (F0 m 51 ls [.int x46]) := by
      intro x46 H locs hP hD hS ls hl hf
      have hf := jn1_ap ek47 hf
      refine lv_istore (lv' := [(5, .int x46), (1, .ref (a2 0)), (3, .int r40), (4, .int r42)]) hx hb dX4_carryOut_51 hl (by decide) rfl (fun ls hl => ?_)
      refine lv_iload hx hb dX4_carryOut_53 (lv_at hl 0 rfl) ?_
      refine lv_if_eq (tgt := 66) hx hb dX4_carryOut_55 (by decide) (fun c48 => ?_) (fun c48 => ?_)
      · have hf := if_t c48 hf
        refine lv_iload hx hb dX4_carryOut_66 (lv_at hl 0 rfl) ?_
        obtain ⟨h49, hf⟩ := ckz_use hf
        obtain ⟨rfl, rfl⟩ := so2 hf
        exact ret_z hx hb hr hlocks hK hP hD hS h49 dX4_carryOut_68
      · have hf := if_f c48 hf
        refine lv_aload_n hx hb dX4_carryOut_58 rfl (lv_at hl 1 rfl) ?_
        refine lv_iload_n hx hb dX4_carryOut_59 rfl (lv_at hl 2 rfl) ?_
        refine lv_iload hx hb dX4_carryOut_60 (lv_at hl 3 rfl) ?_
        obtain ⟨r50, y51, q52, hf⟩ := bd2_use hf
        have hfo : Foc (WLet z a1 m1 ++ (WDay z a2 m2)) (WDay z a2 m2) (WLet z a1 m1 ++ (WDay z a2 y51)) (WDay z a2 y51) := (foc_r foc_all)
        refine z_goI (ws1 := (WLet z a1 m1 ++ (WDay z a2 y51))) (va_runV (As := [.int r40, .int r42]) (rest := []) ⟨hx, hb, hml, hown, hts⟩ (tX2_change l D z tt a2 m2 r40 r42 fu r50 y51 q52 _) (cwV 2 hts (gV4 aw354 aw355 aw356 aw46 aw357) rfl rfl rfl (by decide +kernel) ⟨Nat.le_of_ble_eq_true rfl, Nat.le_of_ble_eq_true rfl⟩) (z_preV hK hP hD hS hA hT hN hfo (va_recv hK hP (ci := 2) (q0 := 2) rfl rfl)) rfl rfl hl.1 rfl (lv_room (Nat.le_of_ble_eq_true rfl)) dX4_carryOut_62 ⟨Nat.zero_le _, Nat.zero_le _⟩) hP hD hS hA hfo (fun H locs hP hD hS => ?_)
        refine lv_pop hx hb dX4_carryOut_65 rfl ?_
        refine lv_iload hx hb dX4_carryOut_66 (lv_at hl 0 rfl) ?_
        obtain ⟨h53, hf⟩ := ckz_use hf
        obtain ⟨rfl, rfl⟩ := so2 hf
        exact ret_z hx hb hr hlocks hK hP hD hS h53 dX4_carryOut_68
    refine lv_if_ne (tgt := 50) hx hb dX4_carryOut_43 (by decide) (fun c54 => ?_) (fun c54 => ?_)
    · have hf := if_f c54 hf
      refine lv_iconst (v := 0) hx hb dX4_carryOut_50 (by decide) ?_
      exact B51_k47 _ _ _ hP hD hS _ (lv_sub hl [3, 1, 0] rfl) hf
    · have hf := if_t c54 hf
      refine lv_iconst (v := 1) hx hb dX4_carryOut_46 (by decide) ?_
      refine lv_goto (tgt := 51) hx hb dX4_carryOut_47 (by decide) ?_
      exact B51_k47 _ _ _ hP hD hS _ (lv_sub hl [3, 1, 0] rfl) hf
def pX4_read (fu : Nat) (m1 : Mem) (m2 : Mem) : Option (Int32 × Mem × Mem) :=
  lt' (up2 m1 0 2 0) fun y1 =>
  zl2 (fun g5 (x2 : Int32) (y3 : Mem) =>
    if 96 ≤ x2 then
      lt' (up2 y3 0 2 0) fun y8 =>
      zl3 (fun g13 (x9 : Int32) (y10 : Mem) (y11 : Mem) =>
        if (y10 0 1) ≤ (y10 0 2) then
          some (x9, y10, y11)
        else
          if 96 ≤ x9 then
            some (x9, y10, y11)
          else
            lt' ((y10 0 2) : Int32) fun x17 =>
            bd2 (pX4_skipStatement fu y10) fun r18 y19 =>
            if r18 = 0 then
              some (((-2000) - x17), y19, y11)
            else
              bd2 (pX4_carryOut fu y19 y11 x17) fun r22 y23 =>
              if r22 = 0 then
                some (((-2000) - x17), y19, y23)
              else
                lt' (x9 + 1) fun x26 =>
                g13 x26 y19 y23) fu 0 y8 m2
    else
      jn1 (fun (u0 : Unit) =>
        bd2 (pX4_skipStatement fu y3) fun r28 y29 =>
        if r28 = 0 then
          some (((-1000) - (y29 0 2)), y29, m2)
        else
          lt' (x2 + 1) fun x32 =>
          g5 x32 y29) fun k27 =>
      if x2 = 0 then
        k27 ()
      else
        if (y3 0 1) ≤ (y3 0 2) then
          lt' (up2 y3 0 2 0) fun y35 =>
          zl3 (fun g40 (x36 : Int32) (y37 : Mem) (y38 : Mem) =>
            if (y37 0 1) ≤ (y37 0 2) then
              some (x36, y37, y38)
            else
              if 96 ≤ x36 then
                some (x36, y37, y38)
              else
                lt' ((y37 0 2) : Int32) fun x44 =>
                bd2 (pX4_skipStatement fu y37) fun r45 y46 =>
                if r45 = 0 then
                  some (((-2000) - x44), y46, y38)
                else
                  bd2 (pX4_carryOut fu y46 y38 x44) fun r49 y50 =>
                  if r49 = 0 then
                    some (((-2000) - x44), y46, y50)
                  else
                    lt' (x36 + 1) fun x53 =>
                    g40 x53 y46 y50) fu 0 y35 m2
        else
          k27 ()) fu 0 y1
set_option maxHeartbeats 4000000 in
set_option maxRecDepth 100000 in
theorem tX4_read (l : Launch) (D : va_G) (z tt : Nat → Nat) (a1 : Nat → Nat) (a2 : Nat → Nat) (m1 : Mem) (m2 : Mem)  (fu : Nat) (rr : Int32) (m1' : Mem) (m2' : Mem) (hf : pX4_read fu m1 m2 = some (rr, m1', m2')) : MetI l yX4_read wsX4_read ({ frames := 4, cells := 0, slots := 0, locals := 91 } : Room) D z tt ([.ref (a1 0), .ref (a2 0)] : List Value) (WLet z a1 m1 ++ (WDay z a2 m2)) rr (WLet z a1 m1' ++ (WDay z a2 m2')) := by
  intro sz
  refine Met.ofW (cc := cX4_read) (maxL := 4) (ret := (some .int)) (by decide) rfl ?_
  intro p e s m args below meth c s₁ B hml hv
  obtain ⟨rfl, hsz, hP, hK, hD0, hT, hN⟩ := hv
  have hx := B.exec
  have hb := B.bytes
  have hr := B.returns
  have hts : ∀ w ∈ wsA, w.before ([.ref (a1 0), .ref (a2 0)] : List Value).toArray s = true := fun w h => atoms_spec (ws := wsX4_read) B.pre w (List.mem_cons_of_mem _ h)
  have hown : s.vm.findClass RX4 = some m.cls := findClass_of_methodNamed B.named
  have hlocks := B.notSynchronized
  subst hsz
  have hD := hD0.self (sz := s.heap.size)
  generalize hAe : va_A (WLet z a1 m1 ++ (WDay z a2 m2)) s.heap.size = A at hD hT ⊢
  have hA : ∀ q : Nat, s.heap.size ≤ q → A q := fun q h => by rw [← hAe]; exact Or.inr h
  have hS : va_S A s.heap s.heap [] := va_S.rf
  have hl := lv_entry ([.ref (a1 0), .ref (a2 0)] : List Value) (n := 4) (Nat.le_of_ble_eq_true rfl)
  rw [lg_entry_eq]
  generalize (lg_sl ([.ref (a1 0), .ref (a2 0)] : List Value) ++ List.replicate (4 - (lg_sl ([.ref (a1 0), .ref (a2 0)] : List Value)).length) Slot.unset).toArray = ls at hl ⊢
  have hl : lv_has ls 4 [(0, .ref (a1 0)), (1, .ref (a2 0))] := hl
  unfold pX4_read at hf
  refine lv_aload_n hx hb dX4_read_0 rfl (lv_at hl 0 rfl) ?_
  refine lv_iconst (v := 0) hx hb dX4_read_1 (by decide) ?_
  refine z_put (ci := 4) (v := .int 0) (ty := .int) (C := RX4) (T := TX4) (N := 3) hx hb hts iX4 tyX4 tyX4_ok nmX4 hown hK hP hD hS 0 rfl rfl 2 (by decide) (hts _ aw232) (fun _ h9 => h9) rfl (by decide +kernel) rfl rfl (Nat.le_of_ble_eq_true rfl) dX4_read_2 (fun (w9 : Mem) => (WLet z a1 w9 ++ (WDay z a2 m2))) (up2 m1 0 2 0) rfl (fun y1 ey1 H locs hP hD hS => ?_)
  have hf := lt_use ey1 hf
  refine lv_iconst (v := 0) hx hb dX4_read_5 (by decide) ?_
  refine lv_istore_n (lv' := [(2, .int 0), (0, .ref (a1 0)), (1, .ref (a2 0))]) hx hb dX4_read_6 rfl hl (by decide) rfl (fun ls hl => ?_)
  obtain ⟨F4, eF4, hf⟩ := zl2_use hf
  have L7_F4 : ∀ (n : Nat) (x2 : Int32) (y3 : Mem) (H : Heap) (locs : List Loc), va_P D vwCl (WLet z a1 y3 ++ (WDay z a2 m2)) H → va_D A (WLet z a1 y3 ++ (WDay z a2 m2)) → va_S A s.heap H locs → ∀ (ls : Array Slot), lv_has ls 4 [(0, .ref (a1 0)), (1, .ref (a2 0)), (2, .int x2)] → zl2 F4 n x2 y3 = some (rr, m1', m2') → GI p l e (headSpec wsX4_read ({ frames := 4, cells := 0, slots := 0, locals := 91 } : Room)).room s m ([.ref (a1 0), .ref (a2 0)] : List Value).toArray below meth c A D z rr (WLet z a1 m1' ++ (WDay z a2 m2')) H locs (F0 m 7 ls []) := by
    intro n
    induction n with
    | zero =>
      intro x2 y3 H locs hP hD hS ls hl hf
      exact no_none hf
    | succ n ih6 =>
      intro x2 y3 H locs hP hD hS ls hl hf
      have hf := zl2_s eF4 hf
      refine lv_iload_n hx hb dX4_read_7 rfl (lv_at hl 2 rfl) ?_
      refine lv_bipush (v := 96) hx hb dX4_read_8 (by decide) ?_
      refine lv_icmp_ge (tgt := 50) hx hb dX4_read_10 (by decide) (fun c7 => ?_) (fun c7 => ?_)
      · have hf := if_t c7 hf
        refine lv_aload_n hx hb dX4_read_50 rfl (lv_at hl 0 rfl) ?_
        refine lv_iconst (v := 0) hx hb dX4_read_51 (by decide) ?_
        refine z_put (ci := 4) (v := .int 0) (ty := .int) (C := RX4) (T := TX4) (N := 3) hx hb hts iX4 tyX4 tyX4_ok nmX4 hown hK hP hD hS 0 rfl rfl 2 (by decide) (hts _ aw232) (fun _ h9 => h9) rfl (by decide +kernel) rfl rfl (Nat.le_of_ble_eq_true rfl) dX4_read_52 (fun (w9 : Mem) => (WLet z a1 w9 ++ (WDay z a2 m2))) (up2 y3 0 2 0) rfl (fun y8 ey8 H locs hP hD hS => ?_)
        have hf := lt_use ey8 hf
        refine lv_iconst (v := 0) hx hb dX4_read_55 (by decide) ?_
        refine lv_istore_n (lv' := [(2, .int 0), (0, .ref (a1 0)), (1, .ref (a2 0))]) hx hb dX4_read_56 rfl hl (by decide) rfl (fun ls hl => ?_)
        obtain ⟨F12, eF12, hf⟩ := zl3_use hf
        have L57_F12 : ∀ (n : Nat) (x9 : Int32) (y10 : Mem) (y11 : Mem) (H : Heap) (locs : List Loc), va_P D vwCl (WLet z a1 y10 ++ (WDay z a2 y11)) H → va_D A (WLet z a1 y10 ++ (WDay z a2 y11)) → va_S A s.heap H locs → ∀ (ls : Array Slot), lv_has ls 4 [(0, .ref (a1 0)), (1, .ref (a2 0)), (2, .int x9)] → zl3 F12 n x9 y10 y11 = some (rr, m1', m2') → GI p l e (headSpec wsX4_read ({ frames := 4, cells := 0, slots := 0, locals := 91 } : Room)).room s m ([.ref (a1 0), .ref (a2 0)] : List Value).toArray below meth c A D z rr (WLet z a1 m1' ++ (WDay z a2 m2')) H locs (F0 m 57 ls []) := by
          intro n
          induction n with
          | zero =>
            intro x9 y10 y11 H locs hP hD hS ls hl hf
            exact no_none hf
          | succ n ih14 =>
            intro x9 y10 y11 H locs hP hD hS ls hl hf
            have hf := zl3_s eF12 hf
            refine lv_aload_n hx hb dX4_read_57 rfl (lv_at hl 0 rfl) ?_
            refine va_get (D := D) (ci := 4) (v := .int (y10 0 2)) (C := RX4) (T := TX4) (N := 3) hx hb hts iX4 hown hK hP 0 rfl rfl 2 (by decide) (hts _ aw232) (fun _ h9 => h9) rfl dX4_read_58 ?_
            refine lv_aload_n hx hb dX4_read_61 rfl (lv_at hl 0 rfl) ?_
            refine va_get (D := D) (ci := 4) (v := .int (y10 0 1)) (C := RX4) (T := TX4) (N := 3) hx hb hts iX4 hown hK hP 0 rfl rfl 1 (by decide) (hts _ aw230) (fun _ h9 => h9) rfl dX4_read_62 ?_
            refine lv_icmp_ge (tgt := 107) hx hb dX4_read_65 (by decide) (fun c15 => ?_) (fun c15 => ?_)
            · have hf := if_t c15 hf
              refine lv_iload_n hx hb dX4_read_107 rfl (lv_at hl 2 rfl) ?_
              obtain ⟨rfl, rfl, rfl⟩ := so3 hf
              exact ret_i hx hb hr hlocks hK hP hD hS dX4_read_108
            · have hf := if_f c15 hf
              refine lv_iload_n hx hb dX4_read_68 rfl (lv_at hl 2 rfl) ?_
              refine lv_bipush (v := 96) hx hb dX4_read_69 (by decide) ?_
              refine lv_icmp_ge (tgt := 107) hx hb dX4_read_71 (by decide) (fun c16 => ?_) (fun c16 => ?_)
              · have hf := if_t c16 hf
                refine lv_iload_n hx hb dX4_read_107 rfl (lv_at hl 2 rfl) ?_
                obtain ⟨rfl, rfl, rfl⟩ := so3 hf
                exact ret_i hx hb hr hlocks hK hP hD hS dX4_read_108
              · have hf := if_f c16 hf
                refine lv_aload_n hx hb dX4_read_74 rfl (lv_at hl 0 rfl) ?_
                refine va_get (D := D) (ci := 4) (v := .int (y10 0 2)) (C := RX4) (T := TX4) (N := 3) hx hb hts iX4 hown hK hP 0 rfl rfl 2 (by decide) (hts _ aw232) (fun _ h9 => h9) rfl dX4_read_75 ?_
                refine lv_topi (fun x17 ex17 => ?_)
                have hf := lt_use ex17 hf
                refine lv_istore_n (lv' := [(3, .int x17), (0, .ref (a1 0)), (1, .ref (a2 0)), (2, .int x9)]) hx hb dX4_read_78 rfl hl (by decide) rfl (fun ls hl => ?_)
                refine lv_aload_n hx hb dX4_read_79 rfl (lv_at hl 1 rfl) ?_
                obtain ⟨r18, y19, q20, hf⟩ := bd2_use hf
                have hfo : Foc (WLet z a1 y10 ++ (WDay z a2 y11)) (WLet z a1 y10) (WLet z a1 y19 ++ (WDay z a2 y11)) (WLet z a1 y19) := (foc_l foc_all)
                refine z_goI (ws1 := (WLet z a1 y19 ++ (WDay z a2 y11))) (va_runV (As := []) (rest := []) ⟨hx, hb, hml, hown, hts⟩ (tX4_skipStatement l D z tt a1 y10  fu r18 y19 q20 _) (cwV 0 hts (gV4 aw311 aw312 aw313 aw51 aw314) rfl rfl rfl (by decide +kernel) ⟨Nat.le_of_ble_eq_true rfl, Nat.le_of_ble_eq_true rfl⟩) (z_preV hK hP hD hS hA hT hN hfo (va_recv hK hP (ci := 4) (q0 := 0) rfl rfl)) rfl rfl hl.1 rfl (lv_room (Nat.le_of_ble_eq_true rfl)) dX4_read_80 ⟨Nat.zero_le _, Nat.zero_le _⟩) hP hD hS hA hfo (fun H locs hP hD hS => ?_)
                refine lv_if_eq (tgt := 95) hx hb dX4_read_83 (by decide) (fun c21 => ?_) (fun c21 => ?_)
                · have hf := if_t c21 hf
                  refine lv_sipush (v := (-2000)) hx hb dX4_read_95 (by decide) ?_
                  refine lv_iload_n hx hb dX4_read_98 rfl (lv_at hl 0 rfl) ?_
                  refine lv_isub hx hb dX4_read_99 ?_
                  obtain ⟨rfl, rfl, rfl⟩ := so3 hf
                  exact ret_i hx hb hr hlocks hK hP hD hS dX4_read_100
                · have hf := if_f c21 hf
                  refine lv_aload_n hx hb dX4_read_86 rfl (lv_at hl 1 rfl) ?_
                  refine lv_aload_n hx hb dX4_read_87 rfl (lv_at hl 2 rfl) ?_
                  refine lv_iload_n hx hb dX4_read_88 rfl (lv_at hl 0 rfl) ?_
                  obtain ⟨r22, y23, q24, hf⟩ := bd2_use hf
                  have hfo : Foc (WLet z a1 y19 ++ (WDay z a2 y11)) (WLet z a1 y19 ++ (WDay z a2 y11)) (WLet z a1 y19 ++ (WDay z a2 y23)) (WLet z a1 y19 ++ (WDay z a2 y23)) := (foc_app foc_all foc_all)
                  refine z_goI (ws1 := (WLet z a1 y19 ++ (WDay z a2 y23))) (va_runV (As := [.ref (a2 0), .int x17]) (rest := []) ⟨hx, hb, hml, hown, hts⟩ (tX4_carryOut l D z tt a1 a2 y19 y11 x17 fu r22 y23 q24 _) (cwV 2 hts (gV4 aw327 aw328 aw329 aw51 aw330) rfl rfl rfl (by decide +kernel) ⟨Nat.le_of_ble_eq_true rfl, Nat.le_of_ble_eq_true rfl⟩) (z_preV hK hP hD hS hA hT hN hfo (va_recv hK hP (ci := 4) (q0 := 0) rfl rfl)) rfl rfl hl.1 rfl (lv_room (Nat.le_of_ble_eq_true rfl)) dX4_read_89 ⟨Nat.zero_le _, Nat.zero_le _⟩) hP hD hS hA hfo (fun H locs hP hD hS => ?_)
                  refine lv_if_ne (tgt := 101) hx hb dX4_read_92 (by decide) (fun c25 => ?_) (fun c25 => ?_)
                  · have hf := if_f c25 hf
                    obtain ⟨x26, ex26⟩ : ∃ y : Int32, y = x9 + 1 := ⟨_, rfl⟩
                    have hf := lt_use ex26 hf
                    refine lv_iinc (v := x26) (lv' := [(2, .int x26), (3, .int x17), (0, .ref (a1 0)), (1, .ref (a2 0))]) hx hb dX4_read_101 hl (k := 3) rfl (by rw [ex26]; rfl) (by decide) rfl (fun ls hl => ?_)
                    refine lv_goto (tgt := 57) hx hb dX4_read_104 (by decide) ?_
                    exact ih14 _ _ _ _ _ hP hD hS _ (lv_sub hl [2, 3, 0] rfl) hf
                  · have hf := if_t c25 hf
                    refine lv_sipush (v := (-2000)) hx hb dX4_read_95 (by decide) ?_
                    refine lv_iload_n hx hb dX4_read_98 rfl (lv_at hl 0 rfl) ?_
                    refine lv_isub hx hb dX4_read_99 ?_
                    obtain ⟨rfl, rfl, rfl⟩ := so3 hf
                    exact ret_i hx hb hr hlocks hK hP hD hS dX4_read_100
        exact L57_F12 fu _ _ _ _ _ hP hD hS _ (lv_sub hl [1, 2, 0] rfl) hf
      · have hf := if_f c7 hf
        refine lv_iload_n hx hb dX4_read_13 rfl (lv_at hl 2 rfl) ?_
        obtain ⟨k27, ek27, hf⟩ := jn1_use hf
        have B28_k27 : ∀ (u0 : Unit) (H : Heap) (locs : List Loc), va_P D vwCl (WLet z a1 y3 ++ (WDay z a2 m2)) H → va_D A (WLet z a1 y3 ++ (WDay z a2 m2)) → va_S A s.heap H locs → ∀ (ls : Array Slot), lv_has ls 4 [(0, .ref (a1 0)), (1, .ref (a2 0)), (2, .int x2)] → k27 u0 = some (rr, m1', m2') → GI p l e (headSpec wsX4_read ({ frames := 4, cells := 0, slots := 0, locals := 91 } : Room)).room s m ([.ref (a1 0), .ref (a2 0)] : List Value).toArray below meth c A D z rr (WLet z a1 m1' ++ (WDay z a2 m2')) H locs (F0 m 28 ls []) := by
          intro u0 H locs hP hD hS ls hl hf
          have hf := jn1_ap ek27 hf
          refine lv_aload_n hx hb dX4_read_28 rfl (lv_at hl 0 rfl) ?_
          obtain ⟨r28, y29, q30, hf⟩ := bd2_use hf
          have hfo : Foc (WLet z a1 y3 ++ (WDay z a2 m2)) (WLet z a1 y3) (WLet z a1 y29 ++ (WDay z a2 m2)) (WLet z a1 y29) := (foc_l foc_all)
          refine z_goI (ws1 := (WLet z a1 y29 ++ (WDay z a2 m2))) (va_runV (As := []) (rest := []) ⟨hx, hb, hml, hown, hts⟩ (tX4_skipStatement l D z tt a1 y3  fu r28 y29 q30 _) (cwV 0 hts (gV4 aw311 aw312 aw313 aw51 aw314) rfl rfl rfl (by decide +kernel) ⟨Nat.le_of_ble_eq_true rfl, Nat.le_of_ble_eq_true rfl⟩) (z_preV hK hP hD hS hA hT hN hfo (va_recv hK hP (ci := 4) (q0 := 0) rfl rfl)) rfl rfl hl.1 rfl (lv_room (Nat.le_of_ble_eq_true rfl)) dX4_read_29 ⟨Nat.zero_le _, Nat.zero_le _⟩) hP hD hS hA hfo (fun H locs hP hD hS => ?_)
          refine lv_if_ne (tgt := 44) hx hb dX4_read_32 (by decide) (fun c31 => ?_) (fun c31 => ?_)
          · have hf := if_f c31 hf
            obtain ⟨x32, ex32⟩ : ∃ y : Int32, y = x2 + 1 := ⟨_, rfl⟩
            have hf := lt_use ex32 hf
            refine lv_iinc (v := x32) (lv' := [(2, .int x32), (0, .ref (a1 0)), (1, .ref (a2 0))]) hx hb dX4_read_44 hl (k := 2) rfl (by rw [ex32]; rfl) (by decide) rfl (fun ls hl => ?_)
            refine lv_goto (tgt := 7) hx hb dX4_read_47 (by decide) ?_
            exact ih6 _ _ _ _ hP hD hS _ (lv_sub hl [1, 2, 0] rfl) hf
          · have hf := if_t c31 hf
            refine lv_sipush (v := (-1000)) hx hb dX4_read_35 (by decide) ?_
            refine lv_aload_n hx hb dX4_read_38 rfl (lv_at hl 0 rfl) ?_
            refine va_get (D := D) (ci := 4) (v := .int (y29 0 2)) (C := RX4) (T := TX4) (N := 3) hx hb hts iX4 hown hK hP 0 rfl rfl 2 (by decide) (hts _ aw232) (fun _ h9 => h9) rfl dX4_read_39 ?_
            refine lv_isub hx hb dX4_read_42 ?_
            obtain ⟨rfl, rfl, rfl⟩ := so3 hf
            exact ret_i hx hb hr hlocks hK hP hD hS dX4_read_43
        refine lv_if_eq (tgt := 28) hx hb dX4_read_14 (by decide) (fun c33 => ?_) (fun c33 => ?_)
        · have hf := if_t c33 hf
          exact B28_k27 _ _ _ hP hD hS _ (lv_sub hl [0, 1, 2] rfl) hf
        · have hf := if_f c33 hf
          refine lv_aload_n hx hb dX4_read_17 rfl (lv_at hl 0 rfl) ?_
          refine va_get (D := D) (ci := 4) (v := .int (y3 0 2)) (C := RX4) (T := TX4) (N := 3) hx hb hts iX4 hown hK hP 0 rfl rfl 2 (by decide) (hts _ aw232) (fun _ h9 => h9) rfl dX4_read_18 ?_
          refine lv_aload_n hx hb dX4_read_21 rfl (lv_at hl 0 rfl) ?_
          refine va_get (D := D) (ci := 4) (v := .int (y3 0 1)) (C := RX4) (T := TX4) (N := 3) hx hb hts iX4 hown hK hP 0 rfl rfl 1 (by decide) (hts _ aw230) (fun _ h9 => h9) rfl dX4_read_22 ?_
          refine lv_icmp_ge (tgt := 50) hx hb dX4_read_25 (by decide) (fun c34 => ?_) (fun c34 => ?_)
          · have hf := if_t c34 hf
            refine lv_aload_n hx hb dX4_read_50 rfl (lv_at hl 0 rfl) ?_
            refine lv_iconst (v := 0) hx hb dX4_read_51 (by decide) ?_
            refine z_put (ci := 4) (v := .int 0) (ty := .int) (C := RX4) (T := TX4) (N := 3) hx hb hts iX4 tyX4 tyX4_ok nmX4 hown hK hP hD hS 0 rfl rfl 2 (by decide) (hts _ aw232) (fun _ h9 => h9) rfl (by decide +kernel) rfl rfl (Nat.le_of_ble_eq_true rfl) dX4_read_52 (fun (w9 : Mem) => (WLet z a1 w9 ++ (WDay z a2 m2))) (up2 y3 0 2 0) rfl (fun y35 ey35 H locs hP hD hS => ?_)
            have hf := lt_use ey35 hf
            refine lv_iconst (v := 0) hx hb dX4_read_55 (by decide) ?_
            refine lv_istore_n (lv' := [(2, .int 0), (0, .ref (a1 0)), (1, .ref (a2 0))]) hx hb dX4_read_56 rfl hl (by decide) rfl (fun ls hl => ?_)
            obtain ⟨F39, eF39, hf⟩ := zl3_use hf
            have L57_F39 : ∀ (n : Nat) (x36 : Int32) (y37 : Mem) (y38 : Mem) (H : Heap) (locs : List Loc), va_P D vwCl (WLet z a1 y37 ++ (WDay z a2 y38)) H → va_D A (WLet z a1 y37 ++ (WDay z a2 y38)) → va_S A s.heap H locs → ∀ (ls : Array Slot), lv_has ls 4 [(0, .ref (a1 0)), (1, .ref (a2 0)), (2, .int x36)] → zl3 F39 n x36 y37 y38 = some (rr, m1', m2') → GI p l e (headSpec wsX4_read ({ frames := 4, cells := 0, slots := 0, locals := 91 } : Room)).room s m ([.ref (a1 0), .ref (a2 0)] : List Value).toArray below meth c A D z rr (WLet z a1 m1' ++ (WDay z a2 m2')) H locs (F0 m 57 ls []) := by
              intro n
              induction n with
              | zero =>
                intro x36 y37 y38 H locs hP hD hS ls hl hf
                exact no_none hf
              | succ n ih41 =>
                intro x36 y37 y38 H locs hP hD hS ls hl hf
                have hf := zl3_s eF39 hf
                refine lv_aload_n hx hb dX4_read_57 rfl (lv_at hl 0 rfl) ?_
                refine va_get (D := D) (ci := 4) (v := .int (y37 0 2)) (C := RX4) (T := TX4) (N := 3) hx hb hts iX4 hown hK hP 0 rfl rfl 2 (by decide) (hts _ aw232) (fun _ h9 => h9) rfl dX4_read_58 ?_
                refine lv_aload_n hx hb dX4_read_61 rfl (lv_at hl 0 rfl) ?_
                refine va_get (D := D) (ci := 4) (v := .int (y37 0 1)) (C := RX4) (T := TX4) (N := 3) hx hb hts iX4 hown hK hP 0 rfl rfl 1 (by decide) (hts _ aw230) (fun _ h9 => h9) rfl dX4_read_62 ?_
                refine lv_icmp_ge (tgt := 107) hx hb dX4_read_65 (by decide) (fun c42 => ?_) (fun c42 => ?_)
                · have hf := if_t c42 hf
                  refine lv_iload_n hx hb dX4_read_107 rfl (lv_at hl 2 rfl) ?_
                  obtain ⟨rfl, rfl, rfl⟩ := so3 hf
                  exact ret_i hx hb hr hlocks hK hP hD hS dX4_read_108
                · have hf := if_f c42 hf
                  refine lv_iload_n hx hb dX4_read_68 rfl (lv_at hl 2 rfl) ?_
                  refine lv_bipush (v := 96) hx hb dX4_read_69 (by decide) ?_
                  refine lv_icmp_ge (tgt := 107) hx hb dX4_read_71 (by decide) (fun c43 => ?_) (fun c43 => ?_)
                  · have hf := if_t c43 hf
                    refine lv_iload_n hx hb dX4_read_107 rfl (lv_at hl 2 rfl) ?_
                    obtain ⟨rfl, rfl, rfl⟩ := so3 hf
                    exact ret_i hx hb hr hlocks hK hP hD hS dX4_read_108
                  · have hf := if_f c43 hf
                    refine lv_aload_n hx hb dX4_read_74 rfl (lv_at hl 0 rfl) ?_
                    refine va_get (D := D) (ci := 4) (v := .int (y37 0 2)) (C := RX4) (T := TX4) (N := 3) hx hb hts iX4 hown hK hP 0 rfl rfl 2 (by decide) (hts _ aw232) (fun _ h9 => h9) rfl dX4_read_75 ?_
                    refine lv_topi (fun x44 ex44 => ?_)
                    have hf := lt_use ex44 hf
                    refine lv_istore_n (lv' := [(3, .int x44), (0, .ref (a1 0)), (1, .ref (a2 0)), (2, .int x36)]) hx hb dX4_read_78 rfl hl (by decide) rfl (fun ls hl => ?_)
                    refine lv_aload_n hx hb dX4_read_79 rfl (lv_at hl 1 rfl) ?_
                    obtain ⟨r45, y46, q47, hf⟩ := bd2_use hf
                    have hfo : Foc (WLet z a1 y37 ++ (WDay z a2 y38)) (WLet z a1 y37) (WLet z a1 y46 ++ (WDay z a2 y38)) (WLet z a1 y46) := (foc_l foc_all)
                    refine z_goI (ws1 := (WLet z a1 y46 ++ (WDay z a2 y38))) (va_runV (As := []) (rest := []) ⟨hx, hb, hml, hown, hts⟩ (tX4_skipStatement l D z tt a1 y37  fu r45 y46 q47 _) (cwV 0 hts (gV4 aw311 aw312 aw313 aw51 aw314) rfl rfl rfl (by decide +kernel) ⟨Nat.le_of_ble_eq_true rfl, Nat.le_of_ble_eq_true rfl⟩) (z_preV hK hP hD hS hA hT hN hfo (va_recv hK hP (ci := 4) (q0 := 0) rfl rfl)) rfl rfl hl.1 rfl (lv_room (Nat.le_of_ble_eq_true rfl)) dX4_read_80 ⟨Nat.zero_le _, Nat.zero_le _⟩) hP hD hS hA hfo (fun H locs hP hD hS => ?_)
                    refine lv_if_eq (tgt := 95) hx hb dX4_read_83 (by decide) (fun c48 => ?_) (fun c48 => ?_)
                    · have hf := if_t c48 hf
                      refine lv_sipush (v := (-2000)) hx hb dX4_read_95 (by decide) ?_
                      refine lv_iload_n hx hb dX4_read_98 rfl (lv_at hl 0 rfl) ?_
                      refine lv_isub hx hb dX4_read_99 ?_
                      obtain ⟨rfl, rfl, rfl⟩ := so3 hf
                      exact ret_i hx hb hr hlocks hK hP hD hS dX4_read_100
                    · have hf := if_f c48 hf
                      refine lv_aload_n hx hb dX4_read_86 rfl (lv_at hl 1 rfl) ?_
                      refine lv_aload_n hx hb dX4_read_87 rfl (lv_at hl 2 rfl) ?_
                      refine lv_iload_n hx hb dX4_read_88 rfl (lv_at hl 0 rfl) ?_
                      obtain ⟨r49, y50, q51, hf⟩ := bd2_use hf
                      have hfo : Foc (WLet z a1 y46 ++ (WDay z a2 y38)) (WLet z a1 y46 ++ (WDay z a2 y38)) (WLet z a1 y46 ++ (WDay z a2 y50)) (WLet z a1 y46 ++ (WDay z a2 y50)) := (foc_app foc_all foc_all)
                      refine z_goI (ws1 := (WLet z a1 y46 ++ (WDay z a2 y50))) (va_runV (As := [.ref (a2 0), .int x44]) (rest := []) ⟨hx, hb, hml, hown, hts⟩ (tX4_carryOut l D z tt a1 a2 y46 y38 x44 fu r49 y50 q51 _) (cwV 2 hts (gV4 aw327 aw328 aw329 aw51 aw330) rfl rfl rfl (by decide +kernel) ⟨Nat.le_of_ble_eq_true rfl, Nat.le_of_ble_eq_true rfl⟩) (z_preV hK hP hD hS hA hT hN hfo (va_recv hK hP (ci := 4) (q0 := 0) rfl rfl)) rfl rfl hl.1 rfl (lv_room (Nat.le_of_ble_eq_true rfl)) dX4_read_89 ⟨Nat.zero_le _, Nat.zero_le _⟩) hP hD hS hA hfo (fun H locs hP hD hS => ?_)
                      refine lv_if_ne (tgt := 101) hx hb dX4_read_92 (by decide) (fun c52 => ?_) (fun c52 => ?_)
                      · have hf := if_f c52 hf
                        obtain ⟨x53, ex53⟩ : ∃ y : Int32, y = x36 + 1 := ⟨_, rfl⟩
                        have hf := lt_use ex53 hf
                        refine lv_iinc (v := x53) (lv' := [(2, .int x53), (3, .int x44), (0, .ref (a1 0)), (1, .ref (a2 0))]) hx hb dX4_read_101 hl (k := 3) rfl (by rw [ex53]; rfl) (by decide) rfl (fun ls hl => ?_)
                        refine lv_goto (tgt := 57) hx hb dX4_read_104 (by decide) ?_
                        exact ih41 _ _ _ _ _ hP hD hS _ (lv_sub hl [2, 3, 0] rfl) hf
                      · have hf := if_t c52 hf
                        refine lv_sipush (v := (-2000)) hx hb dX4_read_95 (by decide) ?_
                        refine lv_iload_n hx hb dX4_read_98 rfl (lv_at hl 0 rfl) ?_
                        refine lv_isub hx hb dX4_read_99 ?_
                        obtain ⟨rfl, rfl, rfl⟩ := so3 hf
                        exact ret_i hx hb hr hlocks hK hP hD hS dX4_read_100
            exact L57_F39 fu _ _ _ _ _ hP hD hS _ (lv_sub hl [1, 2, 0] rfl) hf
          · have hf := if_f c34 hf
            exact B28_k27 _ _ _ hP hD hS _ (lv_sub hl [0, 1, 2] rfl) hf
  exact L7_F4 fu _ _ _ _ hP hD hS _ (lv_sub hl [1, 2, 0] rfl) hf
