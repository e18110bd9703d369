def pX7_no (fu : Nat) (m1 : Mem) (p1 : Int32) : Option (Int32 × Mem) :=
  ck (-p1) 7 <|
  ck (-p1) 7 <|
  lt' (up2 m1 1 (-p1).toNatClampNeg ((m1 1 (-p1).toNatClampNeg) + 1)) fun y2 =>
  some (p1, y2)
set_option maxHeartbeats 4000000 in
set_option maxRecDepth 100000 in
theorem tX7_no (l : Launch) (D : va_G) (z tt : Nat → Nat) (a1 : Nat → Nat) (m1 : Mem) (p1 : Int32) (fu : Nat) (rr : Int32) (m1' : Mem) (hf : pX7_no fu m1 p1 = some (rr, m1')) : MetI l yX7_no wsX7_no ({ frames := 0, cells := 0, slots := 0, locals := 0 } : Room) D z tt ([.ref (a1 0), .int p1] : List Value) (WMod z a1 m1) rr (WMod z a1 m1') := by
  intro sz
  refine Met.ofW (cc := cX7_no) (maxL := 2) (ret := (some .int)) (by decide) rfl ?_
  intro p e s m args below meth c s₁ B hml hv
  obtain ⟨rfl, hsz, hP, hK, hD0, hT, hN⟩ := hv
  have hx := B.exec
  have hb := B.bytes
  have hr := B.returns
  have hts : ∀ w ∈ wsA, w.before ([.ref (a1 0), .int p1] : List Value).toArray s = true := fun w h => atoms_spec (ws := wsX7_no) B.pre w (List.mem_cons_of_mem _ h)
  have hown : s.vm.findClass RX7 = some m.cls := findClass_of_methodNamed B.named
  have hlocks := B.notSynchronized
  subst hsz
  have hD := hD0.self (sz := s.heap.size)
  generalize hAe : va_A (WMod z a1 m1) s.heap.size = A at hD hT ⊢
  have hA : ∀ q : Nat, s.heap.size ≤ q → A q := fun q h => by rw [← hAe]; exact Or.inr h
  have hS : va_S A s.heap s.heap [] := va_S.rf
  have hl := lv_entry ([.ref (a1 0), .int p1] : List Value) (n := 2) (Nat.le_of_ble_eq_true rfl)
  rw [lg_entry_eq]
  generalize (lg_sl ([.ref (a1 0), .int p1] : List Value) ++ List.replicate (2 - (lg_sl ([.ref (a1 0), .int p1] : List Value)).length) Slot.unset).toArray = ls at hl ⊢
  have hl : lv_has ls 2 [(0, .ref (a1 0)), (1, .int p1)] := hl
  unfold pX7_no at hf
  refine lv_aload_n hx hb dX7_no_0 rfl (lv_at hl 0 rfl) ?_
  refine va_get (D := D) (ci := 7) (v := .ref (a1 1)) (C := RX7) (T := TX7) (N := 33) hx hb hts iX7 hown hK hP 0 rfl rfl 0 (by decide) (hts _ aw736) (fun _ h9 => h9) rfl dX7_no_1 ?_
  refine lv_iload_n hx hb dX7_no_4 rfl (lv_at hl 1 rfl) ?_
  refine lv_ineg hx hb dX7_no_5 ?_
  refine lv_dup2_11 hx hb dX7_no_6 rfl rfl ?_
  obtain ⟨h1, hf⟩ := ck_use hf
  refine z_iald hx hb hK hP 1 rfl h1 dX7_no_7 ?_
  refine lv_iconst (v := 1) hx hb dX7_no_8 (by decide) ?_
  refine lv_iadd hx hb dX7_no_9 ?_
  obtain ⟨h3, hf⟩ := ck_use hf
  refine z_iast hx hb hK hP hD hS 1 rfl h3 dX7_no_10 (fun (w9 : Mem) => (WMod z a1 w9)) (up2 m1 1 (-p1).toNatClampNeg ((m1 1 (-p1).toNatClampNeg) + 1)) rfl (fun y2 ey2 H locs hP hD hS => ?_)
  have hf := lt_use ey2 hf
  refine lv_iload_n hx hb dX7_no_11 rfl (lv_at hl 1 rfl) ?_
  obtain ⟨rfl, rfl⟩ := so2 hf
  exact ret_i hx hb hr hlocks hK hP hD hS dX7_no_12
def pX7_lower (fu : Nat) (m1 : Mem) (p1 : Int32) : Option (Int32 × Mem) :=
  ck (-p1) 7 <|
  ck (-p1) 7 <|
  lt' (up2 m1 1 (-p1).toNatClampNeg ((m1 1 (-p1).toNatClampNeg) + 1)) fun y2 =>
  some ((1000000000 - p1), y2)
set_option maxHeartbeats 4000000 in
set_option maxRecDepth 100000 in
theorem tX7_lower (l : Launch) (D : va_G) (z tt : Nat → Nat) (a1 : Nat → Nat) (m1 : Mem) (p1 : Int32) (fu : Nat) (rr : Int32) (m1' : Mem) (hf : pX7_lower fu m1 p1 = some (rr, m1')) : MetI l yX7_lower wsX7_lower ({ frames := 0, cells := 0, slots := 0, locals := 0 } : Room) D z tt ([.ref (a1 0), .int p1] : List Value) (WMod z a1 m1) rr (WMod z a1 m1') := by
  intro sz
  refine Met.ofW (cc := cX7_lower) (maxL := 2) (ret := (some .int)) (by decide) rfl ?_
  intro p e s m args below meth c s₁ B hml hv
  obtain ⟨rfl, hsz, hP, hK, hD0, hT, hN⟩ := hv
  have hx := B.exec
  have hb := B.bytes
  have hr := B.returns
  have hts : ∀ w ∈ wsA, w.before ([.ref (a1 0), .int p1] : List Value).toArray s = true := fun w h => atoms_spec (ws := wsX7_lower) B.pre w (List.mem_cons_of_mem _ h)
  have hown : s.vm.findClass RX7 = some m.cls := findClass_of_methodNamed B.named
  have hlocks := B.notSynchronized
  subst hsz
  have hD := hD0.self (sz := s.heap.size)
  generalize hAe : va_A (WMod z a1 m1) s.heap.size = A at hD hT ⊢
  have hA : ∀ q : Nat, s.heap.size ≤ q → A q := fun q h => by rw [← hAe]; exact Or.inr h
  have hS : va_S A s.heap s.heap [] := va_S.rf
  have hl := lv_entry ([.ref (a1 0), .int p1] : List Value) (n := 2) (Nat.le_of_ble_eq_true rfl)
  rw [lg_entry_eq]
  generalize (lg_sl ([.ref (a1 0), .int p1] : List Value) ++ List.replicate (2 - (lg_sl ([.ref (a1 0), .int p1] : List Value)).length) Slot.unset).toArray = ls at hl ⊢
  have hl : lv_has ls 2 [(0, .ref (a1 0)), (1, .int p1)] := hl
  unfold pX7_lower at hf
  refine lv_aload_n hx hb dX7_lower_0 rfl (lv_at hl 0 rfl) ?_
  refine va_get (D := D) (ci := 7) (v := .ref (a1 1)) (C := RX7) (T := TX7) (N := 33) hx hb hts iX7 hown hK hP 0 rfl rfl 0 (by decide) (hts _ aw736) (fun _ h9 => h9) rfl dX7_lower_1 ?_
  refine lv_iload_n hx hb dX7_lower_4 rfl (lv_at hl 1 rfl) ?_
  refine lv_ineg hx hb dX7_lower_5 ?_
  refine lv_dup2_11 hx hb dX7_lower_6 rfl rfl ?_
  obtain ⟨h1, hf⟩ := ck_use hf
  refine z_iald hx hb hK hP 1 rfl h1 dX7_lower_7 ?_
  refine lv_iconst (v := 1) hx hb dX7_lower_8 (by decide) ?_
  refine lv_iadd hx hb dX7_lower_9 ?_
  obtain ⟨h3, hf⟩ := ck_use hf
  refine z_iast hx hb hK hP hD hS 1 rfl h3 dX7_lower_10 (fun (w9 : Mem) => (WMod z a1 w9)) (up2 m1 1 (-p1).toNatClampNeg ((m1 1 (-p1).toNatClampNeg) + 1)) rfl (fun y2 ey2 H locs hP hD hS => ?_)
  have hf := lt_use ey2 hf
  refine lv_ldc (v := 1000000000) hx hb hown (hts _ aw1036) dX7_lower_11 ?_
  refine lv_iload_n hx hb dX7_lower_13 rfl (lv_at hl 1 rfl) ?_
  refine lv_isub hx hb dX7_lower_14 ?_
  obtain ⟨rfl, rfl⟩ := so2 hf
  exact ret_i hx hb hr hlocks hK hP hD hS dX7_lower_15
def pX7_isIn (fu : Nat) (p1 : Int32) (p2 : Int32) (p3 : Int32) : Option Int32 :=
  if p1 < p2 then
    some 0
  else
    if p3 < p1 then
      some 0
    else
      some 1
set_option maxHeartbeats 4000000 in
set_option maxRecDepth 100000 in
theorem tX7_isIn (l : Launch) (D : va_G) (z tt : Nat → Nat)   (p1 : Int32) (p2 : Int32) (p3 : Int32) (fu : Nat) (rr : Int32) (hf : pX7_isIn fu p1 p2 p3 = some rr) : MetI l yX7_isIn wsX7_isIn ({ frames := 0, cells := 0, slots := 0, locals := 0 } : Room) D z tt ([.int p1, .int p2, .int p3] : List Value) ([] : va_W) rr ([] : va_W) := by
  intro sz
  refine Met.ofW (cc := cX7_isIn) (maxL := 3) (ret := (some .boolean)) (by decide) rfl ?_
  intro p e s m args below meth c s₁ B hml hv
  obtain ⟨rfl, hsz, hP, hK, hD0, hT, hN⟩ := hv
  have hx := B.exec
  have hb := B.bytes
  have hr := B.returns
  have hts : ∀ w ∈ wsA, w.before ([.int p1, .int p2, .int p3] : List Value).toArray s = true := fun w h => atoms_spec (ws := wsX7_isIn) B.pre w (List.mem_cons_of_mem _ h)
  have hown : s.vm.findClass RX7 = some m.cls := findClass_of_methodNamed B.named
  have hlocks := B.notSynchronized
  subst hsz
  have hD := hD0.self (sz := s.heap.size)
  generalize hAe : va_A ([] : va_W) s.heap.size = A at hD hT ⊢
  have hA : ∀ q : Nat, s.heap.size ≤ q → A q := fun q h => by rw [← hAe]; exact Or.inr h
  have hS : va_S A s.heap s.heap [] := va_S.rf
  have hl := lv_entry ([.int p1, .int p2, .int p3] : List Value) (n := 3) (Nat.le_of_ble_eq_true rfl)
  rw [lg_entry_eq]
  generalize (lg_sl ([.int p1, .int p2, .int p3] : List Value) ++ List.replicate (3 - (lg_sl ([.int p1, .int p2, .int p3] : List Value)).length) Slot.unset).toArray = ls at hl ⊢
  have hl : lv_has ls 3 [(0, .int p1), (1, .int p2), (2, .int p3)] := hl
  unfold pX7_isIn at hf
  refine lv_iload_n hx hb dX7_isIn_0 rfl (lv_at hl 0 rfl) ?_
  refine lv_iload_n hx hb dX7_isIn_1 rfl (lv_at hl 1 rfl) ?_
  refine lv_icmp_lt (tgt := 14) hx hb dX7_isIn_2 (by decide) (fun c1 => ?_) (fun c1 => ?_)
  · have hf := if_t c1 hf
    refine lv_iconst (v := 0) hx hb dX7_isIn_14 (by decide) ?_
    obtain rfl := so1 hf
    exact ret_z hx hb hr hlocks hK hP hD hS (by decide) dX7_isIn_15
  · have hf := if_f c1 hf
    refine lv_iload_n hx hb dX7_isIn_5 rfl (lv_at hl 0 rfl) ?_
    refine lv_iload_n hx hb dX7_isIn_6 rfl (lv_at hl 2 rfl) ?_
    refine lv_icmp_gt (tgt := 14) hx hb dX7_isIn_7 (by decide) (fun c2 => ?_) (fun c2 => ?_)
    · have hf := if_t c2 hf
      refine lv_iconst (v := 0) hx hb dX7_isIn_14 (by decide) ?_
      obtain rfl := so1 hf
      exact ret_z hx hb hr hlocks hK hP hD hS (by decide) dX7_isIn_15
    · have hf := if_f c2 hf
      refine lv_iconst (v := 1) hx hb dX7_isIn_10 (by decide) ?_
      refine lv_goto (tgt := 15) hx hb dX7_isIn_11 (by decide) ?_
      obtain rfl := so1 hf
      exact ret_z hx hb hr hlocks hK hP hD hS (by decide) dX7_isIn_15
def pX7_bound (fu : Nat) (p1 : Int32) (p2 : Int32) (p3 : Int32) : Option Int32 :=
  if p2 ≤ p1 then
    if p1 ≤ p3 then
      some 0
    else
      some (-6)
  else
    some (-4)
set_option maxHeartbeats 4000000 in
set_option maxRecDepth 100000 in
theorem tX7_bound (l : Launch) (D : va_G) (z tt : Nat → Nat)   (p1 : Int32) (p2 : Int32) (p3 : Int32) (fu : Nat) (rr : Int32) (hf : pX7_bound fu p1 p2 p3 = some rr) : MetI l yX7_bound wsX7_bound ({ frames := 0, cells := 0, slots := 0, locals := 0 } : Room) D z tt ([.int p1, .int p2, .int p3] : List Value) ([] : va_W) rr ([] : va_W) := by
  intro sz
  refine Met.ofW (cc := cX7_bound) (maxL := 3) (ret := (some .int)) (by decide) rfl ?_
  intro p e s m args below meth c s₁ B hml hv
  obtain ⟨rfl, hsz, hP, hK, hD0, hT, hN⟩ := hv
  have hx := B.exec
  have hb := B.bytes
  have hr := B.returns
  have hts : ∀ w ∈ wsA, w.before ([.int p1, .int p2, .int p3] : List Value).toArray s = true := fun w h => atoms_spec (ws := wsX7_bound) B.pre w (List.mem_cons_of_mem _ h)
  have hown : s.vm.findClass RX7 = some m.cls := findClass_of_methodNamed B.named
  have hlocks := B.notSynchronized
  subst hsz
  have hD := hD0.self (sz := s.heap.size)
  generalize hAe : va_A ([] : va_W) s.heap.size = A at hD hT ⊢
  have hA : ∀ q : Nat, s.heap.size ≤ q → A q := fun q h => by rw [← hAe]; exact Or.inr h
  have hS : va_S A s.heap s.heap [] := va_S.rf
  have hl := lv_entry ([.int p1, .int p2, .int p3] : List Value) (n := 3) (Nat.le_of_ble_eq_true rfl)
  rw [lg_entry_eq]
  generalize (lg_sl ([.int p1, .int p2, .int p3] : List Value) ++ List.replicate (3 - (lg_sl ([.int p1, .int p2, .int p3] : List Value)).length) Slot.unset).toArray = ls at hl ⊢
  have hl : lv_has ls 3 [(0, .int p1), (1, .int p2), (2, .int p3)] := hl
  unfold pX7_bound at hf
  refine lv_iload_n hx hb dX7_bound_0 rfl (lv_at hl 0 rfl) ?_
  refine lv_iload_n hx hb dX7_bound_1 rfl (lv_at hl 1 rfl) ?_
  refine lv_icmp_ge (tgt := 10) hx hb dX7_bound_2 (by decide) (fun c1 => ?_) (fun c1 => ?_)
  · have hf := if_t c1 hf
    refine lv_iload_n hx hb dX7_bound_10 rfl (lv_at hl 0 rfl) ?_
    refine lv_iload_n hx hb dX7_bound_11 rfl (lv_at hl 2 rfl) ?_
    refine lv_icmp_le (tgt := 20) hx hb dX7_bound_12 (by decide) (fun c2 => ?_) (fun c2 => ?_)
    · have hf := if_t c2 hf
      refine lv_iconst (v := 0) hx hb dX7_bound_20 (by decide) ?_
      obtain rfl := so1 hf
      exact ret_i hx hb hr hlocks hK hP hD hS dX7_bound_21
    · have hf := if_f c2 hf
      refine lv_bipush (v := (-6)) hx hb dX7_bound_15 (by decide) ?_
      refine lv_goto (tgt := 21) hx hb dX7_bound_17 (by decide) ?_
      obtain rfl := so1 hf
      exact ret_i hx hb hr hlocks hK hP hD hS dX7_bound_21
  · have hf := if_f c1 hf
    refine lv_bipush (v := (-4)) hx hb dX7_bound_5 (by decide) ?_
    refine lv_goto (tgt := 21) hx hb dX7_bound_7 (by decide) ?_
    obtain rfl := so1 hf
    exact ret_i hx hb hr hlocks hK hP hD hS dX7_bound_21
def pX7_leastOf (fu : Nat) (p1 : Int32) : Option Int32 :=
  if p1 = 0 then
    some 2
  else
    if p1 = 2 then
      some 1
    else
      if p1 = 3 then
        some 1
      else
        if p1 = 7 then
          some 1
        else
          some 0
set_option maxHeartbeats 4000000 in
set_option maxRecDepth 100000 in
theorem tX7_leastOf (l : Launch) (D : va_G) (z tt : Nat → Nat)   (p1 : Int32) (fu : Nat) (rr : Int32) (hf : pX7_leastOf fu p1 = some rr) : MetI l yX7_leastOf wsX7_leastOf ({ frames := 0, cells := 0, slots := 0, locals := 0 } : Room) D z tt ([.int p1] : List Value) ([] : va_W) rr ([] : va_W) := by
  intro sz
  refine Met.ofW (cc := cX7_leastOf) (maxL := 1) (ret := (some .int)) (by decide) rfl ?_
  intro p e s m args below meth c s₁ B hml hv
  obtain ⟨rfl, hsz, hP, hK, hD0, hT, hN⟩ := hv
  have hx := B.exec
  have hb := B.bytes
  have hr := B.returns
  have hts : ∀ w ∈ wsA, w.before ([.int p1] : List Value).toArray s = true := fun w h => atoms_spec (ws := wsX7_leastOf) B.pre w (List.mem_cons_of_mem _ h)
  have hown : s.vm.findClass RX7 = some m.cls := findClass_of_methodNamed B.named
  have hlocks := B.notSynchronized
  subst hsz
  have hD := hD0.self (sz := s.heap.size)
  generalize hAe : va_A ([] : va_W) s.heap.size = A at hD hT ⊢
  have hA : ∀ q : Nat, s.heap.size ≤ q → A q := fun q h => by rw [← hAe]; exact Or.inr h
  have hS : va_S A s.heap s.heap [] := va_S.rf
  have hl := lv_entry ([.int p1] : List Value) (n := 1) (Nat.le_of_ble_eq_true rfl)
  rw [lg_entry_eq]
  generalize (lg_sl ([.int p1] : List Value) ++ List.replicate (1 - (lg_sl ([.int p1] : List Value)).length) Slot.unset).toArray = ls at hl ⊢
  have hl : lv_has ls 1 [(0, .int p1)] := hl
  unfold pX7_leastOf at hf
  refine lv_iload_n hx hb dX7_leastOf_0 rfl (lv_at hl 0 rfl) ?_
  refine lv_if_ne (tgt := 8) hx hb dX7_leastOf_1 (by decide) (fun c1 => ?_) (fun c1 => ?_)
  · have hf := if_f c1 hf
    refine lv_iload_n hx hb dX7_leastOf_8 rfl (lv_at hl 0 rfl) ?_
    refine lv_iconst (v := 2) hx hb dX7_leastOf_9 (by decide) ?_
    refine lv_icmp_eq (tgt := 24) hx hb dX7_leastOf_10 (by decide) (fun c2 => ?_) (fun c2 => ?_)
    · have hf := if_t c2 hf
      refine lv_iconst (v := 1) hx hb dX7_leastOf_24 (by decide) ?_
      refine lv_goto (tgt := 29) hx hb dX7_leastOf_25 (by decide) ?_
      obtain rfl := so1 hf
      exact ret_i hx hb hr hlocks hK hP hD hS dX7_leastOf_29
    · have hf := if_f c2 hf
      refine lv_iload_n hx hb dX7_leastOf_13 rfl (lv_at hl 0 rfl) ?_
      refine lv_iconst (v := 3) hx hb dX7_leastOf_14 (by decide) ?_
      refine lv_icmp_eq (tgt := 24) hx hb dX7_leastOf_15 (by decide) (fun c3 => ?_) (fun c3 => ?_)
      · have hf := if_t c3 hf
        refine lv_iconst (v := 1) hx hb dX7_leastOf_24 (by decide) ?_
        refine lv_goto (tgt := 29) hx hb dX7_leastOf_25 (by decide) ?_
        obtain rfl := so1 hf
        exact ret_i hx hb hr hlocks hK hP hD hS dX7_leastOf_29
      · have hf := if_f c3 hf
        refine lv_iload_n hx hb dX7_leastOf_18 rfl (lv_at hl 0 rfl) ?_
        refine lv_bipush (v := 7) hx hb dX7_leastOf_19 (by decide) ?_
        refine lv_icmp_ne (tgt := 28) hx hb dX7_leastOf_21 (by decide) (fun c4 => ?_) (fun c4 => ?_)
        · have hf := if_f c4 hf
          refine lv_iconst (v := 0) hx hb dX7_leastOf_28 (by decide) ?_
          obtain rfl := so1 hf
          exact ret_i hx hb hr hlocks hK hP hD hS dX7_leastOf_29
        · have hf := if_t c4 hf
          refine lv_iconst (v := 1) hx hb dX7_leastOf_24 (by decide) ?_
          refine lv_goto (tgt := 29) hx hb dX7_leastOf_25 (by decide) ?_
          obtain rfl := so1 hf
          exact ret_i hx hb hr hlocks hK hP hD hS dX7_leastOf_29
  · have hf := if_t c1 hf
    refine lv_iconst (v := 2) hx hb dX7_leastOf_4 (by decide) ?_
    refine lv_goto (tgt := 29) hx hb dX7_leastOf_5 (by decide) ?_
    obtain rfl := so1 hf
    exact ret_i hx hb hr hlocks hK hP hD hS dX7_leastOf_29
def pX7_mostOf (fu : Nat) (p1 : Int32) : Option Int32 :=
  if p1 = 0 then
    some 11
  else
    if p1 = 6 then
      some 11
    else
      if p1 = 2 then
        some 20
      else
        if p1 = 7 then
          some 2
        else
          some 9
set_option maxHeartbeats 4000000 in
set_option maxRecDepth 100000 in
theorem tX7_mostOf (l : Launch) (D : va_G) (z tt : Nat → Nat)   (p1 : Int32) (fu : Nat) (rr : Int32) (hf : pX7_mostOf fu p1 = some rr) : MetI l yX7_mostOf wsX7_mostOf ({ frames := 0, cells := 0, slots := 0, locals := 0 } : Room) D z tt ([.int p1] : List Value) ([] : va_W) rr ([] : va_W) := by
  intro sz
  refine Met.ofW (cc := cX7_mostOf) (maxL := 1) (ret := (some .int)) (by decide) rfl ?_
  intro p e s m args below meth c s₁ B hml hv
  obtain ⟨rfl, hsz, hP, hK, hD0, hT, hN⟩ := hv
  have hx := B.exec
  have hb := B.bytes
  have hr := B.returns
  have hts : ∀ w ∈ wsA, w.before ([.int p1] : List Value).toArray s = true := fun w h => atoms_spec (ws := wsX7_mostOf) B.pre w (List.mem_cons_of_mem _ h)
  have hown : s.vm.findClass RX7 = some m.cls := findClass_of_methodNamed B.named
  have hlocks := B.notSynchronized
  subst hsz
  have hD := hD0.self (sz := s.heap.size)
  generalize hAe : va_A ([] : va_W) s.heap.size = A at hD hT ⊢
  have hA : ∀ q : Nat, s.heap.size ≤ q → A q := fun q h => by rw [← hAe]; exact Or.inr h
  have hS : va_S A s.heap s.heap [] := va_S.rf
  have hl := lv_entry ([.int p1] : List Value) (n := 1) (Nat.le_of_ble_eq_true rfl)
  rw [lg_entry_eq]
  generalize (lg_sl ([.int p1] : List Value) ++ List.replicate (1 - (lg_sl ([.int p1] : List Value)).length) Slot.unset).toArray = ls at hl ⊢
  have hl : lv_has ls 1 [(0, .int p1)] := hl
  unfold pX7_mostOf at hf
  refine lv_iload_n hx hb dX7_mostOf_0 rfl (lv_at hl 0 rfl) ?_
  refine lv_if_eq (tgt := 10) hx hb dX7_mostOf_1 (by decide) (fun c1 => ?_) (fun c1 => ?_)
  · have hf := if_t c1 hf
    refine lv_bipush (v := 11) hx hb dX7_mostOf_10 (by decide) ?_
    refine lv_goto (tgt := 37) hx hb dX7_mostOf_12 (by decide) ?_
    obtain rfl := so1 hf
    exact ret_i hx hb hr hlocks hK hP hD hS dX7_mostOf_37
  · have hf := if_f c1 hf
    refine lv_iload_n hx hb dX7_mostOf_4 rfl (lv_at hl 0 rfl) ?_
    refine lv_bipush (v := 6) hx hb dX7_mostOf_5 (by decide) ?_
    refine lv_icmp_ne (tgt := 15) hx hb dX7_mostOf_7 (by decide) (fun c2 => ?_) (fun c2 => ?_)
    · have hf := if_f c2 hf
      refine lv_iload_n hx hb dX7_mostOf_15 rfl (lv_at hl 0 rfl) ?_
      refine lv_iconst (v := 2) hx hb dX7_mostOf_16 (by decide) ?_
      refine lv_icmp_ne (tgt := 25) hx hb dX7_mostOf_17 (by decide) (fun c3 => ?_) (fun c3 => ?_)
      · have hf := if_f c3 hf
        refine lv_iload_n hx hb dX7_mostOf_25 rfl (lv_at hl 0 rfl) ?_
        refine lv_bipush (v := 7) hx hb dX7_mostOf_26 (by decide) ?_
        refine lv_icmp_ne (tgt := 35) hx hb dX7_mostOf_28 (by decide) (fun c4 => ?_) (fun c4 => ?_)
        · have hf := if_f c4 hf
          refine lv_bipush (v := 9) hx hb dX7_mostOf_35 (by decide) ?_
          obtain rfl := so1 hf
          exact ret_i hx hb hr hlocks hK hP hD hS dX7_mostOf_37
        · have hf := if_t c4 hf
          refine lv_iconst (v := 2) hx hb dX7_mostOf_31 (by decide) ?_
          refine lv_goto (tgt := 37) hx hb dX7_mostOf_32 (by decide) ?_
          obtain rfl := so1 hf
          exact ret_i hx hb hr hlocks hK hP hD hS dX7_mostOf_37
      · have hf := if_t c3 hf
        refine lv_bipush (v := 20) hx hb dX7_mostOf_20 (by decide) ?_
        refine lv_goto (tgt := 37) hx hb dX7_mostOf_22 (by decide) ?_
        obtain rfl := so1 hf
        exact ret_i hx hb hr hlocks hK hP hD hS dX7_mostOf_37
    · have hf := if_t c2 hf
      refine lv_bipush (v := 11) hx hb dX7_mostOf_10 (by decide) ?_
      refine lv_goto (tgt := 37) hx hb dX7_mostOf_12 (by decide) ?_
      obtain rfl := so1 hf
      exact ret_i hx hb hr hlocks hK hP hD hS dX7_mostOf_37
def pX7_isComer (fu : Nat) (m1 : Mem) (p1 : Int32) : Option Int32 :=
  if p1 < 0 then
    some 0
  else
    if (m1 0 15) ≤ p1 then
      some 0
    else
      some 1
set_option maxHeartbeats 4000000 in
set_option maxRecDepth 100000 in
theorem tX7_isComer (l : Launch) (D : va_G) (z tt : Nat → Nat) (a1 : Nat → Nat) (m1 : Mem) (p1 : Int32) (fu : Nat) (rr : Int32) (hf : pX7_isComer fu m1 p1 = some rr) : MetI l yX7_isComer wsX7_isComer ({ frames := 0, cells := 0, slots := 0, locals := 0 } : Room) D z tt ([.ref (a1 0), .int p1] : List Value) (WMod z a1 m1) rr (WMod z a1 m1) := by
  intro sz
  refine Met.ofW (cc := cX7_isComer) (maxL := 2) (ret := (some .boolean)) (by decide) rfl ?_
  intro p e s m args below meth c s₁ B hml hv
  obtain ⟨rfl, hsz, hP, hK, hD0, hT, hN⟩ := hv
  have hx := B.exec
  have hb := B.bytes
  have hr := B.returns
  have hts : ∀ w ∈ wsA, w.before ([.ref (a1 0), .int p1] : List Value).toArray s = true := fun w h => atoms_spec (ws := wsX7_isComer) B.pre w (List.mem_cons_of_mem _ h)
  have hown : s.vm.findClass RX7 = some m.cls := findClass_of_methodNamed B.named
  have hlocks := B.notSynchronized
  subst hsz
  have hD := hD0.self (sz := s.heap.size)
  generalize hAe : va_A (WMod z a1 m1) s.heap.size = A at hD hT ⊢
  have hA : ∀ q : Nat, s.heap.size ≤ q → A q := fun q h => by rw [← hAe]; exact Or.inr h
  have hS : va_S A s.heap s.heap [] := va_S.rf
  have hl := lv_entry ([.ref (a1 0), .int p1] : List Value) (n := 2) (Nat.le_of_ble_eq_true rfl)
  rw [lg_entry_eq]
  generalize (lg_sl ([.ref (a1 0), .int p1] : List Value) ++ List.replicate (2 - (lg_sl ([.ref (a1 0), .int p1] : List Value)).length) Slot.unset).toArray = ls at hl ⊢
  have hl : lv_has ls 2 [(0, .ref (a1 0)), (1, .int p1)] := hl
  unfold pX7_isComer at hf
  refine lv_iload_n hx hb dX7_isComer_0 rfl (lv_at hl 1 rfl) ?_
  refine lv_if_lt (tgt := 16) hx hb dX7_isComer_1 (by decide) (fun c1 => ?_) (fun c1 => ?_)
  · have hf := if_t c1 hf
    refine lv_iconst (v := 0) hx hb dX7_isComer_16 (by decide) ?_
    obtain rfl := so1 hf
    exact ret_z hx hb hr hlocks hK hP hD hS (by decide) dX7_isComer_17
  · have hf := if_f c1 hf
    refine lv_iload_n hx hb dX7_isComer_4 rfl (lv_at hl 1 rfl) ?_
    refine lv_aload_n hx hb dX7_isComer_5 rfl (lv_at hl 0 rfl) ?_
    refine va_get (D := D) (ci := 7) (v := .int (m1 0 15)) (C := RX7) (T := TX7) (N := 33) hx hb hts iX7 hown hK hP 0 rfl rfl 15 (by decide) (hts _ aw751) (fun _ h9 => h9) rfl dX7_isComer_6 ?_
    refine lv_icmp_ge (tgt := 16) hx hb dX7_isComer_9 (by decide) (fun c2 => ?_) (fun c2 => ?_)
    · have hf := if_t c2 hf
      refine lv_iconst (v := 0) hx hb dX7_isComer_16 (by decide) ?_
      obtain rfl := so1 hf
      exact ret_z hx hb hr hlocks hK hP hD hS (by decide) dX7_isComer_17
    · have hf := if_f c2 hf
      refine lv_iconst (v := 1) hx hb dX7_isComer_12 (by decide) ?_
      refine lv_goto (tgt := 17) hx hb dX7_isComer_13 (by decide) ?_
      obtain rfl := so1 hf
      exact ret_z hx hb hr hlocks hK hP hD hS (by decide) dX7_isComer_17
def pX7_feed (fu : Nat) (m1 : Mem) (p1 : Int32) : Option (Int32 × Mem) :=
  bd (pX7_bound fu p1 0 255) fun r1 =>
  jn1 (fun (x3 : Int32) =>
    if x3 = 0 then
      ck (m1 0 23) 96 <|
      lt' (up2 m1 16 (m1 0 23).toNatClampNeg p1) fun y6 =>
      lt' (up2 y6 0 23 ((y6 0 23) + 1)) fun y8 =>
      some ((y8 0 23), y8)
    else
      bd2 (pX7_no fu m1 x3) fun r9 y10 =>
      some (r9, y10)) fun k4 =>
  if r1 = 0 then
    if (m1 0 23) = 96 then
      k4 (-6)
    else
      k4 r1
  else
    k4 r1
set_option maxHeartbeats 4000000 in
set_option maxRecDepth 100000 in
theorem tX7_feed (l : Launch) (D : va_G) (z tt : Nat → Nat) (a1 : Nat → Nat) (m1 : Mem) (p1 : Int32) (fu : Nat) (rr : Int32) (m1' : Mem) (hf : pX7_feed fu m1 p1 = some (rr, m1')) : MetI l yX7_feed wsX7_feed ({ frames := 1, cells := 0, slots := 0, locals := 22 } : Room) D z tt ([.ref (a1 0), .int p1] : List Value) (WMod z a1 m1) rr (WMod z a1 m1') := by
  intro sz
  refine Met.ofW (cc := cX7_feed) (maxL := 3) (ret := (some .int)) (by decide) rfl ?_
  intro p e s m args below meth c s₁ B hml hv
  obtain ⟨rfl, hsz, hP, hK, hD0, hT, hN⟩ := hv
  have hx := B.exec
  have hb := B.bytes
  have hr := B.returns
  have hts : ∀ w ∈ wsA, w.before ([.ref (a1 0), .int p1] : List Value).toArray s = true := fun w h => atoms_spec (ws := wsX7_feed) B.pre w (List.mem_cons_of_mem _ h)
  have hown : s.vm.findClass RX7 = some m.cls := findClass_of_methodNamed B.named
  have hlocks := B.notSynchronized
  subst hsz
  have hD := hD0.self (sz := s.heap.size)
  generalize hAe : va_A (WMod z a1 m1) s.heap.size = A at hD hT ⊢
  have hA : ∀ q : Nat, s.heap.size ≤ q → A q := fun q h => by rw [← hAe]; exact Or.inr h
  have hS : va_S A s.heap s.heap [] := va_S.rf
  have hl := lv_entry ([.ref (a1 0), .int p1] : List Value) (n := 3) (Nat.le_of_ble_eq_true rfl)
  rw [lg_entry_eq]
  generalize (lg_sl ([.ref (a1 0), .int p1] : List Value) ++ List.replicate (3 - (lg_sl ([.ref (a1 0), .int p1] : List Value)).length) Slot.unset).toArray = ls at hl ⊢
  have hl : lv_has ls 3 [(0, .ref (a1 0)), (1, .int p1)] := hl
  unfold pX7_feed at hf
  refine lv_iload_n hx hb dX7_feed_0 rfl (lv_at hl 1 rfl) ?_
  refine lv_iconst (v := 0) hx hb dX7_feed_1 (by decide) ?_
  refine lv_sipush (v := 255) hx hb dX7_feed_2 (by decide) ?_
  obtain ⟨r1, q2, hf⟩ := bd_use hf
  have hfo : Foc (WMod z a1 m1) ([] : va_W) (WMod z a1 m1) ([] : va_W) := foc_nil
  refine z_goI (ws1 := (WMod z a1 m1)) (va_runS (As := [.int p1, .int 0, .int 255]) (rest := []) ⟨hx, hb, hml, hown, hts⟩ (tX7_bound l D z tt  p1 0 255 fu r1 q2 _) (va_cwS 3 hts (gS3 aw840 aw841 aw52 aw842) rfl rfl rfl (by decide +kernel) ⟨Nat.le_of_ble_eq_true rfl, Nat.le_of_ble_eq_true rfl⟩) (z_preS hK hP hD hS hA hT hN hfo) rfl rfl hl.1 rfl (lv_room (Nat.le_of_ble_eq_true rfl)) dX7_feed_5 ⟨Nat.zero_le _, Nat.zero_le _⟩) hP hD hS hA hfo (fun H locs hP hD hS => ?_)
  refine lv_istore_n (lv' := [(2, .int r1), (0, .ref (a1 0)), (1, .int p1)]) hx hb dX7_feed_8 rfl hl (by decide) rfl (fun ls hl => ?_)
  refine lv_iload_n hx hb dX7_feed_9 rfl (lv_at hl 0 rfl) ?_
  obtain ⟨k4, ek4, hf⟩ := jn1_use hf
  have B25_k4 : ∀ (x3 : Int32) (H : Heap) (locs : List Loc), va_P D vwCl (WMod z a1 m1) H → va_D A (WMod z a1 m1) → va_S A s.heap H locs → ∀ (ls : Array Slot), lv_has ls 3 [(0, .ref (a1 0)), (1, .int p1), (2, .int x3)] → k4 x3 = some (rr, m1') → GI p l e (headSpec wsX7_feed ({ frames := 1, cells := 0, slots := 0, locals := 22 } : Room)).room s m ([.ref (a1 0), .int p1] : List Value).toArray below meth c A D z rr (WMod z a1 m1') H locs (F0 m 25 ls []) := by
    intro x3 H locs hP hD hS ls hl hf
    have hf := jn1_ap ek4 hf
    refine lv_iload_n hx hb dX7_feed_25 rfl (lv_at hl 2 rfl) ?_
    refine lv_if_eq (tgt := 35) hx hb dX7_feed_26 (by decide) (fun c5 => ?_) (fun c5 => ?_)
    · have hf := if_t c5 hf
      refine lv_aload_n hx hb dX7_feed_35 rfl (lv_at hl 0 rfl) ?_
      refine va_get (D := D) (ci := 7) (v := .ref (a1 16)) (C := RX7) (T := TX7) (N := 33) hx hb hts iX7 hown hK hP 0 rfl rfl 19 (by decide) (hts _ aw755) (fun _ h9 => h9) rfl dX7_feed_36 ?_
      refine lv_aload_n hx hb dX7_feed_39 rfl (lv_at hl 0 rfl) ?_
      refine va_get (D := D) (ci := 7) (v := .int (m1 0 23)) (C := RX7) (T := TX7) (N := 33) hx hb hts iX7 hown hK hP 0 rfl rfl 23 (by decide) (hts _ aw759) (fun _ h9 => h9) rfl dX7_feed_40 ?_
      refine lv_iload_n hx hb dX7_feed_43 rfl (lv_at hl 1 rfl) ?_
      obtain ⟨h7, hf⟩ := ck_use hf
      refine z_iast hx hb hK hP hD hS 16 rfl h7 dX7_feed_44 (fun (w9 : Mem) => (WMod z a1 w9)) (up2 m1 16 (m1 0 23).toNatClampNeg p1) rfl (fun y6 ey6 H locs hP hD hS => ?_)
      have hf := lt_use ey6 hf
      refine lv_aload_n hx hb dX7_feed_45 rfl (lv_at hl 0 rfl) ?_
      refine lv_dup hx hb dX7_feed_46 rfl ?_
      refine va_get (D := D) (ci := 7) (v := .int (y6 0 23)) (C := RX7) (T := TX7) (N := 33) hx hb hts iX7 hown hK hP 0 rfl rfl 23 (by decide) (hts _ aw759) (fun _ h9 => h9) rfl dX7_feed_47 ?_
      refine lv_iconst (v := 1) hx hb dX7_feed_50 (by decide) ?_
      refine lv_iadd hx hb dX7_feed_51 ?_
      refine z_put (ci := 7) (v := .int ((y6 0 23) + 1)) (ty := .int) (C := RX7) (T := TX7) (N := 33) hx hb hts iX7 tyX7 tyX7_ok nmX7 hown hK hP hD hS 0 rfl rfl 23 (by decide) (hts _ aw759) (fun _ h9 => h9) rfl (by decide +kernel) rfl rfl (Nat.le_of_ble_eq_true rfl) dX7_feed_52 (fun (w9 : Mem) => (WMod z a1 w9)) (up2 y6 0 23 ((y6 0 23) + 1)) rfl (fun y8 ey8 H locs hP hD hS => ?_)
      have hf := lt_use ey8 hf
      refine lv_aload_n hx hb dX7_feed_55 rfl (lv_at hl 0 rfl) ?_
      refine va_get (D := D) (ci := 7) (v := .int (y8 0 23)) (C := RX7) (T := TX7) (N := 33) hx hb hts iX7 hown hK hP 0 rfl rfl 23 (by decide) (hts _ aw759) (fun _ h9 => h9) rfl dX7_feed_56 ?_
      obtain ⟨rfl, rfl⟩ := so2 hf
      exact ret_i hx hb hr hlocks hK hP hD hS dX7_feed_59
    · have hf := if_f c5 hf
      refine lv_aload_n hx hb dX7_feed_29 rfl (lv_at hl 0 rfl) ?_
      refine lv_iload_n hx hb dX7_feed_30 rfl (lv_at hl 2 rfl) ?_
      obtain ⟨r9, y10, q11, hf⟩ := bd2_use hf
      have hfo : Foc (WMod z a1 m1) (WMod z a1 m1) (WMod z a1 y10) (WMod z a1 y10) := foc_all
      refine z_goI (ws1 := (WMod z a1 y10)) (va_runV (As := [.int x3]) (rest := []) ⟨hx, hb, hml, hown, hts⟩ (tX7_no l D z tt a1 m1 x3 fu r9 y10 q11 _) (cwV 1 hts (gV4 aw843 aw845 aw1 aw52 aw846) rfl rfl rfl (by decide +kernel) ⟨Nat.le_of_ble_eq_true rfl, Nat.le_of_ble_eq_true rfl⟩) (z_preV hK hP hD hS hA hT hN hfo (va_recv hK hP (ci := 7) (q0 := 0) rfl rfl)) rfl rfl hl.1 rfl (lv_room (Nat.le_of_ble_eq_true rfl)) dX7_feed_31 ⟨Nat.zero_le _, Nat.zero_le _⟩) hP hD hS hA hfo (fun H locs hP hD hS => ?_)
      obtain ⟨rfl, rfl⟩ := so2 hf
      exact ret_i hx hb hr hlocks hK hP hD hS dX7_feed_34
  refine lv_if_ne (tgt := 25) hx hb dX7_feed_10 (by decide) (fun c12 => ?_) (fun c12 => ?_)
  · have hf := if_f c12 hf
    exact B25_k4 _ _ _ hP hD hS _ (lv_sub hl [1, 2, 0] rfl) hf
  · have hf := if_t c12 hf
    refine lv_aload_n hx hb dX7_feed_13 rfl (lv_at hl 1 rfl) ?_
    refine va_get (D := D) (ci := 7) (v := .int (m1 0 23)) (C := RX7) (T := TX7) (N := 33) hx hb hts iX7 hown hK hP 0 rfl rfl 23 (by decide) (hts _ aw759) (fun _ h9 => h9) rfl dX7_feed_14 ?_
    refine lv_bipush (v := 96) hx hb dX7_feed_17 (by decide) ?_
    refine lv_icmp_ne (tgt := 25) hx hb dX7_feed_19 (by decide) (fun c13 => ?_) (fun c13 => ?_)
    · have hf := if_f c13 hf
      exact B25_k4 _ _ _ hP hD hS _ (lv_sub hl [1, 2, 0] rfl) hf
    · have hf := if_t c13 hf
      refine lv_bipush (v := (-6)) hx hb dX7_feed_22 (by decide) ?_
      refine lv_istore_n (lv' := [(2, .int (-6)), (0, .ref (a1 0)), (1, .int p1)]) hx hb dX7_feed_24 rfl hl (by decide) rfl (fun ls hl => ?_)
      exact B25_k4 _ _ _ hP hD hS _ (lv_sub hl [1, 2, 0] rfl) hf
def pX7_next (fu : Nat) (m1 : Mem) : Option Int32 :=
  if (m1 0 23) ≤ (m1 0 24) then
    some (-1)
  else
    ck (m1 0 24) 96 <|
    some (m1 16 (m1 0 24).toNatClampNeg)
set_option maxHeartbeats 4000000 in
set_option maxRecDepth 100000 in
theorem tX7_next (l : Launch) (D : va_G) (z tt : Nat → Nat) (a1 : Nat → Nat) (m1 : Mem)  (fu : Nat) (rr : Int32) (hf : pX7_next fu m1 = some rr) : MetI l yX7_next wsX7_next ({ frames := 0, cells := 0, slots := 0, locals := 0 } : Room) D z tt ([.ref (a1 0)] : List Value) (WMod z a1 m1) rr (WMod z a1 m1) := by
  intro sz
  refine Met.ofW (cc := cX7_next) (maxL := 1) (ret := (some .int)) (by decide) rfl ?_
  intro p e s m args below meth c s₁ B hml hv
  obtain ⟨rfl, hsz, hP, hK, hD0, hT, hN⟩ := hv
  have hx := B.exec
  have hb := B.bytes
  have hr := B.returns
  have hts : ∀ w ∈ wsA, w.before ([.ref (a1 0)] : List Value).toArray s = true := fun w h => atoms_spec (ws := wsX7_next) B.pre w (List.mem_cons_of_mem _ h)
  have hown : s.vm.findClass RX7 = some m.cls := findClass_of_methodNamed B.named
  have hlocks := B.notSynchronized
  subst hsz
  have hD := hD0.self (sz := s.heap.size)
  generalize hAe : va_A (WMod z a1 m1) s.heap.size = A at hD hT ⊢
  have hA : ∀ q : Nat, s.heap.size ≤ q → A q := fun q h => by rw [← hAe]; exact Or.inr h
  have hS : va_S A s.heap s.heap [] := va_S.rf
  have hl := lv_entry ([.ref (a1 0)] : List Value) (n := 1) (Nat.le_of_ble_eq_true rfl)
  rw [lg_entry_eq]
  generalize (lg_sl ([.ref (a1 0)] : List Value) ++ List.replicate (1 - (lg_sl ([.ref (a1 0)] : List Value)).length) Slot.unset).toArray = ls at hl ⊢
  have hl : lv_has ls 1 [(0, .ref (a1 0))] := hl
  unfold pX7_next at hf
  refine lv_aload_n hx hb dX7_next_0 rfl (lv_at hl 0 rfl) ?_
  refine va_get (D := D) (ci := 7) (v := .int (m1 0 24)) (C := RX7) (T := TX7) (N := 33) hx hb hts iX7 hown hK hP 0 rfl rfl 24 (by decide) (hts _ aw760) (fun _ h9 => h9) rfl dX7_next_1 ?_
  refine lv_aload_n hx hb dX7_next_4 rfl (lv_at hl 0 rfl) ?_
  refine va_get (D := D) (ci := 7) (v := .int (m1 0 23)) (C := RX7) (T := TX7) (N := 33) hx hb hts iX7 hown hK hP 0 rfl rfl 23 (by decide) (hts _ aw759) (fun _ h9 => h9) rfl dX7_next_5 ?_
  refine lv_icmp_ge (tgt := 23) hx hb dX7_next_8 (by decide) (fun c1 => ?_) (fun c1 => ?_)
  · have hf := if_t c1 hf
    refine lv_iconst (v := (-1)) hx hb dX7_next_23 (by decide) ?_
    obtain rfl := so1 hf
    exact ret_i hx hb hr hlocks hK hP hD hS dX7_next_24
  · have hf := if_f c1 hf
    refine lv_aload_n hx hb dX7_next_11 rfl (lv_at hl 0 rfl) ?_
    refine va_get (D := D) (ci := 7) (v := .ref (a1 16)) (C := RX7) (T := TX7) (N := 33) hx hb hts iX7 hown hK hP 0 rfl rfl 19 (by decide) (hts _ aw755) (fun _ h9 => h9) rfl dX7_next_12 ?_
    refine lv_aload_n hx hb dX7_next_15 rfl (lv_at hl 0 rfl) ?_
    refine va_get (D := D) (ci := 7) (v := .int (m1 0 24)) (C := RX7) (T := TX7) (N := 33) hx hb hts iX7 hown hK hP 0 rfl rfl 24 (by decide) (hts _ aw760) (fun _ h9 => h9) rfl dX7_next_16 ?_
    obtain ⟨h2, hf⟩ := ck_use hf
    refine z_iald hx hb hK hP 16 rfl h2 dX7_next_19 ?_
    refine lv_goto (tgt := 24) hx hb dX7_next_20 (by decide) ?_
    obtain rfl := so1 hf
    exact ret_i hx hb hr hlocks hK hP hD hS dX7_next_24
def pX7_readsNumber (fu : Nat) (m1 : Mem) (p1 : Int32) (p2 : Int32) (p3 : Int32) : Option (Int32 × Mem) :=
  zl3 (fun g5 (x1 : Int32) (x2 : Int32) (y3 : Mem) =>
    jn1 (fun (u0 : Unit) =>
      ck p1 240 <|
      lt' (up2 y3 19 p1.toNatClampNeg x1) fun y8 =>
      if x2 < p2 then
        some (0, y8)
      else
        some (1, y8)) fun k7 =>
    if p3 ≤ x2 then
      k7 ()
    else
      bd (pX7_next fu y3) fun r12 =>
      bd (pX7_isIn fu r12 48 57) fun r14 =>
      if r14 = 0 then
        k7 ()
      else
        bd (pX7_next fu y3) fun r17 =>
        lt' ((((10 * x1) + r17) - 48) : Int32) fun x19 =>
        lt' (up2 y3 0 24 ((y3 0 24) + 1)) fun y20 =>
        lt' (x2 + 1) fun x21 =>
        g5 x19 x21 y20) fu 0 0 m1
set_option maxHeartbeats 4000000 in
set_option maxRecDepth 100000 in
theorem tX7_readsNumber (l : Launch) (D : va_G) (z tt : Nat → Nat) (a1 : Nat → Nat) (m1 : Mem) (p1 : Int32) (p2 : Int32) (p3 : Int32) (fu : Nat) (rr : Int32) (m1' : Mem) (hf : pX7_readsNumber fu m1 p1 p2 p3 = some (rr, m1')) : MetI l yX7_readsNumber wsX7_readsNumber ({ frames := 1, cells := 0, slots := 0, locals := 22 } : Room) D z tt ([.ref (a1 0), .int p1, .int p2, .int p3] : List Value) (WMod z a1 m1) rr (WMod z a1 m1') := by
  intro sz
  refine Met.ofW (cc := cX7_readsNumber) (maxL := 6) (ret := (some .boolean)) (by decide) rfl ?_
  intro p e s m args below meth c s₁ B hml hv
  obtain ⟨rfl, hsz, hP, hK, hD0, hT, hN⟩ := hv
  have hx := B.exec
  have hb := B.bytes
  have hr := B.returns
  have hts : ∀ w ∈ wsA, w.before ([.ref (a1 0), .int p1, .int p2, .int p3] : List Value).toArray s = true := fun w h => atoms_spec (ws := wsX7_readsNumber) B.pre w (List.mem_cons_of_mem _ h)
  have hown : s.vm.findClass RX7 = some m.cls := findClass_of_methodNamed B.named
  have hlocks := B.notSynchronized
  subst hsz
  have hD := hD0.self (sz := s.heap.size)
  generalize hAe : va_A (WMod z a1 m1) s.heap.size = A at hD hT ⊢
  have hA : ∀ q : Nat, s.heap.size ≤ q → A q := fun q h => by rw [← hAe]; exact Or.inr h
  have hS : va_S A s.heap s.heap [] := va_S.rf
  have hl := lv_entry ([.ref (a1 0), .int p1, .int p2, .int p3] : List Value) (n := 6) (Nat.le_of_ble_eq_true rfl)
  rw [lg_entry_eq]
  generalize (lg_sl ([.ref (a1 0), .int p1, .int p2, .int p3] : List Value) ++ List.replicate (6 - (lg_sl ([.ref (a1 0), .int p1, .int p2, .int p3] : List Value)).length) Slot.unset).toArray = ls at hl ⊢
  have hl : lv_has ls 6 [(0, .ref (a1 0)), (1, .int p1), (2, .int p2), (3, .int p3)] := hl
  unfold pX7_readsNumber at hf
  refine lv_iconst (v := 0) hx hb dX7_readsNumber_0 (by decide) ?_
  refine lv_istore (lv' := [(4, .int 0), (0, .ref (a1 0)), (1, .int p1), (2, .int p2), (3, .int p3)]) hx hb dX7_readsNumber_1 hl (by decide) rfl (fun ls hl => ?_)
  refine lv_iconst (v := 0) hx hb dX7_readsNumber_3 (by decide) ?_
  refine lv_istore (lv' := [(5, .int 0), (4, .int 0), (0, .ref (a1 0)), (1, .int p1), (2, .int p2), (3, .int p3)]) hx hb dX7_readsNumber_4 hl (by decide) rfl (fun ls hl => ?_)
  obtain ⟨F4, eF4, hf⟩ := zl3_use hf
  have L6_F4 : ∀ (n : Nat) (x1 : Int32) (x2 : Int32) (y3 : Mem) (H : Heap) (locs : List Loc), va_P D vwCl (WMod z a1 y3) H → va_D A (WMod z a1 y3) → va_S A s.heap H locs → ∀ (ls : Array Slot), lv_has ls 6 [(0, .ref (a1 0)), (1, .int p1), (2, .int p2), (3, .int p3), (4, .int x1), (5, .int x2)] → zl3 F4 n x1 x2 y3 = some (rr, m1') → GI p l e (headSpec wsX7_readsNumber ({ frames := 1, cells := 0, slots := 0, locals := 22 } : Room)).room s m ([.ref (a1 0), .int p1, .int p2, .int p3] : List Value).toArray below meth c A D z rr (WMod z a1 m1') H locs (F0 m 6 ls []) := by
    intro n
    induction n with
    | zero =>
      intro x1 x2 y3 H locs hP hD hS ls hl hf
      exact no_none hf
    | succ n ih6 =>
      intro x1 x2 y3 H locs hP hD hS ls hl hf
      have hf := zl3_s eF4 hf
      refine lv_iload hx hb dX7_readsNumber_6 (lv_at hl 5 rfl) ?_
      refine lv_iload_n hx hb dX7_readsNumber_8 rfl (lv_at hl 3 rfl) ?_
      obtain ⟨k7, ek7, hf⟩ := jn1_use hf
      have B57_k7 : ∀ (u0 : Unit) (H : Heap) (locs : List Loc), va_P D vwCl (WMod z a1 y3) H → va_D A (WMod z a1 y3) → va_S A s.heap H locs → ∀ (ls : Array Slot), lv_has ls 6 [(0, .ref (a1 0)), (1, .int p1), (2, .int p2), (4, .int x1), (5, .int x2)] → k7 u0 = some (rr, m1') → GI p l e (headSpec wsX7_readsNumber ({ frames := 1, cells := 0, slots := 0, locals := 22 } : Room)).room s m ([.ref (a1 0), .int p1, .int p2, .int p3] : List Value).toArray below meth c A D z rr (WMod z a1 m1') H locs (F0 m 57 ls []) := by
        intro u0 H locs hP hD hS ls hl hf
        have hf := jn1_ap ek7 hf
        refine lv_aload_n hx hb dX7_readsNumber_57 rfl (lv_at hl 0 rfl) ?_
        refine va_get (D := D) (ci := 7) (v := .ref (a1 19)) (C := RX7) (T := TX7) (N := 33) hx hb hts iX7 hown hK hP 0 rfl rfl 22 (by decide) (hts _ aw758) (fun _ h9 => h9) rfl dX7_readsNumber_58 ?_
        refine lv_iload_n hx hb dX7_readsNumber_61 rfl (lv_at hl 1 rfl) ?_
        refine lv_iload hx hb dX7_readsNumber_62 (lv_at hl 3 rfl) ?_
        obtain ⟨h9, hf⟩ := ck_use hf
        refine z_iast hx hb hK hP hD hS 19 rfl h9 dX7_readsNumber_64 (fun (w9 : Mem) => (WMod z a1 w9)) (up2 y3 19 p1.toNatClampNeg x1) rfl (fun y8 ey8 H locs hP hD hS => ?_)
        have hf := lt_use ey8 hf
        refine lv_iload hx hb dX7_readsNumber_65 (lv_at hl 4 rfl) ?_
        refine lv_iload_n hx hb dX7_readsNumber_67 rfl (lv_at hl 2 rfl) ?_
        refine lv_icmp_lt (tgt := 75) hx hb dX7_readsNumber_68 (by decide) (fun c10 => ?_) (fun c10 => ?_)
        · have hf := if_t c10 hf
          refine lv_iconst (v := 0) hx hb dX7_readsNumber_75 (by decide) ?_
          obtain ⟨rfl, rfl⟩ := so2 hf
          exact ret_z hx hb hr hlocks hK hP hD hS (by decide) dX7_readsNumber_76
        · have hf := if_f c10 hf
          refine lv_iconst (v := 1) hx hb dX7_readsNumber_71 (by decide) ?_
          refine lv_goto (tgt := 76) hx hb dX7_readsNumber_72 (by decide) ?_
          obtain ⟨rfl, rfl⟩ := so2 hf
          exact ret_z hx hb hr hlocks hK hP hD hS (by decide) dX7_readsNumber_76
      refine lv_icmp_ge (tgt := 57) hx hb dX7_readsNumber_9 (by decide) (fun c11 => ?_) (fun c11 => ?_)
      · have hf := if_t c11 hf
        exact B57_k7 _ _ _ hP hD hS _ (lv_sub hl [0, 1, 2, 4, 5] rfl) hf
      · have hf := if_f c11 hf
        refine lv_aload_n hx hb dX7_readsNumber_12 rfl (lv_at hl 0 rfl) ?_
        obtain ⟨r12, q13, hf⟩ := bd_use hf
        have hfo : Foc (WMod z a1 y3) (WMod z a1 y3) (WMod z a1 y3) (WMod z a1 y3) := foc_all
        refine z_goI (ws1 := (WMod z a1 y3)) (va_runV (As := []) (rest := []) ⟨hx, hb, hml, hown, hts⟩ (tX7_next l D z tt a1 y3  fu r12 q13 _) (cwV 0 hts (gV4 aw855 aw857 aw3 aw52 aw858) rfl rfl rfl (by decide +kernel) ⟨Nat.le_of_ble_eq_true rfl, Nat.le_of_ble_eq_true rfl⟩) (z_preV hK hP hD hS hA hT hN hfo (va_recv hK hP (ci := 7) (q0 := 0) rfl rfl)) rfl rfl hl.1 rfl (lv_room (Nat.le_of_ble_eq_true rfl)) dX7_readsNumber_13 ⟨Nat.zero_le _, Nat.zero_le _⟩) hP hD hS hA hfo (fun H locs hP hD hS => ?_)
        refine lv_bipush (v := 48) hx hb dX7_readsNumber_16 (by decide) ?_
        refine lv_bipush (v := 57) hx hb dX7_readsNumber_18 (by decide) ?_
        obtain ⟨r14, q15, hf⟩ := bd_use hf
        have hfo : Foc (WMod z a1 y3) ([] : va_W) (WMod z a1 y3) ([] : va_W) := foc_nil
        refine z_goI (ws1 := (WMod z a1 y3)) (va_runS (As := [.int r12, .int 48, .int 57]) (rest := []) ⟨hx, hb, hml, hown, hts⟩ (tX7_isIn l D z tt  r12 48 57 fu r14 q15 _) (va_cwS 3 hts (gS3 aw867 aw868 aw52 aw869) rfl rfl rfl (by decide +kernel) ⟨Nat.le_of_ble_eq_true rfl, Nat.le_of_ble_eq_true rfl⟩) (z_preS hK hP hD hS hA hT hN hfo) rfl rfl hl.1 rfl (lv_room (Nat.le_of_ble_eq_true rfl)) dX7_readsNumber_20 ⟨Nat.zero_le _, Nat.zero_le _⟩) hP hD hS hA hfo (fun H locs hP hD hS => ?_)
        refine lv_if_eq (tgt := 57) hx hb dX7_readsNumber_23 (by decide) (fun c16 => ?_) (fun c16 => ?_)
        · have hf := if_t c16 hf
          exact B57_k7 _ _ _ hP hD hS _ (lv_sub hl [0, 1, 2, 4, 5] rfl) hf
        · have hf := if_f c16 hf
          refine lv_bipush (v := 10) hx hb dX7_readsNumber_26 (by decide) ?_
          refine lv_iload hx hb dX7_readsNumber_28 (lv_at hl 4 rfl) ?_
          refine lv_imul hx hb dX7_readsNumber_30 ?_
          refine lv_aload_n hx hb dX7_readsNumber_31 rfl (lv_at hl 0 rfl) ?_
          obtain ⟨r17, q18, hf⟩ := bd_use hf
          have hfo : Foc (WMod z a1 y3) (WMod z a1 y3) (WMod z a1 y3) (WMod z a1 y3) := foc_all
          refine z_goI (ws1 := (WMod z a1 y3)) (va_runV (As := []) (rest := [.int (10 * x1)]) ⟨hx, hb, hml, hown, hts⟩ (tX7_next l D z tt a1 y3  fu r17 q18 _) (cwV 0 hts (gV4 aw855 aw857 aw3 aw52 aw858) rfl rfl rfl (by decide +kernel) ⟨Nat.le_of_ble_eq_true rfl, Nat.le_of_ble_eq_true rfl⟩) (z_preV hK hP hD hS hA hT hN hfo (va_recv hK hP (ci := 7) (q0 := 0) rfl rfl)) rfl rfl hl.1 rfl (lv_room (Nat.le_of_ble_eq_true rfl)) dX7_readsNumber_32 ⟨Nat.zero_le _, Nat.zero_le _⟩) hP hD hS hA hfo (fun H locs hP hD hS => ?_)
          refine lv_iadd hx hb dX7_readsNumber_35 ?_
          refine lv_bipush (v := 48) hx hb dX7_readsNumber_36 (by decide) ?_
          refine lv_isub hx hb dX7_readsNumber_38 ?_
          refine lv_topi (fun x19 ex19 => ?_)
          have hf := lt_use ex19 hf
          refine lv_istore (lv' := [(4, .int x19), (0, .ref (a1 0)), (1, .int p1), (2, .int p2), (3, .int p3), (5, .int x2)]) hx hb dX7_readsNumber_39 hl (by decide) rfl (fun ls hl => ?_)
          refine lv_aload_n hx hb dX7_readsNumber_41 rfl (lv_at hl 1 rfl) ?_
          refine lv_dup hx hb dX7_readsNumber_42 rfl ?_
          refine va_get (D := D) (ci := 7) (v := .int (y3 0 24)) (C := RX7) (T := TX7) (N := 33) hx hb hts iX7 hown hK hP 0 rfl rfl 24 (by decide) (hts _ aw760) (fun _ h9 => h9) rfl dX7_readsNumber_43 ?_
          refine lv_iconst (v := 1) hx hb dX7_readsNumber_46 (by decide) ?_
          refine lv_iadd hx hb dX7_readsNumber_47 ?_
          refine z_put (ci := 7) (v := .int ((y3 0 24) + 1)) (ty := .int) (C := RX7) (T := TX7) (N := 33) hx hb hts iX7 tyX7 tyX7_ok nmX7 hown hK hP hD hS 0 rfl rfl 24 (by decide) (hts _ aw760) (fun _ h9 => h9) rfl (by decide +kernel) rfl rfl (Nat.le_of_ble_eq_true rfl) dX7_readsNumber_48 (fun (w9 : Mem) => (WMod z a1 w9)) (up2 y3 0 24 ((y3 0 24) + 1)) rfl (fun y20 ey20 H locs hP hD hS => ?_)
          have hf := lt_use ey20 hf
          obtain ⟨x21, ex21⟩ : ∃ y : Int32, y = x2 + 1 := ⟨_, rfl⟩
          have hf := lt_use ex21 hf
          refine lv_iinc (v := x21) (lv' := [(5, .int x21), (4, .int x19), (0, .ref (a1 0)), (1, .int p1), (2, .int p2), (3, .int p3)]) hx hb dX7_readsNumber_51 hl (k := 5) rfl (by rw [ex21]; rfl) (by decide) rfl (fun ls hl => ?_)
          refine lv_goto (tgt := 6) hx hb dX7_readsNumber_54 (by decide) ?_
          exact ih6 _ _ _ _ _ hP hD hS _ (lv_sub hl [2, 3, 4, 5, 1, 0] rfl) hf
  exact L6_F4 fu _ _ _ _ _ hP hD hS _ (lv_sub hl [2, 3, 4, 5, 1, 0] rfl) hf
def pX7_readsSetting (fu : Nat) (m1 : Mem) (p1 : Int32) : Option (Int32 × Mem) :=
  bd2 (pX7_readsNumber fu m1 p1 1 1) fun r1 y2 =>
  if r1 = 0 then
    some (0, y2)
  else
    bd (pX7_next fu y2) fun r5 =>
    if r5 = 61 then
      lt' (up2 y2 0 24 ((y2 0 24) + 1)) fun y8 =>
      bd2 (pX7_readsNumber fu y8 (p1 + 1) 1 2) fun r9 y10 =>
      ckz r9 <| some (r9, y10)
    else
      some (0, y2)
set_option maxHeartbeats 4000000 in
set_option maxRecDepth 100000 in
theorem tX7_readsSetting (l : Launch) (D : va_G) (z tt : Nat → Nat) (a1 : Nat → Nat) (m1 : Mem) (p1 : Int32) (fu : Nat) (rr : Int32) (m1' : Mem) (hf : pX7_readsSetting fu m1 p1 = some (rr, m1')) : MetI l yX7_readsSetting wsX7_readsSetting ({ frames := 2, cells := 0, slots := 0, locals := 47 } : Room) D z tt ([.ref (a1 0), .int p1] : List Value) (WMod z a1 m1) rr (WMod z a1 m1') := by
  intro sz
  refine Met.ofW (cc := cX7_readsSetting) (maxL := 2) (ret := (some .boolean)) (by decide) rfl ?_
  intro p e s m args below meth c s₁ B hml hv
  obtain ⟨rfl, hsz, hP, hK, hD0, hT, hN⟩ := hv
  have hx := B.exec
  have hb := B.bytes
  have hr := B.returns
  have hts : ∀ w ∈ wsA, w.before ([.ref (a1 0), .int p1] : List Value).toArray s = true := fun w h => atoms_spec (ws := wsX7_readsSetting) B.pre w (List.mem_cons_of_mem _ h)
  have hown : s.vm.findClass RX7 = some m.cls := findClass_of_methodNamed B.named
  have hlocks := B.notSynchronized
  subst hsz
  have hD := hD0.self (sz := s.heap.size)
  generalize hAe : va_A (WMod z a1 m1) s.heap.size = A at hD hT ⊢
  have hA : ∀ q : Nat, s.heap.size ≤ q → A q := fun q h => by rw [← hAe]; exact Or.inr h
  have hS : va_S A s.heap s.heap [] := va_S.rf
  have hl := lv_entry ([.ref (a1 0), .int p1] : List Value) (n := 2) (Nat.le_of_ble_eq_true rfl)
  rw [lg_entry_eq]
  generalize (lg_sl ([.ref (a1 0), .int p1] : List Value) ++ List.replicate (2 - (lg_sl ([.ref (a1 0), .int p1] : List Value)).length) Slot.unset).toArray = ls at hl ⊢
  have hl : lv_has ls 2 [(0, .ref (a1 0)), (1, .int p1)] := hl
  unfold pX7_readsSetting at hf
  refine lv_aload_n hx hb dX7_readsSetting_0 rfl (lv_at hl 0 rfl) ?_
  refine lv_iload_n hx hb dX7_readsSetting_1 rfl (lv_at hl 1 rfl) ?_
  refine lv_iconst (v := 1) hx hb dX7_readsSetting_2 (by decide) ?_
  refine lv_iconst (v := 1) hx hb dX7_readsSetting_3 (by decide) ?_
  obtain ⟨r1, y2, q3, hf⟩ := bd2_use hf
  have hfo : Foc (WMod z a1 m1) (WMod z a1 m1) (WMod z a1 y2) (WMod z a1 y2) := foc_all
  refine z_goI (ws1 := (WMod z a1 y2)) (va_runV (As := [.int p1, .int 1, .int 1]) (rest := []) ⟨hx, hb, hml, hown, hts⟩ (tX7_readsNumber l D z tt a1 m1 p1 1 1 fu r1 y2 q3 _) (cwV 3 hts (gV4 aw863 aw865 aw5 aw52 aw866) rfl rfl rfl (by decide +kernel) ⟨Nat.le_of_ble_eq_true rfl, Nat.le_of_ble_eq_true rfl⟩) (z_preV hK hP hD hS hA hT hN hfo (va_recv hK hP (ci := 7) (q0 := 0) rfl rfl)) rfl rfl hl.1 rfl (lv_room (Nat.le_of_ble_eq_true rfl)) dX7_readsSetting_4 ⟨Nat.zero_le _, Nat.zero_le _⟩) hP hD hS hA hfo (fun H locs hP hD hS => ?_)
  refine lv_if_eq (tgt := 19) hx hb dX7_readsSetting_7 (by decide) (fun c4 => ?_) (fun c4 => ?_)
  · have hf := if_t c4 hf
    refine lv_iconst (v := 0) hx hb dX7_readsSetting_19 (by decide) ?_
    obtain ⟨rfl, rfl⟩ := so2 hf
    exact ret_z hx hb hr hlocks hK hP hD hS (by decide) dX7_readsSetting_20
  · have hf := if_f c4 hf
    refine lv_aload_n hx hb dX7_readsSetting_10 rfl (lv_at hl 0 rfl) ?_
    obtain ⟨r5, q6, hf⟩ := bd_use hf
    have hfo : Foc (WMod z a1 y2) (WMod z a1 y2) (WMod z a1 y2) (WMod z a1 y2) := foc_all
    refine z_goI (ws1 := (WMod z a1 y2)) (va_runV (As := []) (rest := []) ⟨hx, hb, hml, hown, hts⟩ (tX7_next l D z tt a1 y2  fu r5 q6 _) (cwV 0 hts (gV4 aw855 aw857 aw3 aw52 aw858) rfl rfl rfl (by decide +kernel) ⟨Nat.le_of_ble_eq_true rfl, Nat.le_of_ble_eq_true rfl⟩) (z_preV hK hP hD hS hA hT hN hfo (va_recv hK hP (ci := 7) (q0 := 0) rfl rfl)) rfl rfl hl.1 rfl (lv_room (Nat.le_of_ble_eq_true rfl)) dX7_readsSetting_11 ⟨Nat.zero_le _, Nat.zero_le _⟩) hP hD hS hA hfo (fun H locs hP hD hS => ?_)
    refine lv_bipush (v := 61) hx hb dX7_readsSetting_14 (by decide) ?_
    refine lv_icmp_eq (tgt := 21) hx hb dX7_readsSetting_16 (by decide) (fun c7 => ?_) (fun c7 => ?_)
    · have hf := if_t c7 hf
      refine lv_aload_n hx hb dX7_readsSetting_21 rfl (lv_at hl 0 rfl) ?_
      refine lv_dup hx hb dX7_readsSetting_22 rfl ?_
      refine va_get (D := D) (ci := 7) (v := .int (y2 0 24)) (C := RX7) (T := TX7) (N := 33) hx hb hts iX7 hown hK hP 0 rfl rfl 24 (by decide) (hts _ aw760) (fun _ h9 => h9) rfl dX7_readsSetting_23 ?_
      refine lv_iconst (v := 1) hx hb dX7_readsSetting_26 (by decide) ?_
      refine lv_iadd hx hb dX7_readsSetting_27 ?_
      refine z_put (ci := 7) (v := .int ((y2 0 24) + 1)) (ty := .int) (C := RX7) (T := TX7) (N := 33) hx hb hts iX7 tyX7 tyX7_ok nmX7 hown hK hP hD hS 0 rfl rfl 24 (by decide) (hts _ aw760) (fun _ h9 => h9) rfl (by decide +kernel) rfl rfl (Nat.le_of_ble_eq_true rfl) dX7_readsSetting_28 (fun (w9 : Mem) => (WMod z a1 w9)) (up2 y2 0 24 ((y2 0 24) + 1)) rfl (fun y8 ey8 H locs hP hD hS => ?_)
      have hf := lt_use ey8 hf
      refine lv_aload_n hx hb dX7_readsSetting_31 rfl (lv_at hl 0 rfl) ?_
      refine lv_iload_n hx hb dX7_readsSetting_32 rfl (lv_at hl 1 rfl) ?_
      refine lv_iconst (v := 1) hx hb dX7_readsSetting_33 (by decide) ?_
      refine lv_iadd hx hb dX7_readsSetting_34 ?_
      refine lv_iconst (v := 1) hx hb dX7_readsSetting_35 (by decide) ?_
      refine lv_iconst (v := 2) hx hb dX7_readsSetting_36 (by decide) ?_
      obtain ⟨r9, y10, q11, hf⟩ := bd2_use hf
      have hfo : Foc (WMod z a1 y8) (WMod z a1 y8) (WMod z a1 y10) (WMod z a1 y10) := foc_all
      refine z_goI (ws1 := (WMod z a1 y10)) (va_runV (As := [.int (p1 + 1), .int 1, .int 2]) (rest := []) ⟨hx, hb, hml, hown, hts⟩ (tX7_readsNumber l D z tt a1 y8 (p1 + 1) 1 2 fu r9 y10 q11 _) (cwV 3 hts (gV4 aw863 aw865 aw5 aw52 aw866) rfl rfl rfl (by decide +kernel) ⟨Nat.le_of_ble_eq_true rfl, Nat.le_of_ble_eq_true rfl⟩) (z_preV hK hP hD hS hA hT hN hfo (va_recv hK hP (ci := 7) (q0 := 0) rfl rfl)) rfl rfl hl.1 rfl (lv_room (Nat.le_of_ble_eq_true rfl)) dX7_readsSetting_37 ⟨Nat.zero_le _, Nat.zero_le _⟩) hP hD hS hA hfo (fun H locs hP hD hS => ?_)
      obtain ⟨h12, hf⟩ := ckz_use hf
      obtain ⟨rfl, rfl⟩ := so2 hf
      exact ret_z hx hb hr hlocks hK hP hD hS h12 dX7_readsSetting_40
    · have hf := if_f c7 hf
      refine lv_iconst (v := 0) hx hb dX7_readsSetting_19 (by decide) ?_
      obtain ⟨rfl, rfl⟩ := so2 hf
      exact ret_z hx hb hr hlocks hK hP hD hS (by decide) dX7_readsSetting_20
def pX7_readsComer (fu : Nat) (m1 : Mem) (p1 : Int32) : Option (Int32 × Mem) :=
  bd2 (pX7_readsNumber fu m1 p1 1 1) fun r1 y2 =>
  if r1 = 0 then
    some (0, y2)
  else
    bd2 (pX7_readsNumber fu y2 (p1 + 1) 1 1) fun r5 y6 =>
    if r5 = 0 then
      some (0, y6)
    else
      bd2 (pX7_readsNumber fu y6 (p1 + 2) 3 3) fun r9 y10 =>
      if r9 = 0 then
        some (0, y10)
      else
        bd2 (pX7_readsNumber fu y10 (p1 + 3) 1 1) fun r13 y14 =>
        if r13 = 0 then
          some (0, y14)
        else
          bd2 (pX7_readsNumber fu y14 (p1 + 4) 2 2) fun r17 y18 =>
          if r17 = 0 then
            some (0, y18)
          else
            some (1, y18)
set_option maxHeartbeats 4000000 in
set_option maxRecDepth 100000 in
theorem tX7_readsComer (l : Launch) (D : va_G) (z tt : Nat → Nat) (a1 : Nat → Nat) (m1 : Mem) (p1 : Int32) (fu : Nat) (rr : Int32) (m1' : Mem) (hf : pX7_readsComer fu m1 p1 = some (rr, m1')) : MetI l yX7_readsComer wsX7_readsComer ({ frames := 2, cells := 0, slots := 0, locals := 47 } : Room) D z tt ([.ref (a1 0), .int p1] : List Value) (WMod z a1 m1) rr (WMod z a1 m1') := by
  intro sz
  refine Met.ofW (cc := cX7_readsComer) (maxL := 2) (ret := (some .boolean)) (by decide) rfl ?_
  intro p e s m args below meth c s₁ B hml hv
  obtain ⟨rfl, hsz, hP, hK, hD0, hT, hN⟩ := hv
  have hx := B.exec
  have hb := B.bytes
  have hr := B.returns
  have hts : ∀ w ∈ wsA, w.before ([.ref (a1 0), .int p1] : List Value).toArray s = true := fun w h => atoms_spec (ws := wsX7_readsComer) B.pre w (List.mem_cons_of_mem _ h)
  have hown : s.vm.findClass RX7 = some m.cls := findClass_of_methodNamed B.named
  have hlocks := B.notSynchronized
  subst hsz
  have hD := hD0.self (sz := s.heap.size)
  generalize hAe : va_A (WMod z a1 m1) s.heap.size = A at hD hT ⊢
  have hA : ∀ q : Nat, s.heap.size ≤ q → A q := fun q h => by rw [← hAe]; exact Or.inr h
  have hS : va_S A s.heap s.heap [] := va_S.rf
  have hl := lv_entry ([.ref (a1 0), .int p1] : List Value) (n := 2) (Nat.le_of_ble_eq_true rfl)
  rw [lg_entry_eq]
  generalize (lg_sl ([.ref (a1 0), .int p1] : List Value) ++ List.replicate (2 - (lg_sl ([.ref (a1 0), .int p1] : List Value)).length) Slot.unset).toArray = ls at hl ⊢
  have hl : lv_has ls 2 [(0, .ref (a1 0)), (1, .int p1)] := hl
  unfold pX7_readsComer at hf
  refine lv_aload_n hx hb dX7_readsComer_0 rfl (lv_at hl 0 rfl) ?_
  refine lv_iload_n hx hb dX7_readsComer_1 rfl (lv_at hl 1 rfl) ?_
  refine lv_iconst (v := 1) hx hb dX7_readsComer_2 (by decide) ?_
  refine lv_iconst (v := 1) hx hb dX7_readsComer_3 (by decide) ?_
  obtain ⟨r1, y2, q3, hf⟩ := bd2_use hf
  have hfo : Foc (WMod z a1 m1) (WMod z a1 m1) (WMod z a1 y2) (WMod z a1 y2) := foc_all
  refine z_goI (ws1 := (WMod z a1 y2)) (va_runV (As := [.int p1, .int 1, .int 1]) (rest := []) ⟨hx, hb, hml, hown, hts⟩ (tX7_readsNumber l D z tt a1 m1 p1 1 1 fu r1 y2 q3 _) (cwV 3 hts (gV4 aw863 aw865 aw5 aw52 aw866) rfl rfl rfl (by decide +kernel) ⟨Nat.le_of_ble_eq_true rfl, Nat.le_of_ble_eq_true rfl⟩) (z_preV hK hP hD hS hA hT hN hfo (va_recv hK hP (ci := 7) (q0 := 0) rfl rfl)) rfl rfl hl.1 rfl (lv_room (Nat.le_of_ble_eq_true rfl)) dX7_readsComer_4 ⟨Nat.zero_le _, Nat.zero_le _⟩) hP hD hS hA hfo (fun H locs hP hD hS => ?_)
  refine lv_if_eq (tgt := 62) hx hb dX7_readsComer_7 (by decide) (fun c4 => ?_) (fun c4 => ?_)
  · have hf := if_t c4 hf
    refine lv_iconst (v := 0) hx hb dX7_readsComer_62 (by decide) ?_
    obtain ⟨rfl, rfl⟩ := so2 hf
    exact ret_z hx hb hr hlocks hK hP hD hS (by decide) dX7_readsComer_63
  · have hf := if_f c4 hf
    refine lv_aload_n hx hb dX7_readsComer_10 rfl (lv_at hl 0 rfl) ?_
    refine lv_iload_n hx hb dX7_readsComer_11 rfl (lv_at hl 1 rfl) ?_
    refine lv_iconst (v := 1) hx hb dX7_readsComer_12 (by decide) ?_
    refine lv_iadd hx hb dX7_readsComer_13 ?_
    refine lv_iconst (v := 1) hx hb dX7_readsComer_14 (by decide) ?_
    refine lv_iconst (v := 1) hx hb dX7_readsComer_15 (by decide) ?_
    obtain ⟨r5, y6, q7, hf⟩ := bd2_use hf
    have hfo : Foc (WMod z a1 y2) (WMod z a1 y2) (WMod z a1 y6) (WMod z a1 y6) := foc_all
    refine z_goI (ws1 := (WMod z a1 y6)) (va_runV (As := [.int (p1 + 1), .int 1, .int 1]) (rest := []) ⟨hx, hb, hml, hown, hts⟩ (tX7_readsNumber l D z tt a1 y2 (p1 + 1) 1 1 fu r5 y6 q7 _) (cwV 3 hts (gV4 aw863 aw865 aw5 aw52 aw866) rfl rfl rfl (by decide +kernel) ⟨Nat.le_of_ble_eq_true rfl, Nat.le_of_ble_eq_true rfl⟩) (z_preV hK hP hD hS hA hT hN hfo (va_recv hK hP (ci := 7) (q0 := 0) rfl rfl)) rfl rfl hl.1 rfl (lv_room (Nat.le_of_ble_eq_true rfl)) dX7_readsComer_16 ⟨Nat.zero_le _, Nat.zero_le _⟩) hP hD hS hA hfo (fun H locs hP hD hS => ?_)
    refine lv_if_eq (tgt := 62) hx hb dX7_readsComer_19 (by decide) (fun c8 => ?_) (fun c8 => ?_)
    · have hf := if_t c8 hf
      refine lv_iconst (v := 0) hx hb dX7_readsComer_62 (by decide) ?_
      obtain ⟨rfl, rfl⟩ := so2 hf
      exact ret_z hx hb hr hlocks hK hP hD hS (by decide) dX7_readsComer_63
    · have hf := if_f c8 hf
      refine lv_aload_n hx hb dX7_readsComer_22 rfl (lv_at hl 0 rfl) ?_
      refine lv_iload_n hx hb dX7_readsComer_23 rfl (lv_at hl 1 rfl) ?_
      refine lv_iconst (v := 2) hx hb dX7_readsComer_24 (by decide) ?_
      refine lv_iadd hx hb dX7_readsComer_25 ?_
      refine lv_iconst (v := 3) hx hb dX7_readsComer_26 (by decide) ?_
      refine lv_iconst (v := 3) hx hb dX7_readsComer_27 (by decide) ?_
      obtain ⟨r9, y10, q11, hf⟩ := bd2_use hf
      have hfo : Foc (WMod z a1 y6) (WMod z a1 y6) (WMod z a1 y10) (WMod z a1 y10) := foc_all
      refine z_goI (ws1 := (WMod z a1 y10)) (va_runV (As := [.int (p1 + 2), .int 3, .int 3]) (rest := []) ⟨hx, hb, hml, hown, hts⟩ (tX7_readsNumber l D z tt a1 y6 (p1 + 2) 3 3 fu r9 y10 q11 _) (cwV 3 hts (gV4 aw863 aw865 aw5 aw52 aw866) rfl rfl rfl (by decide +kernel) ⟨Nat.le_of_ble_eq_true rfl, Nat.le_of_ble_eq_true rfl⟩) (z_preV hK hP hD hS hA hT hN hfo (va_recv hK hP (ci := 7) (q0 := 0) rfl rfl)) rfl rfl hl.1 rfl (lv_room (Nat.le_of_ble_eq_true rfl)) dX7_readsComer_28 ⟨Nat.zero_le _, Nat.zero_le _⟩) hP hD hS hA hfo (fun H locs hP hD hS => ?_)
      refine lv_if_eq (tgt := 62) hx hb dX7_readsComer_31 (by decide) (fun c12 => ?_) (fun c12 => ?_)
      · have hf := if_t c12 hf
        refine lv_iconst (v := 0) hx hb dX7_readsComer_62 (by decide) ?_
        obtain ⟨rfl, rfl⟩ := so2 hf
        exact ret_z hx hb hr hlocks hK hP hD hS (by decide) dX7_readsComer_63
      · have hf := if_f c12 hf
        refine lv_aload_n hx hb dX7_readsComer_34 rfl (lv_at hl 0 rfl) ?_
        refine lv_iload_n hx hb dX7_readsComer_35 rfl (lv_at hl 1 rfl) ?_
        refine lv_iconst (v := 3) hx hb dX7_readsComer_36 (by decide) ?_
        refine lv_iadd hx hb dX7_readsComer_37 ?_
        refine lv_iconst (v := 1) hx hb dX7_readsComer_38 (by decide) ?_
        refine lv_iconst (v := 1) hx hb dX7_readsComer_39 (by decide) ?_
        obtain ⟨r13, y14, q15, hf⟩ := bd2_use hf
        have hfo : Foc (WMod z a1 y10) (WMod z a1 y10) (WMod z a1 y14) (WMod z a1 y14) := foc_all
        refine z_goI (ws1 := (WMod z a1 y14)) (va_runV (As := [.int (p1 + 3), .int 1, .int 1]) (rest := []) ⟨hx, hb, hml, hown, hts⟩ (tX7_readsNumber l D z tt a1 y10 (p1 + 3) 1 1 fu r13 y14 q15 _) (cwV 3 hts (gV4 aw863 aw865 aw5 aw52 aw866) rfl rfl rfl (by decide +kernel) ⟨Nat.le_of_ble_eq_true rfl, Nat.le_of_ble_eq_true rfl⟩) (z_preV hK hP hD hS hA hT hN hfo (va_recv hK hP (ci := 7) (q0 := 0) rfl rfl)) rfl rfl hl.1 rfl (lv_room (Nat.le_of_ble_eq_true rfl)) dX7_readsComer_40 ⟨Nat.zero_le _, Nat.zero_le _⟩) hP hD hS hA hfo (fun H locs hP hD hS => ?_)
        refine lv_if_eq (tgt := 62) hx hb dX7_readsComer_43 (by decide) (fun c16 => ?_) (fun c16 => ?_)
        · have hf := if_t c16 hf
          refine lv_iconst (v := 0) hx hb dX7_readsComer_62 (by decide) ?_
          obtain ⟨rfl, rfl⟩ := so2 hf
          exact ret_z hx hb hr hlocks hK hP hD hS (by decide) dX7_readsComer_63
        · have hf := if_f c16 hf
          refine lv_aload_n hx hb dX7_readsComer_46 rfl (lv_at hl 0 rfl) ?_
          refine lv_iload_n hx hb dX7_readsComer_47 rfl (lv_at hl 1 rfl) ?_
          refine lv_iconst (v := 4) hx hb dX7_readsComer_48 (by decide) ?_
          refine lv_iadd hx hb dX7_readsComer_49 ?_
          refine lv_iconst (v := 2) hx hb dX7_readsComer_50 (by decide) ?_
          refine lv_iconst (v := 2) hx hb dX7_readsComer_51 (by decide) ?_
          obtain ⟨r17, y18, q19, hf⟩ := bd2_use hf
          have hfo : Foc (WMod z a1 y14) (WMod z a1 y14) (WMod z a1 y18) (WMod z a1 y18) := foc_all
          refine z_goI (ws1 := (WMod z a1 y18)) (va_runV (As := [.int (p1 + 4), .int 2, .int 2]) (rest := []) ⟨hx, hb, hml, hown, hts⟩ (tX7_readsNumber l D z tt a1 y14 (p1 + 4) 2 2 fu r17 y18 q19 _) (cwV 3 hts (gV4 aw863 aw865 aw5 aw52 aw866) rfl rfl rfl (by decide +kernel) ⟨Nat.le_of_ble_eq_true rfl, Nat.le_of_ble_eq_true rfl⟩) (z_preV hK hP hD hS hA hT hN hfo (va_recv hK hP (ci := 7) (q0 := 0) rfl rfl)) rfl rfl hl.1 rfl (lv_room (Nat.le_of_ble_eq_true rfl)) dX7_readsComer_52 ⟨Nat.zero_le _, Nat.zero_le _⟩) hP hD hS hA hfo (fun H locs hP hD hS => ?_)
          refine lv_if_eq (tgt := 62) hx hb dX7_readsComer_55 (by decide) (fun c20 => ?_) (fun c20 => ?_)
          · have hf := if_t c20 hf
            refine lv_iconst (v := 0) hx hb dX7_readsComer_62 (by decide) ?_
            obtain ⟨rfl, rfl⟩ := so2 hf
            exact ret_z hx hb hr hlocks hK hP hD hS (by decide) dX7_readsComer_63
          · have hf := if_f c20 hf
            refine lv_iconst (v := 1) hx hb dX7_readsComer_58 (by decide) ?_
            refine lv_goto (tgt := 63) hx hb dX7_readsComer_59 (by decide) ?_
            obtain ⟨rfl, rfl⟩ := so2 hf
            exact ret_z hx hb hr hlocks hK hP hD hS (by decide) dX7_readsComer_63
def pX7_statement (fu : Nat) (m1 : Mem) : Option (Int32 × Mem) :=
  bd (pX7_next fu m1) fun r1 =>
  jn1 (fun (u0 : Unit) =>
    ck (m1 0 25) 48 <|
    lt' (up2 m1 17 (m1 0 25).toNatClampNeg r1) fun y4 =>
    ck (y4 0 25) 48 <|
    lt' (up2 y4 18 (y4 0 25).toNatClampNeg (y4 0 24)) fun y6 =>
    lt' (up2 y6 0 24 ((y6 0 24) + 1)) fun y8 =>
    lt' ((5 * (y8 0 25)) : Int32) fun x9 =>
    jn2 (fun (x10 : Int32) (y11 : Mem) =>
      if x10 = 0 then
        some (0, y11)
      else
        bd (pX7_next fu y11) fun r14 =>
        if r14 = 59 then
          lt' (up2 y11 0 24 ((y11 0 24) + 1)) fun y17 =>
          some (1, y17)
        else
          some (0, y11)) fun k12 =>
    if r1 = 115 then
      bd2 (pX7_readsSetting fu y8 x9) fun r35 y36 =>
      k12 r35 y36
    else
      if r1 = 99 then
        bd2 (pX7_readsComer fu y8 x9) fun r32 y33 =>
        k12 r32 y33
      else
        bd2 (pX7_readsNumber fu y8 x9 1 1) fun r20 y21 =>
        if r20 = 0 then
          k12 0 y21
        else
          bd2 (pX7_readsNumber fu y21 (x9 + 1) 1 1) fun r24 y25 =>
          if r24 = 0 then
            k12 0 y25
          else
            bd2 (pX7_readsNumber fu y25 (x9 + 2) 1 1) fun r28 y29 =>
            if r28 = 0 then
              k12 0 y29
            else
              k12 1 y29) fun k3 =>
  if r1 = 115 then
    k3 ()
  else
    if r1 = 99 then
      k3 ()
    else
      if r1 = 107 then
        k3 ()
      else
        some (0, m1)
set_option maxHeartbeats 4000000 in
set_option maxRecDepth 100000 in
theorem tX7_statement (l : Launch) (D : va_G) (z tt : Nat → Nat) (a1 : Nat → Nat) (m1 : Mem)  (fu : Nat) (rr : Int32) (m1' : Mem) (hf : pX7_statement fu m1 = some (rr, m1')) : MetI l yX7_statement wsX7_statement ({ frames := 3, cells := 0, slots := 0, locals := 68 } : Room) D z tt ([.ref (a1 0)] : List Value) (WMod z a1 m1) rr (WMod z a1 m1') := by
  intro sz
  refine Met.ofW (cc := cX7_statement) (maxL := 4) (ret := (some .boolean)) (by decide) rfl ?_
  intro p e s m args below meth c s₁ B hml hv
  obtain ⟨rfl, hsz, hP, hK, hD0, hT, hN⟩ := hv
  have hx := B.exec
  have hb := B.bytes
  have hr := B.returns
  have hts : ∀ w ∈ wsA, w.before ([.ref (a1 0)] : List Value).toArray s = true := fun w h => atoms_spec (ws := wsX7_statement) B.pre w (List.mem_cons_of_mem _ h)
  have hown : s.vm.findClass RX7 = some m.cls := findClass_of_methodNamed B.named
  have hlocks := B.notSynchronized
  subst hsz
  have hD := hD0.self (sz := s.heap.size)
  generalize hAe : va_A (WMod z a1 m1) s.heap.size = A at hD hT ⊢
  have hA : ∀ q : Nat, s.heap.size ≤ q → A q := fun q h => by rw [← hAe]; exact Or.inr h
  have hS : va_S A s.heap s.heap [] := va_S.rf
  have hl := lv_entry ([.ref (a1 0)] : List Value) (n := 4) (Nat.le_of_ble_eq_true rfl)
  rw [lg_entry_eq]
  generalize (lg_sl ([.ref (a1 0)] : List Value) ++ List.replicate (4 - (lg_sl ([.ref (a1 0)] : List Value)).length) Slot.unset).toArray = ls at hl ⊢
  have hl : lv_has ls 4 [(0, .ref (a1 0))] := hl
  unfold pX7_statement at hf
  refine lv_aload_n hx hb dX7_statement_0 rfl (lv_at hl 0 rfl) ?_
  obtain ⟨r1, q2, hf⟩ := bd_use hf
  have hfo : Foc (WMod z a1 m1) (WMod z a1 m1) (WMod z a1 m1) (WMod z a1 m1) := foc_all
  refine z_goI (ws1 := (WMod z a1 m1)) (va_runV (As := []) (rest := []) ⟨hx, hb, hml, hown, hts⟩ (tX7_next l D z tt a1 m1  fu r1 q2 _) (cwV 0 hts (gV4 aw855 aw857 aw3 aw52 aw858) rfl rfl rfl (by decide +kernel) ⟨Nat.le_of_ble_eq_true rfl, Nat.le_of_ble_eq_true rfl⟩) (z_preV hK hP hD hS hA hT hN hfo (va_recv hK hP (ci := 7) (q0 := 0) rfl rfl)) rfl rfl hl.1 rfl (lv_room (Nat.le_of_ble_eq_true rfl)) dX7_statement_1 ⟨Nat.zero_le _, Nat.zero_le _⟩) hP hD hS hA hfo (fun H locs hP hD hS => ?_)
  refine lv_istore_n (lv' := [(1, .int r1), (0, .ref (a1 0))]) hx hb dX7_statement_4 rfl hl (by decide) rfl (fun ls hl => ?_)
  refine lv_iload_n hx hb dX7_statement_5 rfl (lv_at hl 0 rfl) ?_
  refine lv_bipush (v := 115) hx hb dX7_statement_6 (by decide) ?_
  obtain ⟨k3, ek3, hf⟩ := jn1_use hf
  have B25_k3 : ∀ (u0 : Unit) (H : Heap) (locs : List Loc), va_P D vwCl (WMod z a1 m1) H → va_D A (WMod z a1 m1) → va_S A s.heap H locs → ∀ (ls : Array Slot), lv_has ls 4 [(0, .ref (a1 0)), (1, .int r1)] → k3 u0 = some (rr, m1') → GI p l e (headSpec wsX7_statement ({ frames := 3, cells := 0, slots := 0, locals := 68 } : Room)).room s m ([.ref (a1 0)] : List Value).toArray below meth c A D z rr (WMod z a1 m1') H locs (F0 m 25 ls []) := by
    intro u0 H locs hP hD hS ls hl hf
    have hf := jn1_ap ek3 hf
    refine lv_aload_n hx hb dX7_statement_25 rfl (lv_at hl 0 rfl) ?_
    refine va_get (D := D) (ci := 7) (v := .ref (a1 17)) (C := RX7) (T := TX7) (N := 33) hx hb hts iX7 hown hK hP 0 rfl rfl 20 (by decide) (hts _ aw756) (fun _ h9 => h9) rfl dX7_statement_26 ?_
    refine lv_aload_n hx hb dX7_statement_29 rfl (lv_at hl 0 rfl) ?_
    refine va_get (D := D) (ci := 7) (v := .int (m1 0 25)) (C := RX7) (T := TX7) (N := 33) hx hb hts iX7 hown hK hP 0 rfl rfl 25 (by decide) (hts _ aw761) (fun _ h9 => h9) rfl dX7_statement_30 ?_
    refine lv_iload_n hx hb dX7_statement_33 rfl (lv_at hl 1 rfl) ?_
    obtain ⟨h5, hf⟩ := ck_use hf
    refine z_iast hx hb hK hP hD hS 17 rfl h5 dX7_statement_34 (fun (w9 : Mem) => (WMod z a1 w9)) (up2 m1 17 (m1 0 25).toNatClampNeg r1) rfl (fun y4 ey4 H locs hP hD hS => ?_)
    have hf := lt_use ey4 hf
    refine lv_aload_n hx hb dX7_statement_35 rfl (lv_at hl 0 rfl) ?_
    refine va_get (D := D) (ci := 7) (v := .ref (a1 18)) (C := RX7) (T := TX7) (N := 33) hx hb hts iX7 hown hK hP 0 rfl rfl 21 (by decide) (hts _ aw757) (fun _ h9 => h9) rfl dX7_statement_36 ?_
    refine lv_aload_n hx hb dX7_statement_39 rfl (lv_at hl 0 rfl) ?_
    refine va_get (D := D) (ci := 7) (v := .int (y4 0 25)) (C := RX7) (T := TX7) (N := 33) hx hb hts iX7 hown hK hP 0 rfl rfl 25 (by decide) (hts _ aw761) (fun _ h9 => h9) rfl dX7_statement_40 ?_
    refine lv_aload_n hx hb dX7_statement_43 rfl (lv_at hl 0 rfl) ?_
    refine va_get (D := D) (ci := 7) (v := .int (y4 0 24)) (C := RX7) (T := TX7) (N := 33) hx hb hts iX7 hown hK hP 0 rfl rfl 24 (by decide) (hts _ aw760) (fun _ h9 => h9) rfl dX7_statement_44 ?_
    obtain ⟨h7, hf⟩ := ck_use hf
    refine z_iast hx hb hK hP hD hS 18 rfl h7 dX7_statement_47 (fun (w9 : Mem) => (WMod z a1 w9)) (up2 y4 18 (y4 0 25).toNatClampNeg (y4 0 24)) rfl (fun y6 ey6 H locs hP hD hS => ?_)
    have hf := lt_use ey6 hf
    refine lv_aload_n hx hb dX7_statement_48 rfl (lv_at hl 0 rfl) ?_
    refine lv_dup hx hb dX7_statement_49 rfl ?_
    refine va_get (D := D) (ci := 7) (v := .int (y6 0 24)) (C := RX7) (T := TX7) (N := 33) hx hb hts iX7 hown hK hP 0 rfl rfl 24 (by decide) (hts _ aw760) (fun _ h9 => h9) rfl dX7_statement_50 ?_
    refine lv_iconst (v := 1) hx hb dX7_statement_53 (by decide) ?_
    refine lv_iadd hx hb dX7_statement_54 ?_
    refine z_put (ci := 7) (v := .int ((y6 0 24) + 1)) (ty := .int) (C := RX7) (T := TX7) (N := 33) hx hb hts iX7 tyX7 tyX7_ok nmX7 hown hK hP hD hS 0 rfl rfl 24 (by decide) (hts _ aw760) (fun _ h9 => h9) rfl (by decide +kernel) rfl rfl (Nat.le_of_ble_eq_true rfl) dX7_statement_55 (fun (w9 : Mem) => (WMod z a1 w9)) (up2 y6 0 24 ((y6 0 24) + 1)) rfl (fun y8 ey8 H locs hP hD hS => ?_)
    have hf := lt_use ey8 hf
    refine lv_iconst (v := 5) hx hb dX7_statement_58 (by decide) ?_
    refine lv_aload_n hx hb dX7_statement_59 rfl (lv_at hl 0 rfl) ?_
    refine va_get (D := D) (ci := 7) (v := .int (y8 0 25)) (C := RX7) (T := TX7) (N := 33) hx hb hts iX7 hown hK hP 0 rfl rfl 25 (by decide) (hts _ aw761) (fun _ h9 => h9) rfl dX7_statement_60 ?_
    refine lv_imul hx hb dX7_statement_63 ?_
    refine lv_topi (fun x9 ex9 => ?_)
    have hf := lt_use ex9 hf
    refine lv_istore_n (lv' := [(2, .int x9), (0, .ref (a1 0)), (1, .int r1)]) hx hb dX7_statement_64 rfl hl (by decide) rfl (fun ls hl => ?_)
    refine lv_iload_n hx hb dX7_statement_65 rfl (lv_at hl 2 rfl) ?_
    refine lv_bipush (v := 115) hx hb dX7_statement_66 (by decide) ?_
    obtain ⟨k12, ek12, hf⟩ := jn2_use hf
    have B132_k12 : ∀ (x10 : Int32) (y11 : Mem) (H : Heap) (locs : List Loc), va_P D vwCl (WMod z a1 y11) H → va_D A (WMod z a1 y11) → va_S A s.heap H locs → ∀ (ls : Array Slot), lv_has ls 4 [(0, .ref (a1 0))] → k12 x10 y11 = some (rr, m1') → GI p l e (headSpec wsX7_statement ({ frames := 3, cells := 0, slots := 0, locals := 68 } : Room)).room s m ([.ref (a1 0)] : List Value).toArray below meth c A D z rr (WMod z a1 m1') H locs (F0 m 132 ls [.int x10]) := by
      intro x10 y11 H locs hP hD hS ls hl hf
      have hf := jn2_ap ek12 hf
      refine lv_istore_n (lv' := [(3, .int x10), (0, .ref (a1 0))]) hx hb dX7_statement_132 rfl hl (by decide) rfl (fun ls hl => ?_)
      refine lv_iload_n hx hb dX7_statement_133 rfl (lv_at hl 0 rfl) ?_
      refine lv_if_eq (tgt := 146) hx hb dX7_statement_134 (by decide) (fun c13 => ?_) (fun c13 => ?_)
      · have hf := if_t c13 hf
        refine lv_iconst (v := 0) hx hb dX7_statement_146 (by decide) ?_
        obtain ⟨rfl, rfl⟩ := so2 hf
        exact ret_z hx hb hr hlocks hK hP hD hS (by decide) dX7_statement_147
      · have hf := if_f c13 hf
        refine lv_aload_n hx hb dX7_statement_137 rfl (lv_at hl 1 rfl) ?_
        obtain ⟨r14, q15, hf⟩ := bd_use hf
        have hfo : Foc (WMod z a1 y11) (WMod z a1 y11) (WMod z a1 y11) (WMod z a1 y11) := foc_all
        refine z_goI (ws1 := (WMod z a1 y11)) (va_runV (As := []) (rest := []) ⟨hx, hb, hml, hown, hts⟩ (tX7_next l D z tt a1 y11  fu r14 q15 _) (cwV 0 hts (gV4 aw855 aw857 aw3 aw52 aw858) rfl rfl rfl (by decide +kernel) ⟨Nat.le_of_ble_eq_true rfl, Nat.le_of_ble_eq_true rfl⟩) (z_preV hK hP hD hS hA hT hN hfo (va_recv hK hP (ci := 7) (q0 := 0) rfl rfl)) rfl rfl hl.1 rfl (lv_room (Nat.le_of_ble_eq_true rfl)) dX7_statement_138 ⟨Nat.zero_le _, Nat.zero_le _⟩) hP hD hS hA hfo (fun H locs hP hD hS => ?_)
        refine lv_bipush (v := 59) hx hb dX7_statement_141 (by decide) ?_
        refine lv_icmp_eq (tgt := 148) hx hb dX7_statement_143 (by decide) (fun c16 => ?_) (fun c16 => ?_)
        · have hf := if_t c16 hf
          refine lv_aload_n hx hb dX7_statement_148 rfl (lv_at hl 1 rfl) ?_
          refine lv_dup hx hb dX7_statement_149 rfl ?_
          refine va_get (D := D) (ci := 7) (v := .int (y11 0 24)) (C := RX7) (T := TX7) (N := 33) hx hb hts iX7 hown hK hP 0 rfl rfl 24 (by decide) (hts _ aw760) (fun _ h9 => h9) rfl dX7_statement_150 ?_
          refine lv_iconst (v := 1) hx hb dX7_statement_153 (by decide) ?_
          refine lv_iadd hx hb dX7_statement_154 ?_
          refine z_put (ci := 7) (v := .int ((y11 0 24) + 1)) (ty := .int) (C := RX7) (T := TX7) (N := 33) hx hb hts iX7 tyX7 tyX7_ok nmX7 hown hK hP hD hS 0 rfl rfl 24 (by decide) (hts _ aw760) (fun _ h9 => h9) rfl (by decide +kernel) rfl rfl (Nat.le_of_ble_eq_true rfl) dX7_statement_155 (fun (w9 : Mem) => (WMod z a1 w9)) (up2 y11 0 24 ((y11 0 24) + 1)) rfl (fun y17 ey17 H locs hP hD hS => ?_)
          have hf := lt_use ey17 hf
          refine lv_iconst (v := 1) hx hb dX7_statement_158 (by decide) ?_
          obtain ⟨rfl, rfl⟩ := so2 hf
          exact ret_z hx hb hr hlocks hK hP hD hS (by decide) dX7_statement_159
        · have hf := if_f c16 hf
          refine lv_iconst (v := 0) hx hb dX7_statement_146 (by decide) ?_
          obtain ⟨rfl, rfl⟩ := so2 hf
          exact ret_z hx hb hr hlocks hK hP hD hS (by decide) dX7_statement_147
    refine lv_icmp_ne (tgt := 79) hx hb dX7_statement_68 (by decide) (fun c18 => ?_) (fun c18 => ?_)
    · have hf := if_f c18 hf
      refine lv_iload_n hx hb dX7_statement_79 rfl (lv_at hl 2 rfl) ?_
      refine lv_bipush (v := 99) hx hb dX7_statement_80 (by decide) ?_
      refine lv_icmp_ne (tgt := 93) hx hb dX7_statement_82 (by decide) (fun c19 => ?_) (fun c19 => ?_)
      · have hf := if_f c19 hf
        refine lv_aload_n hx hb dX7_statement_93 rfl (lv_at hl 1 rfl) ?_
        refine lv_iload_n hx hb dX7_statement_94 rfl (lv_at hl 0 rfl) ?_
        refine lv_iconst (v := 1) hx hb dX7_statement_95 (by decide) ?_
        refine lv_iconst (v := 1) hx hb dX7_statement_96 (by decide) ?_
        obtain ⟨r20, y21, q22, hf⟩ := bd2_use hf
        have hfo : Foc (WMod z a1 y8) (WMod z a1 y8) (WMod z a1 y21) (WMod z a1 y21) := foc_all
        refine z_goI (ws1 := (WMod z a1 y21)) (va_runV (As := [.int x9, .int 1, .int 1]) (rest := []) ⟨hx, hb, hml, hown, hts⟩ (tX7_readsNumber l D z tt a1 y8 x9 1 1 fu r20 y21 q22 _) (cwV 3 hts (gV4 aw863 aw865 aw5 aw52 aw866) rfl rfl rfl (by decide +kernel) ⟨Nat.le_of_ble_eq_true rfl, Nat.le_of_ble_eq_true rfl⟩) (z_preV hK hP hD hS hA hT hN hfo (va_recv hK hP (ci := 7) (q0 := 0) rfl rfl)) rfl rfl hl.1 rfl (lv_room (Nat.le_of_ble_eq_true rfl)) dX7_statement_97 ⟨Nat.zero_le _, Nat.zero_le _⟩) hP hD hS hA hfo (fun H locs hP hD hS => ?_)
        refine lv_if_eq (tgt := 131) hx hb dX7_statement_100 (by decide) (fun c23 => ?_) (fun c23 => ?_)
        · have hf := if_t c23 hf
          refine lv_iconst (v := 0) hx hb dX7_statement_131 (by decide) ?_
          exact B132_k12 _ _ _ _ hP hD hS _ (lv_sub hl [1] rfl) hf
        · have hf := if_f c23 hf
          refine lv_aload_n hx hb dX7_statement_103 rfl (lv_at hl 1 rfl) ?_
          refine lv_iload_n hx hb dX7_statement_104 rfl (lv_at hl 0 rfl) ?_
          refine lv_iconst (v := 1) hx hb dX7_statement_105 (by decide) ?_
          refine lv_iadd hx hb dX7_statement_106 ?_
          refine lv_iconst (v := 1) hx hb dX7_statement_107 (by decide) ?_
          refine lv_iconst (v := 1) hx hb dX7_statement_108 (by decide) ?_
          obtain ⟨r24, y25, q26, hf⟩ := bd2_use hf
          have hfo : Foc (WMod z a1 y21) (WMod z a1 y21) (WMod z a1 y25) (WMod z a1 y25) := foc_all
          refine z_goI (ws1 := (WMod z a1 y25)) (va_runV (As := [.int (x9 + 1), .int 1, .int 1]) (rest := []) ⟨hx, hb, hml, hown, hts⟩ (tX7_readsNumber l D z tt a1 y21 (x9 + 1) 1 1 fu r24 y25 q26 _) (cwV 3 hts (gV4 aw863 aw865 aw5 aw52 aw866) rfl rfl rfl (by decide +kernel) ⟨Nat.le_of_ble_eq_true rfl, Nat.le_of_ble_eq_true rfl⟩) (z_preV hK hP hD hS hA hT hN hfo (va_recv hK hP (ci := 7) (q0 := 0) rfl rfl)) rfl rfl hl.1 rfl (lv_room (Nat.le_of_ble_eq_true rfl)) dX7_statement_109 ⟨Nat.zero_le _, Nat.zero_le _⟩) hP hD hS hA hfo (fun H locs hP hD hS => ?_)
          refine lv_if_eq (tgt := 131) hx hb dX7_statement_112 (by decide) (fun c27 => ?_) (fun c27 => ?_)
          · have hf := if_t c27 hf
            refine lv_iconst (v := 0) hx hb dX7_statement_131 (by decide) ?_
            exact B132_k12 _ _ _ _ hP hD hS _ (lv_sub hl [1] rfl) hf
          · have hf := if_f c27 hf
            refine lv_aload_n hx hb dX7_statement_115 rfl (lv_at hl 1 rfl) ?_
            refine lv_iload_n hx hb dX7_statement_116 rfl (lv_at hl 0 rfl) ?_
            refine lv_iconst (v := 2) hx hb dX7_statement_117 (by decide) ?_
            refine lv_iadd hx hb dX7_statement_118 ?_
            refine lv_iconst (v := 1) hx hb dX7_statement_119 (by decide) ?_
            refine lv_iconst (v := 1) hx hb dX7_statement_120 (by decide) ?_
            obtain ⟨r28, y29, q30, hf⟩ := bd2_use hf
            have hfo : Foc (WMod z a1 y25) (WMod z a1 y25) (WMod z a1 y29) (WMod z a1 y29) := foc_all
            refine z_goI (ws1 := (WMod z a1 y29)) (va_runV (As := [.int (x9 + 2), .int 1, .int 1]) (rest := []) ⟨hx, hb, hml, hown, hts⟩ (tX7_readsNumber l D z tt a1 y25 (x9 + 2) 1 1 fu r28 y29 q30 _) (cwV 3 hts (gV4 aw863 aw865 aw5 aw52 aw866) rfl rfl rfl (by decide +kernel) ⟨Nat.le_of_ble_eq_true rfl, Nat.le_of_ble_eq_true rfl⟩) (z_preV hK hP hD hS hA hT hN hfo (va_recv hK hP (ci := 7) (q0 := 0) rfl rfl)) rfl rfl hl.1 rfl (lv_room (Nat.le_of_ble_eq_true rfl)) dX7_statement_121 ⟨Nat.zero_le _, Nat.zero_le _⟩) hP hD hS hA hfo (fun H locs hP hD hS => ?_)
            refine lv_if_eq (tgt := 131) hx hb dX7_statement_124 (by decide) (fun c31 => ?_) (fun c31 => ?_)
            · have hf := if_t c31 hf
              refine lv_iconst (v := 0) hx hb dX7_statement_131 (by decide) ?_
              exact B132_k12 _ _ _ _ hP hD hS _ (lv_sub hl [1] rfl) hf
            · have hf := if_f c31 hf
              refine lv_iconst (v := 1) hx hb dX7_statement_127 (by decide) ?_
              refine lv_goto (tgt := 132) hx hb dX7_statement_128 (by decide) ?_
              exact B132_k12 _ _ _ _ hP hD hS _ (lv_sub hl [1] rfl) hf
      · have hf := if_t c19 hf
        refine lv_aload_n hx hb dX7_statement_85 rfl (lv_at hl 1 rfl) ?_
        refine lv_iload_n hx hb dX7_statement_86 rfl (lv_at hl 0 rfl) ?_
        obtain ⟨r32, y33, q34, hf⟩ := bd2_use hf
        have hfo : Foc (WMod z a1 y8) (WMod z a1 y8) (WMod z a1 y33) (WMod z a1 y33) := foc_all
        refine z_goI (ws1 := (WMod z a1 y33)) (va_runV (As := [.int x9]) (rest := []) ⟨hx, hb, hml, hown, hts⟩ (tX7_readsComer l D z tt a1 y8 x9 fu r32 y33 q34 _) (cwV 1 hts (gV4 aw870 aw872 aw6 aw52 aw873) rfl rfl rfl (by decide +kernel) ⟨Nat.le_of_ble_eq_true rfl, Nat.le_of_ble_eq_true rfl⟩) (z_preV hK hP hD hS hA hT hN hfo (va_recv hK hP (ci := 7) (q0 := 0) rfl rfl)) rfl rfl hl.1 rfl (lv_room (Nat.le_of_ble_eq_true rfl)) dX7_statement_87 ⟨Nat.zero_le _, Nat.zero_le _⟩) hP hD hS hA hfo (fun H locs hP hD hS => ?_)
        refine lv_goto (tgt := 132) hx hb dX7_statement_90 (by decide) ?_
        exact B132_k12 _ _ _ _ hP hD hS _ (lv_sub hl [1] rfl) hf
    · have hf := if_t c18 hf
      refine lv_aload_n hx hb dX7_statement_71 rfl (lv_at hl 1 rfl) ?_
      refine lv_iload_n hx hb dX7_statement_72 rfl (lv_at hl 0 rfl) ?_
      obtain ⟨r35, y36, q37, hf⟩ := bd2_use hf
      have hfo : Foc (WMod z a1 y8) (WMod z a1 y8) (WMod z a1 y36) (WMod z a1 y36) := foc_all
      refine z_goI (ws1 := (WMod z a1 y36)) (va_runV (As := [.int x9]) (rest := []) ⟨hx, hb, hml, hown, hts⟩ (tX7_readsSetting l D z tt a1 y8 x9 fu r35 y36 q37 _) (cwV 1 hts (gV4 aw859 aw861 aw4 aw52 aw862) rfl rfl rfl (by decide +kernel) ⟨Nat.le_of_ble_eq_true rfl, Nat.le_of_ble_eq_true rfl⟩) (z_preV hK hP hD hS hA hT hN hfo (va_recv hK hP (ci := 7) (q0 := 0) rfl rfl)) rfl rfl hl.1 rfl (lv_room (Nat.le_of_ble_eq_true rfl)) dX7_statement_73 ⟨Nat.zero_le _, Nat.zero_le _⟩) hP hD hS hA hfo (fun H locs hP hD hS => ?_)
      refine lv_goto (tgt := 132) hx hb dX7_statement_76 (by decide) ?_
      exact B132_k12 _ _ _ _ hP hD hS _ (lv_sub hl [1] rfl) hf
  refine lv_icmp_eq (tgt := 25) hx hb dX7_statement_8 (by decide) (fun c38 => ?_) (fun c38 => ?_)
  · have hf := if_t c38 hf
    exact B25_k3 _ _ _ hP hD hS _ (lv_sub hl [1, 0] rfl) hf
  · have hf := if_f c38 hf
    refine lv_iload_n hx hb dX7_statement_11 rfl (lv_at hl 0 rfl) ?_
    refine lv_bipush (v := 99) hx hb dX7_statement_12 (by decide) ?_
    refine lv_icmp_eq (tgt := 25) hx hb dX7_statement_14 (by decide) (fun c39 => ?_) (fun c39 => ?_)
    · have hf := if_t c39 hf
      exact B25_k3 _ _ _ hP hD hS _ (lv_sub hl [1, 0] rfl) hf
    · have hf := if_f c39 hf
      refine lv_iload_n hx hb dX7_statement_17 rfl (lv_at hl 0 rfl) ?_
      refine lv_bipush (v := 107) hx hb dX7_statement_18 (by decide) ?_
      refine lv_icmp_eq (tgt := 25) hx hb dX7_statement_20 (by decide) (fun c40 => ?_) (fun c40 => ?_)
      · have hf := if_t c40 hf
        exact B25_k3 _ _ _ hP hD hS _ (lv_sub hl [1, 0] rfl) hf
      · have hf := if_f c40 hf
        refine lv_iconst (v := 0) hx hb dX7_statement_23 (by decide) ?_
        obtain ⟨rfl, rfl⟩ := so2 hf
        exact ret_z hx hb hr hlocks hK hP hD hS (by decide) dX7_statement_24
def pX7_notSet (fu : Nat) (m1 : Mem) (p1 : Int32) (p2 : Int32) : Option Int32 :=
  bd (pX7_isIn fu p1 0 7) fun r1 =>
  if r1 = 0 then
    some (-1)
  else
    bd (pX7_leastOf fu p1) fun r4 =>
    bd (pX7_mostOf fu p1) fun r6 =>
    bd (pX7_bound fu p2 r4 r6) fun r8 =>
    if r8 = 0 then
      jn1 (fun (x11 : Int32) =>
        if x11 = 0 then
          some 0
        else
          some (-3)) fun k12 =>
      jn1 (fun (u0 : Unit) =>
        if p1 = 7 then
          if p2 = (m1 2 7) then
            k12 0
          else
            if (m1 0 16) ≤ 0 then
              k12 0
            else
              k12 1
        else
          k12 0) fun k14 =>
      if p1 = 0 then
        if p2 < (m1 11 0) then
          k12 1
        else
          if p2 < (m1 11 1) then
            k12 1
          else
            k14 ()
      else
        k14 ()
    else
      some r8
set_option maxHeartbeats 4000000 in
set_option maxRecDepth 100000 in
theorem tX7_notSet (l : Launch) (D : va_G) (z tt : Nat → Nat) (a1 : Nat → Nat) (m1 : Mem) (p1 : Int32) (p2 : Int32) (fu : Nat) (rr : Int32) (hf : pX7_notSet fu m1 p1 p2 = some rr) : MetI l yX7_notSet wsX7_notSet ({ frames := 1, cells := 0, slots := 0, locals := 22 } : Room) D z tt ([.ref (a1 0), .int p1, .int p2] : List Value) (WMod z a1 m1) rr (WMod z a1 m1) := by
  intro sz
  refine Met.ofW (cc := cX7_notSet) (maxL := 5) (ret := (some .int)) (by decide) rfl ?_
  intro p e s m args below meth c s₁ B hml hv
  obtain ⟨rfl, hsz, hP, hK, hD0, hT, hN⟩ := hv
  have hx := B.exec
  have hb := B.bytes
  have hr := B.returns
  have hts : ∀ w ∈ wsA, w.before ([.ref (a1 0), .int p1, .int p2] : List Value).toArray s = true := fun w h => atoms_spec (ws := wsX7_notSet) B.pre w (List.mem_cons_of_mem _ h)
  have hown : s.vm.findClass RX7 = some m.cls := findClass_of_methodNamed B.named
  have hlocks := B.notSynchronized
  subst hsz
  have hD := hD0.self (sz := s.heap.size)
  generalize hAe : va_A (WMod z a1 m1) s.heap.size = A at hD hT ⊢
  have hA : ∀ q : Nat, s.heap.size ≤ q → A q := fun q h => by rw [← hAe]; exact Or.inr h
  have hS : va_S A s.heap s.heap [] := va_S.rf
  have hl := lv_entry ([.ref (a1 0), .int p1, .int p2] : List Value) (n := 5) (Nat.le_of_ble_eq_true rfl)
  rw [lg_entry_eq]
  generalize (lg_sl ([.ref (a1 0), .int p1, .int p2] : List Value) ++ List.replicate (5 - (lg_sl ([.ref (a1 0), .int p1, .int p2] : List Value)).length) Slot.unset).toArray = ls at hl ⊢
  have hl : lv_has ls 5 [(0, .ref (a1 0)), (1, .int p1), (2, .int p2)] := hl
  unfold pX7_notSet at hf
  refine lv_iload_n hx hb dX7_notSet_0 rfl (lv_at hl 1 rfl) ?_
  refine lv_iconst (v := 0) hx hb dX7_notSet_1 (by decide) ?_
  refine lv_bipush (v := 7) hx hb dX7_notSet_2 (by decide) ?_
  obtain ⟨r1, q2, hf⟩ := bd_use hf
  have hfo : Foc (WMod z a1 m1) ([] : va_W) (WMod z a1 m1) ([] : va_W) := foc_nil
  refine z_goI (ws1 := (WMod z a1 m1)) (va_runS (As := [.int p1, .int 0, .int 7]) (rest := []) ⟨hx, hb, hml, hown, hts⟩ (tX7_isIn l D z tt  p1 0 7 fu r1 q2 _) (va_cwS 3 hts (gS3 aw867 aw868 aw52 aw869) rfl rfl rfl (by decide +kernel) ⟨Nat.le_of_ble_eq_true rfl, Nat.le_of_ble_eq_true rfl⟩) (z_preS hK hP hD hS hA hT hN hfo) rfl rfl hl.1 rfl (lv_room (Nat.le_of_ble_eq_true rfl)) dX7_notSet_4 ⟨Nat.zero_le _, Nat.zero_le _⟩) hP hD hS hA hfo (fun H locs hP hD hS => ?_)
  refine lv_if_ne (tgt := 12) hx hb dX7_notSet_7 (by decide) (fun c3 => ?_) (fun c3 => ?_)
  · have hf := if_f c3 hf
    refine lv_iload_n hx hb dX7_notSet_12 rfl (lv_at hl 2 rfl) ?_
    refine lv_iload_n hx hb dX7_notSet_13 rfl (lv_at hl 1 rfl) ?_
    obtain ⟨r4, q5, hf⟩ := bd_use hf
    have hfo : Foc (WMod z a1 m1) ([] : va_W) (WMod z a1 m1) ([] : va_W) := foc_nil
    refine z_goI (ws1 := (WMod z a1 m1)) (va_runS (As := [.int p1]) (rest := [.int p2]) ⟨hx, hb, hml, hown, hts⟩ (tX7_leastOf l D z tt  p1 fu r4 q5 _) (va_cwS 1 hts (gS3 aw894 aw895 aw52 aw896) rfl rfl rfl (by decide +kernel) ⟨Nat.le_of_ble_eq_true rfl, Nat.le_of_ble_eq_true rfl⟩) (z_preS hK hP hD hS hA hT hN hfo) rfl rfl hl.1 rfl (lv_room (Nat.le_of_ble_eq_true rfl)) dX7_notSet_14 ⟨Nat.zero_le _, Nat.zero_le _⟩) hP hD hS hA hfo (fun H locs hP hD hS => ?_)
    refine lv_iload_n hx hb dX7_notSet_17 rfl (lv_at hl 1 rfl) ?_
    obtain ⟨r6, q7, hf⟩ := bd_use hf
    have hfo : Foc (WMod z a1 m1) ([] : va_W) (WMod z a1 m1) ([] : va_W) := foc_nil
    refine z_goI (ws1 := (WMod z a1 m1)) (va_runS (As := [.int p1]) (rest := [.int r4, .int p2]) ⟨hx, hb, hml, hown, hts⟩ (tX7_mostOf l D z tt  p1 fu r6 q7 _) (va_cwS 1 hts (gS3 aw897 aw898 aw52 aw899) rfl rfl rfl (by decide +kernel) ⟨Nat.le_of_ble_eq_true rfl, Nat.le_of_ble_eq_true rfl⟩) (z_preS hK hP hD hS hA hT hN hfo) rfl rfl hl.1 rfl (lv_room (Nat.le_of_ble_eq_true rfl)) dX7_notSet_18 ⟨Nat.zero_le _, Nat.zero_le _⟩) hP hD hS hA hfo (fun H locs hP hD hS => ?_)
    obtain ⟨r8, q9, hf⟩ := bd_use hf
    have hfo : Foc (WMod z a1 m1) ([] : va_W) (WMod z a1 m1) ([] : va_W) := foc_nil
    refine z_goI (ws1 := (WMod z a1 m1)) (va_runS (As := [.int p2, .int r4, .int r6]) (rest := []) ⟨hx, hb, hml, hown, hts⟩ (tX7_bound l D z tt  p2 r4 r6 fu r8 q9 _) (va_cwS 3 hts (gS3 aw840 aw841 aw52 aw842) rfl rfl rfl (by decide +kernel) ⟨Nat.le_of_ble_eq_true rfl, Nat.le_of_ble_eq_true rfl⟩) (z_preS hK hP hD hS hA hT hN hfo) rfl rfl hl.1 rfl (lv_room (Nat.le_of_ble_eq_true rfl)) dX7_notSet_21 ⟨Nat.zero_le _, Nat.zero_le _⟩) hP hD hS hA hfo (fun H locs hP hD hS => ?_)
    refine lv_istore_n (lv' := [(3, .int r8), (0, .ref (a1 0)), (1, .int p1), (2, .int p2)]) hx hb dX7_notSet_24 rfl hl (by decide) rfl (fun ls hl => ?_)
    refine lv_iload_n hx hb dX7_notSet_25 rfl (lv_at hl 0 rfl) ?_
    refine lv_if_eq (tgt := 31) hx hb dX7_notSet_26 (by decide) (fun c10 => ?_) (fun c10 => ?_)
    · have hf := if_t c10 hf
      refine lv_iload_n hx hb dX7_notSet_31 rfl (lv_at hl 2 rfl) ?_
      obtain ⟨k12, ek12, hf⟩ := jn1_use hf
      have B84_k12 : ∀ (x11 : Int32) (H : Heap) (locs : List Loc), va_P D vwCl (WMod z a1 m1) H → va_D A (WMod z a1 m1) → va_S A s.heap H locs → ∀ (ls : Array Slot), lv_has ls 5 [] → k12 x11 = some rr → GI p l e (headSpec wsX7_notSet ({ frames := 1, cells := 0, slots := 0, locals := 22 } : Room)).room s m ([.ref (a1 0), .int p1, .int p2] : List Value).toArray below meth c A D z rr (WMod z a1 m1) H locs (F0 m 84 ls [.int x11]) := by
        intro x11 H locs hP hD hS ls hl hf
        have hf := jn1_ap ek12 hf
        refine lv_istore (lv' := [(4, .int x11)]) hx hb dX7_notSet_84 hl (by decide) rfl (fun ls hl => ?_)
        refine lv_iload hx hb dX7_notSet_86 (lv_at hl 0 rfl) ?_
        refine lv_if_eq (tgt := 96) hx hb dX7_notSet_88 (by decide) (fun c13 => ?_) (fun c13 => ?_)
        · have hf := if_t c13 hf
          refine lv_iconst (v := 0) hx hb dX7_notSet_96 (by decide) ?_
          obtain rfl := so1 hf
          exact ret_i hx hb hr hlocks hK hP hD hS dX7_notSet_97
        · have hf := if_f c13 hf
          refine lv_bipush (v := (-3)) hx hb dX7_notSet_91 (by decide) ?_
          refine lv_goto (tgt := 97) hx hb dX7_notSet_93 (by decide) ?_
          obtain rfl := so1 hf
          exact ret_i hx hb hr hlocks hK hP hD hS dX7_notSet_97
      obtain ⟨k14, ek14, hf⟩ := jn1_use hf
      have B55_k14 : ∀ (u0 : Unit) (H : Heap) (locs : List Loc), va_P D vwCl (WMod z a1 m1) H → va_D A (WMod z a1 m1) → va_S A s.heap H locs → ∀ (ls : Array Slot), lv_has ls 5 [(0, .ref (a1 0)), (1, .int p1), (2, .int p2)] → k14 u0 = some rr → GI p l e (headSpec wsX7_notSet ({ frames := 1, cells := 0, slots := 0, locals := 22 } : Room)).room s m ([.ref (a1 0), .int p1, .int p2] : List Value).toArray below meth c A D z rr (WMod z a1 m1) H locs (F0 m 55 ls []) := by
        intro u0 H locs hP hD hS ls hl hf
        have hf := jn1_ap ek14 hf
        refine lv_iload_n hx hb dX7_notSet_55 rfl (lv_at hl 1 rfl) ?_
        refine lv_bipush (v := 7) hx hb dX7_notSet_56 (by decide) ?_
        refine lv_icmp_ne (tgt := 83) hx hb dX7_notSet_58 (by decide) (fun c15 => ?_) (fun c15 => ?_)
        · have hf := if_f c15 hf
          refine lv_iconst (v := 0) hx hb dX7_notSet_83 (by decide) ?_
          exact B84_k12 _ _ _ hP hD hS _ (lv_sub hl [] rfl) hf
        · have hf := if_t c15 hf
          refine lv_iload_n hx hb dX7_notSet_61 rfl (lv_at hl 2 rfl) ?_
          refine lv_aload_n hx hb dX7_notSet_62 rfl (lv_at hl 0 rfl) ?_
          refine va_get (D := D) (ci := 7) (v := .ref (a1 2)) (C := RX7) (T := TX7) (N := 33) hx hb hts iX7 hown hK hP 0 rfl rfl 1 (by decide) (hts _ aw737) (fun _ h9 => h9) rfl dX7_notSet_63 ?_
          refine lv_bipush (v := 7) hx hb dX7_notSet_66 (by decide) ?_
          refine z_ialdc hx hb hK hP 2 rfl (i := 7) (k := 7) (by decide) (Nat.le_of_ble_eq_true rfl) dX7_notSet_68 ?_
          refine lv_icmp_eq (tgt := 83) hx hb dX7_notSet_69 (by decide) (fun c16 => ?_) (fun c16 => ?_)
          · have hf := if_t c16 hf
            refine lv_iconst (v := 0) hx hb dX7_notSet_83 (by decide) ?_
            exact B84_k12 _ _ _ hP hD hS _ (lv_sub hl [] rfl) hf
          · have hf := if_f c16 hf
            refine lv_aload_n hx hb dX7_notSet_72 rfl (lv_at hl 0 rfl) ?_
            refine va_get (D := D) (ci := 7) (v := .int (m1 0 16)) (C := RX7) (T := TX7) (N := 33) hx hb hts iX7 hown hK hP 0 rfl rfl 16 (by decide) (hts _ aw752) (fun _ h9 => h9) rfl dX7_notSet_73 ?_
            refine lv_if_le (tgt := 83) hx hb dX7_notSet_76 (by decide) (fun c17 => ?_) (fun c17 => ?_)
            · have hf := if_t c17 hf
              refine lv_iconst (v := 0) hx hb dX7_notSet_83 (by decide) ?_
              exact B84_k12 _ _ _ hP hD hS _ (lv_sub hl [] rfl) hf
            · have hf := if_f c17 hf
              refine lv_iconst (v := 1) hx hb dX7_notSet_79 (by decide) ?_
              refine lv_goto (tgt := 84) hx hb dX7_notSet_80 (by decide) ?_
              exact B84_k12 _ _ _ hP hD hS _ (lv_sub hl [] rfl) hf
      refine lv_if_ne (tgt := 55) hx hb dX7_notSet_32 (by decide) (fun c18 => ?_) (fun c18 => ?_)
      · have hf := if_f c18 hf
        exact B55_k14 _ _ _ hP hD hS _ (lv_sub hl [1, 2, 3] rfl) hf
      · have hf := if_t c18 hf
        refine lv_iload_n hx hb dX7_notSet_35 rfl (lv_at hl 3 rfl) ?_
        refine lv_aload_n hx hb dX7_notSet_36 rfl (lv_at hl 1 rfl) ?_
        refine va_get (D := D) (ci := 7) (v := .ref (a1 11)) (C := RX7) (T := TX7) (N := 33) hx hb hts iX7 hown hK hP 0 rfl rfl 10 (by decide) (hts _ aw746) (fun _ h9 => h9) rfl dX7_notSet_37 ?_
        refine lv_iconst (v := 0) hx hb dX7_notSet_40 (by decide) ?_
        refine z_ialdc hx hb hK hP 11 rfl (i := 0) (k := 0) (by decide) (Nat.le_of_ble_eq_true rfl) dX7_notSet_41 ?_
        refine lv_icmp_lt (tgt := 79) hx hb dX7_notSet_42 (by decide) (fun c19 => ?_) (fun c19 => ?_)
        · have hf := if_t c19 hf
          refine lv_iconst (v := 1) hx hb dX7_notSet_79 (by decide) ?_
          refine lv_goto (tgt := 84) hx hb dX7_notSet_80 (by decide) ?_
          exact B84_k12 _ _ _ hP hD hS _ (lv_sub hl [] rfl) hf
        · have hf := if_f c19 hf
          refine lv_iload_n hx hb dX7_notSet_45 rfl (lv_at hl 3 rfl) ?_
          refine lv_aload_n hx hb dX7_notSet_46 rfl (lv_at hl 1 rfl) ?_
          refine va_get (D := D) (ci := 7) (v := .ref (a1 11)) (C := RX7) (T := TX7) (N := 33) hx hb hts iX7 hown hK hP 0 rfl rfl 10 (by decide) (hts _ aw746) (fun _ h9 => h9) rfl dX7_notSet_47 ?_
          refine lv_iconst (v := 1) hx hb dX7_notSet_50 (by decide) ?_
          refine z_ialdc hx hb hK hP 11 rfl (i := 1) (k := 1) (by decide) (Nat.le_of_ble_eq_true rfl) dX7_notSet_51 ?_
          refine lv_icmp_lt (tgt := 79) hx hb dX7_notSet_52 (by decide) (fun c20 => ?_) (fun c20 => ?_)
          · have hf := if_t c20 hf
            refine lv_iconst (v := 1) hx hb dX7_notSet_79 (by decide) ?_
            refine lv_goto (tgt := 84) hx hb dX7_notSet_80 (by decide) ?_
            exact B84_k12 _ _ _ hP hD hS _ (lv_sub hl [] rfl) hf
          · have hf := if_f c20 hf
            exact B55_k14 _ _ _ hP hD hS _ (lv_sub hl [1, 2, 3] rfl) hf
    · have hf := if_f c10 hf
      refine lv_iload_n hx hb dX7_notSet_29 rfl (lv_at hl 0 rfl) ?_
      obtain rfl := so1 hf
      exact ret_i hx hb hr hlocks hK hP hD hS dX7_notSet_30
  · have hf := if_t c3 hf
    refine lv_iconst (v := (-1)) hx hb dX7_notSet_10 (by decide) ?_
    obtain rfl := so1 hf
    exact ret_i hx hb hr hlocks hK hP hD hS dX7_notSet_11
