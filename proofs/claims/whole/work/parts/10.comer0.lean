def pX1_become (fu : Nat) (m1 : Rw) (p1 : Int32) (p2 : Int32) : Option Rw :=
  lt' (upd m1 0 p1) fun y1 =>
  lt' (upd y1 1 p2) fun y2 =>
  some y2
set_option maxHeartbeats 4000000 in
set_option maxRecDepth 100000 in
theorem tX1_become (l : Launch) (D : va_G) (z tt : Nat → Nat) (a1 : Nat) (m1 : Rw) (p1 : Int32) (p2 : Int32) (fu : Nat) (m1' : Rw) (hf : pX1_become fu m1 p1 p2 = some m1') : MetV l yX1_become wsX1_become ({ frames := 0, cells := 0, slots := 0, locals := 0 } : Room) D z tt ([.ref a1, .int p1, .int p2] : List Value) (WCom a1 m1) (WCom a1 m1') := by
  intro sz
  refine Met.ofW (cc := cX1_become) (maxL := 3) (ret := none) (by decide) rfl ?_
  intro p e s m args below meth c s₁ B hml hv
  obtain ⟨rfl, hsz, hP, hK, hD0, hT, hN⟩ := hv
  have hx := B.exec
  have hb := B.bytes
  have hr := B.returns
  have hts : ∀ w ∈ wsA, w.before ([.ref a1, .int p1, .int p2] : List Value).toArray s = true := fun w h => atoms_spec (ws := wsX1_become) B.pre w (List.mem_cons_of_mem _ h)
  have hown : s.vm.findClass RX1 = some m.cls := findClass_of_methodNamed B.named
  have hlocks := B.notSynchronized
  subst hsz
  have hD := hD0.self (sz := s.heap.size)
  generalize hAe : va_A (WCom a1 m1) s.heap.size = A at hD hT ⊢
  have hA : ∀ q : Nat, s.heap.size ≤ q → A q := fun q h => by rw [← hAe]; exact Or.inr h
  have hS : va_S A s.heap s.heap [] := va_S.rf
  have hl := lv_entry ([.ref a1, .int p1, .int p2] : List Value) (n := 3) (Nat.le_of_ble_eq_true rfl)
  rw [lg_entry_eq]
  generalize (lg_sl ([.ref a1, .int p1, .int p2] : List Value) ++ List.replicate (3 - (lg_sl ([.ref a1, .int p1, .int p2] : List Value)).length) Slot.unset).toArray = ls at hl ⊢
  have hl : lv_has ls 3 [(0, .ref a1), (1, .int p1), (2, .int p2)] := hl
  unfold pX1_become at hf
  refine lv_aload_n hx hb dX1_become_0 rfl (lv_at hl 0 rfl) ?_
  refine lv_iload_n hx hb dX1_become_1 rfl (lv_at hl 1 rfl) ?_
  refine z_put (ci := 1) (v := .int p1) (ty := .int) (C := RX1) (T := TX1) (N := 7) hx hb hts iX1 tyX1 tyX1_ok nmX1 hown hK hP hD hS 0 rfl rfl 0 (by decide) (hts _ aw85) (fun _ h9 => h9) rfl (by decide +kernel) rfl rfl (Nat.le_of_ble_eq_true rfl) dX1_become_2 (fun (w9 : Rw) => (WCom a1 w9)) (upd m1 0 p1) rfl (fun y1 ey1 H locs hP hD hS => ?_)
  have hf := lt_use ey1 hf
  refine lv_aload_n hx hb dX1_become_5 rfl (lv_at hl 0 rfl) ?_
  refine lv_iload_n hx hb dX1_become_6 rfl (lv_at hl 2 rfl) ?_
  refine z_put (ci := 1) (v := .int p2) (ty := .int) (C := RX1) (T := TX1) (N := 7) hx hb hts iX1 tyX1 tyX1_ok nmX1 hown hK hP hD hS 0 rfl rfl 1 (by decide) (hts _ aw89) (fun _ h9 => h9) rfl (by decide +kernel) rfl rfl (Nat.le_of_ble_eq_true rfl) dX1_become_7 (fun (w9 : Rw) => (WCom a1 w9)) (upd y1 1 p2) rfl (fun y2 ey2 H locs hP hD hS => ?_)
  have hf := lt_use ey2 hf
  obtain rfl := so1 hf
  exact ret_v hx hb hr hlocks hK hP hD hS dX1_become_10
def pX1_copy (fu : Nat) (m1 : Rw) (m2 : Rw) : Option Rw :=
  bd (pX1_become fu m1 (m2 0) (m2 1)) fun y1 =>
  lt' (upd y1 2 (m2 2)) fun y3 =>
  lt' (upd y3 3 (m2 3)) fun y4 =>
  lt' (upd y4 4 (m2 4)) fun y5 =>
  lt' (upd y5 5 (m2 5)) fun y6 =>
  lt' (upd y6 6 (m2 6)) fun y7 =>
  some y7
set_option maxHeartbeats 4000000 in
set_option maxRecDepth 100000 in
theorem tX1_copy (l : Launch) (D : va_G) (z tt : Nat → Nat) (a1 : Nat) (a2 : Nat) (m1 : Rw) (m2 : Rw)  (fu : Nat) (m1' : Rw) (hf : pX1_copy fu m1 m2 = some m1') : MetV l yX1_copy wsX1_copy ({ frames := 1, cells := 0, slots := 0, locals := 22 } : Room) D z tt ([.ref a1, .ref a2] : List Value) (WCom a1 m1 ++ (WCom a2 m2)) (WCom a1 m1' ++ (WCom a2 m2)) := by
  intro sz
  refine Met.ofW (cc := cX1_copy) (maxL := 2) (ret := none) (by decide) rfl ?_
  intro p e s m args below meth c s₁ B hml hv
  obtain ⟨rfl, hsz, hP, hK, hD0, hT, hN⟩ := hv
  have hx := B.exec
  have hb := B.bytes
  have hr := B.returns
  have hts : ∀ w ∈ wsA, w.before ([.ref a1, .ref a2] : List Value).toArray s = true := fun w h => atoms_spec (ws := wsX1_copy) B.pre w (List.mem_cons_of_mem _ h)
  have hown : s.vm.findClass RX1 = some m.cls := findClass_of_methodNamed B.named
  have hlocks := B.notSynchronized
  subst hsz
  have hD := hD0.self (sz := s.heap.size)
  generalize hAe : va_A (WCom a1 m1 ++ (WCom a2 m2)) s.heap.size = A at hD hT ⊢
  have hA : ∀ q : Nat, s.heap.size ≤ q → A q := fun q h => by rw [← hAe]; exact Or.inr h
  have hS : va_S A s.heap s.heap [] := va_S.rf
  have hl := lv_entry ([.ref a1, .ref a2] : List Value) (n := 2) (Nat.le_of_ble_eq_true rfl)
  rw [lg_entry_eq]
  generalize (lg_sl ([.ref a1, .ref a2] : List Value) ++ List.replicate (2 - (lg_sl ([.ref a1, .ref a2] : List Value)).length) Slot.unset).toArray = ls at hl ⊢
  have hl : lv_has ls 2 [(0, .ref a1), (1, .ref a2)] := hl
  unfold pX1_copy at hf
  refine lv_aload_n hx hb dX1_copy_0 rfl (lv_at hl 0 rfl) ?_
  refine lv_aload_n hx hb dX1_copy_1 rfl (lv_at hl 1 rfl) ?_
  refine va_get (D := D) (ci := 1) (v := .int (m2 0)) (C := RX1) (T := TX1) (N := 7) hx hb hts iX1 hown hK hP 1 rfl rfl 0 (by decide) (hts _ aw85) (fun _ h9 => h9) rfl dX1_copy_2 ?_
  refine lv_aload_n hx hb dX1_copy_5 rfl (lv_at hl 1 rfl) ?_
  refine va_get (D := D) (ci := 1) (v := .int (m2 1)) (C := RX1) (T := TX1) (N := 7) hx hb hts iX1 hown hK hP 1 rfl rfl 1 (by decide) (hts _ aw89) (fun _ h9 => h9) rfl dX1_copy_6 ?_
  obtain ⟨y1, q2, hf⟩ := bd_use hf
  have hfo : Foc (WCom a1 m1 ++ (WCom a2 m2)) (WCom a1 m1) (WCom a1 y1 ++ (WCom a2 m2)) (WCom a1 y1) := (foc_l foc_all)
  refine z_goV (ws1 := (WCom a1 y1 ++ (WCom a2 m2))) (va_runV (As := [.int (m2 0), .int (m2 1)]) (rest := []) ⟨hx, hb, hml, hown, hts⟩ (tX1_become l D z tt a1 m1 (m2 0) (m2 1) fu y1 q2 _) (cwV 2 hts (gV4 aw299 aw300 aw301 aw47 aw302) rfl rfl rfl (by decide +kernel) ⟨Nat.le_of_ble_eq_true rfl, Nat.le_of_ble_eq_true rfl⟩) (z_preV hK hP hD hS hA hT hN hfo (va_recv hK hP (ci := 1) (q0 := 0) rfl rfl)) rfl rfl hl.1 rfl (lv_room (Nat.le_of_ble_eq_true rfl)) dX1_copy_9 ⟨Nat.zero_le _, Nat.zero_le _⟩) hP hD hS hA hfo (fun H locs hP hD hS => ?_)
  refine lv_aload_n hx hb dX1_copy_12 rfl (lv_at hl 0 rfl) ?_
  refine lv_aload_n hx hb dX1_copy_13 rfl (lv_at hl 1 rfl) ?_
  refine va_get (D := D) (ci := 1) (v := .int (m2 2)) (C := RX1) (T := TX1) (N := 7) hx hb hts iX1 hown hK hP 1 rfl rfl 2 (by decide) (hts _ aw93) (fun _ h9 => h9) rfl dX1_copy_14 ?_
  refine z_put (ci := 1) (v := .int (m2 2)) (ty := .int) (C := RX1) (T := TX1) (N := 7) hx hb hts iX1 tyX1 tyX1_ok nmX1 hown hK hP hD hS 0 rfl rfl 2 (by decide) (hts _ aw93) (fun _ h9 => h9) rfl (by decide +kernel) rfl rfl (Nat.le_of_ble_eq_true rfl) dX1_copy_17 (fun (w9 : Rw) => (WCom a1 w9 ++ (WCom a2 m2))) (upd y1 2 (m2 2)) rfl (fun y3 ey3 H locs hP hD hS => ?_)
  have hf := lt_use ey3 hf
  refine lv_aload_n hx hb dX1_copy_20 rfl (lv_at hl 0 rfl) ?_
  refine lv_aload_n hx hb dX1_copy_21 rfl (lv_at hl 1 rfl) ?_
  refine va_get (D := D) (ci := 1) (v := .int (m2 3)) (C := RX1) (T := TX1) (N := 7) hx hb hts iX1 hown hK hP 1 rfl rfl 3 (by decide) (hts _ aw97) (fun _ h9 => h9) rfl dX1_copy_22 ?_
  refine z_put (ci := 1) (v := .int (m2 3)) (ty := .int) (C := RX1) (T := TX1) (N := 7) hx hb hts iX1 tyX1 tyX1_ok nmX1 hown hK hP hD hS 0 rfl rfl 3 (by decide) (hts _ aw97) (fun _ h9 => h9) rfl (by decide +kernel) rfl rfl (Nat.le_of_ble_eq_true rfl) dX1_copy_25 (fun (w9 : Rw) => (WCom a1 w9 ++ (WCom a2 m2))) (upd y3 3 (m2 3)) rfl (fun y4 ey4 H locs hP hD hS => ?_)
  have hf := lt_use ey4 hf
  refine lv_aload_n hx hb dX1_copy_28 rfl (lv_at hl 0 rfl) ?_
  refine lv_aload_n hx hb dX1_copy_29 rfl (lv_at hl 1 rfl) ?_
  refine va_get (D := D) (ci := 1) (v := .int (m2 4)) (C := RX1) (T := TX1) (N := 7) hx hb hts iX1 hown hK hP 1 rfl rfl 4 (by decide) (hts _ aw100) (fun _ h9 => h9) rfl dX1_copy_30 ?_
  refine z_put (ci := 1) (v := .int (m2 4)) (ty := .int) (C := RX1) (T := TX1) (N := 7) hx hb hts iX1 tyX1 tyX1_ok nmX1 hown hK hP hD hS 0 rfl rfl 4 (by decide) (hts _ aw100) (fun _ h9 => h9) rfl (by decide +kernel) rfl rfl (Nat.le_of_ble_eq_true rfl) dX1_copy_33 (fun (w9 : Rw) => (WCom a1 w9 ++ (WCom a2 m2))) (upd y4 4 (m2 4)) rfl (fun y5 ey5 H locs hP hD hS => ?_)
  have hf := lt_use ey5 hf
  refine lv_aload_n hx hb dX1_copy_36 rfl (lv_at hl 0 rfl) ?_
  refine lv_aload_n hx hb dX1_copy_37 rfl (lv_at hl 1 rfl) ?_
  refine va_get (D := D) (ci := 1) (v := .int (m2 5)) (C := RX1) (T := TX1) (N := 7) hx hb hts iX1 hown hK hP 1 rfl rfl 5 (by decide) (hts _ aw102) (fun _ h9 => h9) rfl dX1_copy_38 ?_
  refine z_put (ci := 1) (v := .int (m2 5)) (ty := .int) (C := RX1) (T := TX1) (N := 7) hx hb hts iX1 tyX1 tyX1_ok nmX1 hown hK hP hD hS 0 rfl rfl 5 (by decide) (hts _ aw102) (fun _ h9 => h9) rfl (by decide +kernel) rfl rfl (Nat.le_of_ble_eq_true rfl) dX1_copy_41 (fun (w9 : Rw) => (WCom a1 w9 ++ (WCom a2 m2))) (upd y5 5 (m2 5)) rfl (fun y6 ey6 H locs hP hD hS => ?_)
  have hf := lt_use ey6 hf
  refine lv_aload_n hx hb dX1_copy_44 rfl (lv_at hl 0 rfl) ?_
  refine lv_aload_n hx hb dX1_copy_45 rfl (lv_at hl 1 rfl) ?_
  refine va_get (D := D) (ci := 1) (v := .int (m2 6)) (C := RX1) (T := TX1) (N := 7) hx hb hts iX1 hown hK hP 1 rfl rfl 6 (by decide) (hts _ aw105) (fun _ h9 => h9) rfl dX1_copy_46 ?_
  refine z_put (ci := 1) (v := .int (m2 6)) (ty := .int) (C := RX1) (T := TX1) (N := 7) hx hb hts iX1 tyX1 tyX1_ok nmX1 hown hK hP hD hS 0 rfl rfl 6 (by decide) (hts _ aw105) (fun _ h9 => h9) rfl (by decide +kernel) rfl rfl (Nat.le_of_ble_eq_true rfl) dX1_copy_49 (fun (w9 : Rw) => (WCom a1 w9 ++ (WCom a2 m2))) (upd y6 6 (m2 6)) rfl (fun y7 ey7 H locs hP hD hS => ?_)
  have hf := lt_use ey7 hf
  obtain rfl := so1 hf
  exact ret_v hx hb hr hlocks hK hP hD hS dX1_copy_52
def pX1_waited (fu : Nat) (m1 : Rw) : Option Int32 :=
  if (m1 5) = 2 then
    some ((m1 6) - (m1 2))
  else
    if (m1 5) = 3 then
      some (m1 4)
    else
      some 0
set_option maxHeartbeats 4000000 in
set_option maxRecDepth 100000 in
theorem tX1_waited (l : Launch) (D : va_G) (z tt : Nat → Nat) (a1 : Nat) (m1 : Rw)  (fu : Nat) (rr : Int32) (hf : pX1_waited fu m1 = some rr) : MetI l yX1_waited wsX1_waited ({ frames := 0, cells := 0, slots := 0, locals := 0 } : Room) D z tt ([.ref a1] : List Value) (WCom a1 m1) rr (WCom a1 m1) := by
  intro sz
  refine Met.ofW (cc := cX1_waited) (maxL := 1) (ret := (some .int)) (by decide) rfl ?_
  intro p e s m args below meth c s₁ B hml hv
  obtain ⟨rfl, hsz, hP, hK, hD0, hT, hN⟩ := hv
  have hx := B.exec
  have hb := B.bytes
  have hr := B.returns
  have hts : ∀ w ∈ wsA, w.before ([.ref a1] : List Value).toArray s = true := fun w h => atoms_spec (ws := wsX1_waited) B.pre w (List.mem_cons_of_mem _ h)
  have hown : s.vm.findClass RX1 = some m.cls := findClass_of_methodNamed B.named
  have hlocks := B.notSynchronized
  subst hsz
  have hD := hD0.self (sz := s.heap.size)
  generalize hAe : va_A (WCom a1 m1) s.heap.size = A at hD hT ⊢
  have hA : ∀ q : Nat, s.heap.size ≤ q → A q := fun q h => by rw [← hAe]; exact Or.inr h
  have hS : va_S A s.heap s.heap [] := va_S.rf
  have hl := lv_entry ([.ref a1] : List Value) (n := 1) (Nat.le_of_ble_eq_true rfl)
  rw [lg_entry_eq]
  generalize (lg_sl ([.ref a1] : List Value) ++ List.replicate (1 - (lg_sl ([.ref a1] : List Value)).length) Slot.unset).toArray = ls at hl ⊢
  have hl : lv_has ls 1 [(0, .ref a1)] := hl
  unfold pX1_waited at hf
  refine lv_aload_n hx hb dX1_waited_0 rfl (lv_at hl 0 rfl) ?_
  refine va_get (D := D) (ci := 1) (v := .int (m1 5)) (C := RX1) (T := TX1) (N := 7) hx hb hts iX1 hown hK hP 0 rfl rfl 5 (by decide) (hts _ aw102) (fun _ h9 => h9) rfl dX1_waited_1 ?_
  refine lv_iconst (v := 2) hx hb dX1_waited_4 (by decide) ?_
  refine lv_icmp_ne (tgt := 18) hx hb dX1_waited_5 (by decide) (fun c1 => ?_) (fun c1 => ?_)
  · have hf := if_f c1 hf
    refine lv_aload_n hx hb dX1_waited_18 rfl (lv_at hl 0 rfl) ?_
    refine va_get (D := D) (ci := 1) (v := .int (m1 5)) (C := RX1) (T := TX1) (N := 7) hx hb hts iX1 hown hK hP 0 rfl rfl 5 (by decide) (hts _ aw102) (fun _ h9 => h9) rfl dX1_waited_19 ?_
    refine lv_iconst (v := 3) hx hb dX1_waited_22 (by decide) ?_
    refine lv_icmp_ne (tgt := 33) hx hb dX1_waited_23 (by decide) (fun c2 => ?_) (fun c2 => ?_)
    · have hf := if_f c2 hf
      refine lv_iconst (v := 0) hx hb dX1_waited_33 (by decide) ?_
      obtain rfl := so1 hf
      exact ret_i hx hb hr hlocks hK hP hD hS dX1_waited_34
    · have hf := if_t c2 hf
      refine lv_aload_n hx hb dX1_waited_26 rfl (lv_at hl 0 rfl) ?_
      refine va_get (D := D) (ci := 1) (v := .int (m1 4)) (C := RX1) (T := TX1) (N := 7) hx hb hts iX1 hown hK hP 0 rfl rfl 4 (by decide) (hts _ aw100) (fun _ h9 => h9) rfl dX1_waited_27 ?_
      refine lv_goto (tgt := 34) hx hb dX1_waited_30 (by decide) ?_
      obtain rfl := so1 hf
      exact ret_i hx hb hr hlocks hK hP hD hS dX1_waited_34
  · have hf := if_t c1 hf
    refine lv_aload_n hx hb dX1_waited_8 rfl (lv_at hl 0 rfl) ?_
    refine va_get (D := D) (ci := 1) (v := .int (m1 6)) (C := RX1) (T := TX1) (N := 7) hx hb hts iX1 hown hK hP 0 rfl rfl 6 (by decide) (hts _ aw105) (fun _ h9 => h9) rfl dX1_waited_9 ?_
    refine lv_aload_n hx hb dX1_waited_12 rfl (lv_at hl 0 rfl) ?_
    refine va_get (D := D) (ci := 1) (v := .int (m1 2)) (C := RX1) (T := TX1) (N := 7) hx hb hts iX1 hown hK hP 0 rfl rfl 2 (by decide) (hts _ aw93) (fun _ h9 => h9) rfl dX1_waited_13 ?_
    refine lv_isub hx hb dX1_waited_16 ?_
    obtain rfl := so1 hf
    exact ret_i hx hb hr hlocks hK hP hD hS dX1_waited_17
def pX1_tell (fu : Nat) (m1 : Rw) (p1 : Int32) : Option Int32 :=
  if p1 = 0 then
    some (m1 0)
  else
  if p1 = 1 then
    some (m1 1)
  else
  if p1 = 2 then
    some (m1 2)
  else
  if p1 = 3 then
    some (m1 3)
  else
  if p1 = 4 then
    some (m1 4)
  else
  if p1 = 5 then
    some (m1 5)
  else
  bd (pX1_waited fu m1) fun r7 =>
  some r7
set_option maxHeartbeats 4000000 in
set_option maxRecDepth 100000 in
theorem tX1_tell (l : Launch) (D : va_G) (z tt : Nat → Nat) (a1 : Nat) (m1 : Rw) (p1 : Int32) (fu : Nat) (rr : Int32) (hf : pX1_tell fu m1 p1 = some rr) : MetI l yX1_tell wsX1_tell ({ frames := 1, cells := 0, slots := 0, locals := 20 } : Room) D z tt ([.ref a1, .int p1] : List Value) (WCom a1 m1) rr (WCom a1 m1) := by
  intro sz
  refine Met.ofW (cc := cX1_tell) (maxL := 2) (ret := (some .int)) (by decide) rfl ?_
  intro p e s m args below meth c s₁ B hml hv
  obtain ⟨rfl, hsz, hP, hK, hD0, hT, hN⟩ := hv
  have hx := B.exec
  have hb := B.bytes
  have hr := B.returns
  have hts : ∀ w ∈ wsA, w.before ([.ref a1, .int p1] : List Value).toArray s = true := fun w h => atoms_spec (ws := wsX1_tell) B.pre w (List.mem_cons_of_mem _ h)
  have hown : s.vm.findClass RX1 = some m.cls := findClass_of_methodNamed B.named
  have hlocks := B.notSynchronized
  subst hsz
  have hD := hD0.self (sz := s.heap.size)
  generalize hAe : va_A (WCom a1 m1) s.heap.size = A at hD hT ⊢
  have hA : ∀ q : Nat, s.heap.size ≤ q → A q := fun q h => by rw [← hAe]; exact Or.inr h
  have hS : va_S A s.heap s.heap [] := va_S.rf
  have hl := lv_entry ([.ref a1, .int p1] : List Value) (n := 2) (Nat.le_of_ble_eq_true rfl)
  rw [lg_entry_eq]
  generalize (lg_sl ([.ref a1, .int p1] : List Value) ++ List.replicate (2 - (lg_sl ([.ref a1, .int p1] : List Value)).length) Slot.unset).toArray = ls at hl ⊢
  have hl : lv_has ls 2 [(0, .ref a1), (1, .int p1)] := hl
  unfold pX1_tell at hf
  refine lv_iload_n hx hb dX1_tell_0 rfl (lv_at hl 1 rfl) ?_
  by_cases c1 : p1 = 0
  · have hf := if_t c1 hf
    refine z_tin (K := 0) hx hb c1 dX1_tell_1 ⟨rfl, by decide, by decide⟩ (tgt := 40) (by decide) ?_
    refine lv_aload_n hx hb dX1_tell_40 rfl (lv_at hl 0 rfl) ?_
    refine va_get (D := D) (ci := 1) (v := .int (m1 0)) (C := RX1) (T := TX1) (N := 7) hx hb hts iX1 hown hK hP 0 rfl rfl 0 (by decide) (hts _ aw85) (fun _ h9 => h9) rfl dX1_tell_41 ?_
    obtain rfl := so1 hf
    exact ret_i hx hb hr hlocks hK hP hD hS dX1_tell_44
  have hf := if_f c1 hf
  by_cases c2 : p1 = 1
  · have hf := if_t c2 hf
    refine z_tin (K := 1) hx hb c2 dX1_tell_1 ⟨rfl, by decide, by decide⟩ (tgt := 45) (by decide) ?_
    refine lv_aload_n hx hb dX1_tell_45 rfl (lv_at hl 0 rfl) ?_
    refine va_get (D := D) (ci := 1) (v := .int (m1 1)) (C := RX1) (T := TX1) (N := 7) hx hb hts iX1 hown hK hP 0 rfl rfl 1 (by decide) (hts _ aw89) (fun _ h9 => h9) rfl dX1_tell_46 ?_
    obtain rfl := so1 hf
    exact ret_i hx hb hr hlocks hK hP hD hS dX1_tell_49
  have hf := if_f c2 hf
  by_cases c3 : p1 = 2
  · have hf := if_t c3 hf
    refine z_tin (K := 2) hx hb c3 dX1_tell_1 ⟨rfl, by decide, by decide⟩ (tgt := 50) (by decide) ?_
    refine lv_aload_n hx hb dX1_tell_50 rfl (lv_at hl 0 rfl) ?_
    refine va_get (D := D) (ci := 1) (v := .int (m1 2)) (C := RX1) (T := TX1) (N := 7) hx hb hts iX1 hown hK hP 0 rfl rfl 2 (by decide) (hts _ aw93) (fun _ h9 => h9) rfl dX1_tell_51 ?_
    obtain rfl := so1 hf
    exact ret_i hx hb hr hlocks hK hP hD hS dX1_tell_54
  have hf := if_f c3 hf
  by_cases c4 : p1 = 3
  · have hf := if_t c4 hf
    refine z_tin (K := 3) hx hb c4 dX1_tell_1 ⟨rfl, by decide, by decide⟩ (tgt := 55) (by decide) ?_
    refine lv_aload_n hx hb dX1_tell_55 rfl (lv_at hl 0 rfl) ?_
    refine va_get (D := D) (ci := 1) (v := .int (m1 3)) (C := RX1) (T := TX1) (N := 7) hx hb hts iX1 hown hK hP 0 rfl rfl 3 (by decide) (hts _ aw97) (fun _ h9 => h9) rfl dX1_tell_56 ?_
    obtain rfl := so1 hf
    exact ret_i hx hb hr hlocks hK hP hD hS dX1_tell_59
  have hf := if_f c4 hf
  by_cases c5 : p1 = 4
  · have hf := if_t c5 hf
    refine z_tin (K := 4) hx hb c5 dX1_tell_1 ⟨rfl, by decide, by decide⟩ (tgt := 60) (by decide) ?_
    refine lv_aload_n hx hb dX1_tell_60 rfl (lv_at hl 0 rfl) ?_
    refine va_get (D := D) (ci := 1) (v := .int (m1 4)) (C := RX1) (T := TX1) (N := 7) hx hb hts iX1 hown hK hP 0 rfl rfl 4 (by decide) (hts _ aw100) (fun _ h9 => h9) rfl dX1_tell_61 ?_
    obtain rfl := so1 hf
    exact ret_i hx hb hr hlocks hK hP hD hS dX1_tell_64
  have hf := if_f c5 hf
  by_cases c6 : p1 = 5
  · have hf := if_t c6 hf
    refine z_tin (K := 5) hx hb c6 dX1_tell_1 ⟨rfl, by decide, by decide⟩ (tgt := 65) (by decide) ?_
    refine lv_aload_n hx hb dX1_tell_65 rfl (lv_at hl 0 rfl) ?_
    refine va_get (D := D) (ci := 1) (v := .int (m1 5)) (C := RX1) (T := TX1) (N := 7) hx hb hts iX1 hown hK hP 0 rfl rfl 5 (by decide) (hts _ aw102) (fun _ h9 => h9) rfl dX1_tell_66 ?_
    obtain rfl := so1 hf
    exact ret_i hx hb hr hlocks hK hP hD hS dX1_tell_69
  have hf := if_f c6 hf
  refine lv_tableOut (tgt := 70) hx hb dX1_tell_1 (by have qc1 := lv_neT c1 (show (0 : Int32).toInt = 0 from by decide); have qc2 := lv_neT c2 (show (1 : Int32).toInt = 1 from by decide); have qc3 := lv_neT c3 (show (2 : Int32).toInt = 2 from by decide); have qc4 := lv_neT c4 (show (3 : Int32).toInt = 3 from by decide); have qc5 := lv_neT c5 (show (4 : Int32).toInt = 4 from by decide); have qc6 := lv_neT c6 (show (5 : Int32).toInt = 5 from by decide); omega) (by decide) ?_
  refine lv_aload_n hx hb dX1_tell_70 rfl (lv_at hl 0 rfl) ?_
  obtain ⟨r7, q8, hf⟩ := bd_use hf
  have hfo : Foc (WCom a1 m1) (WCom a1 m1) (WCom a1 m1) (WCom a1 m1) := foc_all
  refine z_goI (ws1 := (WCom a1 m1)) (va_runV (As := []) (rest := []) ⟨hx, hb, hml, hown, hts⟩ (tX1_waited l D z tt a1 m1  fu r7 q8 _) (cwV 0 hts (gV4 aw393 aw394 aw395 aw47 aw396) rfl rfl rfl (by decide +kernel) ⟨Nat.le_of_ble_eq_true rfl, Nat.le_of_ble_eq_true rfl⟩) (z_preV hK hP hD hS hA hT hN hfo (va_recv hK hP (ci := 1) (q0 := 0) rfl rfl)) rfl rfl hl.1 rfl (lv_room (Nat.le_of_ble_eq_true rfl)) dX1_tell_71 ⟨Nat.zero_le _, Nat.zero_le _⟩) hP hD hS hA hfo (fun H locs hP hD hS => ?_)
  obtain rfl := so1 hf
  exact ret_i hx hb hr hlocks hK hP hD hS dX1_tell_74
def pX3_copy (fu : Nat) (m1 : Rw) (m2 : Rw) : Option Rw :=
  lt' (upd m1 0 (m2 0)) fun y1 =>
  lt' (upd y1 1 (m2 1)) fun y2 =>
  lt' (upd y2 2 (m2 2)) fun y3 =>
  lt' (upd y3 3 (m2 3)) fun y4 =>
  lt' (upd y4 4 (m2 4)) fun y5 =>
  some y5
set_option maxHeartbeats 4000000 in
set_option maxRecDepth 100000 in
theorem tX3_copy (l : Launch) (D : va_G) (z tt : Nat → Nat) (a1 : Nat) (a2 : Nat) (m1 : Rw) (m2 : Rw)  (fu : Nat) (m1' : Rw) (hf : pX3_copy fu m1 m2 = some m1') : MetV l yX3_copy wsX3_copy ({ frames := 0, cells := 0, slots := 0, locals := 0 } : Room) D z tt ([.ref a1, .ref a2] : List Value) (WKet a1 m1 ++ (WKet a2 m2)) (WKet a1 m1' ++ (WKet a2 m2)) := by
  intro sz
  refine Met.ofW (cc := cX3_copy) (maxL := 2) (ret := none) (by decide) rfl ?_
  intro p e s m args below meth c s₁ B hml hv
  obtain ⟨rfl, hsz, hP, hK, hD0, hT, hN⟩ := hv
  have hx := B.exec
  have hb := B.bytes
  have hr := B.returns
  have hts : ∀ w ∈ wsA, w.before ([.ref a1, .ref a2] : List Value).toArray s = true := fun w h => atoms_spec (ws := wsX3_copy) B.pre w (List.mem_cons_of_mem _ h)
  have hown : s.vm.findClass RX3 = some m.cls := findClass_of_methodNamed B.named
  have hlocks := B.notSynchronized
  subst hsz
  have hD := hD0.self (sz := s.heap.size)
  generalize hAe : va_A (WKet a1 m1 ++ (WKet a2 m2)) s.heap.size = A at hD hT ⊢
  have hA : ∀ q : Nat, s.heap.size ≤ q → A q := fun q h => by rw [← hAe]; exact Or.inr h
  have hS : va_S A s.heap s.heap [] := va_S.rf
  have hl := lv_entry ([.ref a1, .ref a2] : List Value) (n := 2) (Nat.le_of_ble_eq_true rfl)
  rw [lg_entry_eq]
  generalize (lg_sl ([.ref a1, .ref a2] : List Value) ++ List.replicate (2 - (lg_sl ([.ref a1, .ref a2] : List Value)).length) Slot.unset).toArray = ls at hl ⊢
  have hl : lv_has ls 2 [(0, .ref a1), (1, .ref a2)] := hl
  unfold pX3_copy at hf
  refine lv_aload_n hx hb dX3_copy_0 rfl (lv_at hl 0 rfl) ?_
  refine lv_aload_n hx hb dX3_copy_1 rfl (lv_at hl 1 rfl) ?_
  refine va_get (D := D) (ci := 3) (v := .int (m2 0)) (C := RX3) (T := TX3) (N := 5) hx hb hts iX3 hown hK hP 1 rfl rfl 0 (by decide) (hts _ aw131) (fun _ h9 => h9) rfl dX3_copy_2 ?_
  refine z_put (ci := 3) (v := .int (m2 0)) (ty := .int) (C := RX3) (T := TX3) (N := 5) hx hb hts iX3 tyX3 tyX3_ok nmX3 hown hK hP hD hS 0 rfl rfl 0 (by decide) (hts _ aw131) (fun _ h9 => h9) rfl (by decide +kernel) rfl rfl (Nat.le_of_ble_eq_true rfl) dX3_copy_5 (fun (w9 : Rw) => (WKet a1 w9 ++ (WKet a2 m2))) (upd m1 0 (m2 0)) rfl (fun y1 ey1 H locs hP hD hS => ?_)
  have hf := lt_use ey1 hf
  refine lv_aload_n hx hb dX3_copy_8 rfl (lv_at hl 0 rfl) ?_
  refine lv_aload_n hx hb dX3_copy_9 rfl (lv_at hl 1 rfl) ?_
  refine va_get (D := D) (ci := 3) (v := .int (m2 1)) (C := RX3) (T := TX3) (N := 5) hx hb hts iX3 hown hK hP 1 rfl rfl 1 (by decide) (hts _ aw134) (fun _ h9 => h9) rfl dX3_copy_10 ?_
  refine z_put (ci := 3) (v := .int (m2 1)) (ty := .int) (C := RX3) (T := TX3) (N := 5) hx hb hts iX3 tyX3 tyX3_ok nmX3 hown hK hP hD hS 0 rfl rfl 1 (by decide) (hts _ aw134) (fun _ h9 => h9) rfl (by decide +kernel) rfl rfl (Nat.le_of_ble_eq_true rfl) dX3_copy_13 (fun (w9 : Rw) => (WKet a1 w9 ++ (WKet a2 m2))) (upd y1 1 (m2 1)) rfl (fun y2 ey2 H locs hP hD hS => ?_)
  have hf := lt_use ey2 hf
  refine lv_aload_n hx hb dX3_copy_16 rfl (lv_at hl 0 rfl) ?_
  refine lv_aload_n hx hb dX3_copy_17 rfl (lv_at hl 1 rfl) ?_
  refine va_get (D := D) (ci := 3) (v := .int (m2 2)) (C := RX3) (T := TX3) (N := 5) hx hb hts iX3 hown hK hP 1 rfl rfl 2 (by decide) (hts _ aw135) (fun _ h9 => h9) rfl dX3_copy_18 ?_
  refine z_put (ci := 3) (v := .int (m2 2)) (ty := .int) (C := RX3) (T := TX3) (N := 5) hx hb hts iX3 tyX3 tyX3_ok nmX3 hown hK hP hD hS 0 rfl rfl 2 (by decide) (hts _ aw135) (fun _ h9 => h9) rfl (by decide +kernel) rfl rfl (Nat.le_of_ble_eq_true rfl) dX3_copy_21 (fun (w9 : Rw) => (WKet a1 w9 ++ (WKet a2 m2))) (upd y2 2 (m2 2)) rfl (fun y3 ey3 H locs hP hD hS => ?_)
  have hf := lt_use ey3 hf
  refine lv_aload_n hx hb dX3_copy_24 rfl (lv_at hl 0 rfl) ?_
  refine lv_aload_n hx hb dX3_copy_25 rfl (lv_at hl 1 rfl) ?_
  refine va_get (D := D) (ci := 3) (v := .int (m2 3)) (C := RX3) (T := TX3) (N := 5) hx hb hts iX3 hown hK hP 1 rfl rfl 3 (by decide) (hts _ aw136) (fun _ h9 => h9) rfl dX3_copy_26 ?_
  refine z_put (ci := 3) (v := .int (m2 3)) (ty := .int) (C := RX3) (T := TX3) (N := 5) hx hb hts iX3 tyX3 tyX3_ok nmX3 hown hK hP hD hS 0 rfl rfl 3 (by decide) (hts _ aw136) (fun _ h9 => h9) rfl (by decide +kernel) rfl rfl (Nat.le_of_ble_eq_true rfl) dX3_copy_29 (fun (w9 : Rw) => (WKet a1 w9 ++ (WKet a2 m2))) (upd y3 3 (m2 3)) rfl (fun y4 ey4 H locs hP hD hS => ?_)
  have hf := lt_use ey4 hf
  refine lv_aload_n hx hb dX3_copy_32 rfl (lv_at hl 0 rfl) ?_
  refine lv_aload_n hx hb dX3_copy_33 rfl (lv_at hl 1 rfl) ?_
  refine va_get (D := D) (ci := 3) (v := .int (m2 4)) (C := RX3) (T := TX3) (N := 5) hx hb hts iX3 hown hK hP 1 rfl rfl 4 (by decide) (hts _ aw137) (fun _ h9 => h9) rfl dX3_copy_34 ?_
  refine z_put (ci := 3) (v := .int (m2 4)) (ty := .int) (C := RX3) (T := TX3) (N := 5) hx hb hts iX3 tyX3 tyX3_ok nmX3 hown hK hP hD hS 0 rfl rfl 4 (by decide) (hts _ aw137) (fun _ h9 => h9) rfl (by decide +kernel) rfl rfl (Nat.le_of_ble_eq_true rfl) dX3_copy_37 (fun (w9 : Rw) => (WKet a1 w9 ++ (WKet a2 m2))) (upd y4 4 (m2 4)) rfl (fun y5 ey5 H locs hP hD hS => ?_)
  have hf := lt_use ey5 hf
  obtain rfl := so1 hf
  exact ret_v hx hb hr hlocks hK hP hD hS dX3_copy_40
def pX3_begin (fu : Nat) (m1 : Rw) : Option Rw :=
  lt' (upd m1 0 0) fun y1 =>
  lt' (upd y1 1 0) fun y2 =>
  lt' (upd y2 2 0) fun y3 =>
  lt' (upd y3 3 0) fun y4 =>
  some y4
set_option maxHeartbeats 4000000 in
set_option maxRecDepth 100000 in
theorem tX3_begin (l : Launch) (D : va_G) (z tt : Nat → Nat) (a1 : Nat) (m1 : Rw)  (fu : Nat) (m1' : Rw) (hf : pX3_begin fu m1 = some m1') : MetV l yX3_begin wsX3_begin ({ frames := 0, cells := 0, slots := 0, locals := 0 } : Room) D z tt ([.ref a1] : List Value) (WKet a1 m1) (WKet a1 m1') := by
  intro sz
  refine Met.ofW (cc := cX3_begin) (maxL := 1) (ret := none) (by decide) rfl ?_
  intro p e s m args below meth c s₁ B hml hv
  obtain ⟨rfl, hsz, hP, hK, hD0, hT, hN⟩ := hv
  have hx := B.exec
  have hb := B.bytes
  have hr := B.returns
  have hts : ∀ w ∈ wsA, w.before ([.ref a1] : List Value).toArray s = true := fun w h => atoms_spec (ws := wsX3_begin) B.pre w (List.mem_cons_of_mem _ h)
  have hown : s.vm.findClass RX3 = some m.cls := findClass_of_methodNamed B.named
  have hlocks := B.notSynchronized
  subst hsz
  have hD := hD0.self (sz := s.heap.size)
  generalize hAe : va_A (WKet a1 m1) s.heap.size = A at hD hT ⊢
  have hA : ∀ q : Nat, s.heap.size ≤ q → A q := fun q h => by rw [← hAe]; exact Or.inr h
  have hS : va_S A s.heap s.heap [] := va_S.rf
  have hl := lv_entry ([.ref a1] : List Value) (n := 1) (Nat.le_of_ble_eq_true rfl)
  rw [lg_entry_eq]
  generalize (lg_sl ([.ref a1] : List Value) ++ List.replicate (1 - (lg_sl ([.ref a1] : List Value)).length) Slot.unset).toArray = ls at hl ⊢
  have hl : lv_has ls 1 [(0, .ref a1)] := hl
  unfold pX3_begin at hf
  refine lv_aload_n hx hb dX3_begin_0 rfl (lv_at hl 0 rfl) ?_
  refine lv_iconst (v := 0) hx hb dX3_begin_1 (by decide) ?_
  refine z_put (ci := 3) (v := .int 0) (ty := .int) (C := RX3) (T := TX3) (N := 5) hx hb hts iX3 tyX3 tyX3_ok nmX3 hown hK hP hD hS 0 rfl rfl 0 (by decide) (hts _ aw131) (fun _ h9 => h9) rfl (by decide +kernel) rfl rfl (Nat.le_of_ble_eq_true rfl) dX3_begin_2 (fun (w9 : Rw) => (WKet a1 w9)) (upd m1 0 0) rfl (fun y1 ey1 H locs hP hD hS => ?_)
  have hf := lt_use ey1 hf
  refine lv_aload_n hx hb dX3_begin_5 rfl (lv_at hl 0 rfl) ?_
  refine lv_iconst (v := 0) hx hb dX3_begin_6 (by decide) ?_
  refine z_put (ci := 3) (v := .int 0) (ty := .int) (C := RX3) (T := TX3) (N := 5) hx hb hts iX3 tyX3 tyX3_ok nmX3 hown hK hP hD hS 0 rfl rfl 1 (by decide) (hts _ aw134) (fun _ h9 => h9) rfl (by decide +kernel) rfl rfl (Nat.le_of_ble_eq_true rfl) dX3_begin_7 (fun (w9 : Rw) => (WKet a1 w9)) (upd y1 1 0) rfl (fun y2 ey2 H locs hP hD hS => ?_)
  have hf := lt_use ey2 hf
  refine lv_aload_n hx hb dX3_begin_10 rfl (lv_at hl 0 rfl) ?_
  refine lv_iconst (v := 0) hx hb dX3_begin_11 (by decide) ?_
  refine z_put (ci := 3) (v := .int 0) (ty := .int) (C := RX3) (T := TX3) (N := 5) hx hb hts iX3 tyX3 tyX3_ok nmX3 hown hK hP hD hS 0 rfl rfl 2 (by decide) (hts _ aw135) (fun _ h9 => h9) rfl (by decide +kernel) rfl rfl (Nat.le_of_ble_eq_true rfl) dX3_begin_12 (fun (w9 : Rw) => (WKet a1 w9)) (upd y2 2 0) rfl (fun y3 ey3 H locs hP hD hS => ?_)
  have hf := lt_use ey3 hf
  refine lv_aload_n hx hb dX3_begin_15 rfl (lv_at hl 0 rfl) ?_
  refine lv_iconst (v := 0) hx hb dX3_begin_16 (by decide) ?_
  refine z_put (ci := 3) (v := .int 0) (ty := .int) (C := RX3) (T := TX3) (N := 5) hx hb hts iX3 tyX3 tyX3_ok nmX3 hown hK hP hD hS 0 rfl rfl 3 (by decide) (hts _ aw136) (fun _ h9 => h9) rfl (by decide +kernel) rfl rfl (Nat.le_of_ble_eq_true rfl) dX3_begin_17 (fun (w9 : Rw) => (WKet a1 w9)) (upd y3 3 0) rfl (fun y4 ey4 H locs hP hD hS => ?_)
  have hf := lt_use ey4 hf
  obtain rfl := so1 hf
  exact ret_v hx hb hr hlocks hK hP hD hS dX3_begin_20
def pX3_isFree (fu : Nat) (m1 : Rw) (p1 : Int32) : Option Int32 :=
  if p1 < (m1 3) then
    some 0
  else
    some 1
set_option maxHeartbeats 4000000 in
set_option maxRecDepth 100000 in
theorem tX3_isFree (l : Launch) (D : va_G) (z tt : Nat → Nat) (a1 : Nat) (m1 : Rw) (p1 : Int32) (fu : Nat) (rr : Int32) (hf : pX3_isFree fu m1 p1 = some rr) : MetI l yX3_isFree wsX3_isFree ({ frames := 0, cells := 0, slots := 0, locals := 0 } : Room) D z tt ([.ref a1, .int p1] : List Value) (WKet a1 m1) rr (WKet a1 m1) := by
  intro sz
  refine Met.ofW (cc := cX3_isFree) (maxL := 2) (ret := (some .boolean)) (by decide) rfl ?_
  intro p e s m args below meth c s₁ B hml hv
  obtain ⟨rfl, hsz, hP, hK, hD0, hT, hN⟩ := hv
  have hx := B.exec
  have hb := B.bytes
  have hr := B.returns
  have hts : ∀ w ∈ wsA, w.before ([.ref a1, .int p1] : List Value).toArray s = true := fun w h => atoms_spec (ws := wsX3_isFree) B.pre w (List.mem_cons_of_mem _ h)
  have hown : s.vm.findClass RX3 = some m.cls := findClass_of_methodNamed B.named
  have hlocks := B.notSynchronized
  subst hsz
  have hD := hD0.self (sz := s.heap.size)
  generalize hAe : va_A (WKet a1 m1) s.heap.size = A at hD hT ⊢
  have hA : ∀ q : Nat, s.heap.size ≤ q → A q := fun q h => by rw [← hAe]; exact Or.inr h
  have hS : va_S A s.heap s.heap [] := va_S.rf
  have hl := lv_entry ([.ref a1, .int p1] : List Value) (n := 2) (Nat.le_of_ble_eq_true rfl)
  rw [lg_entry_eq]
  generalize (lg_sl ([.ref a1, .int p1] : List Value) ++ List.replicate (2 - (lg_sl ([.ref a1, .int p1] : List Value)).length) Slot.unset).toArray = ls at hl ⊢
  have hl : lv_has ls 2 [(0, .ref a1), (1, .int p1)] := hl
  unfold pX3_isFree at hf
  refine lv_aload_n hx hb dX3_isFree_0 rfl (lv_at hl 0 rfl) ?_
  refine va_get (D := D) (ci := 3) (v := .int (m1 3)) (C := RX3) (T := TX3) (N := 5) hx hb hts iX3 hown hK hP 0 rfl rfl 3 (by decide) (hts _ aw136) (fun _ h9 => h9) rfl dX3_isFree_1 ?_
  refine lv_iload_n hx hb dX3_isFree_4 rfl (lv_at hl 1 rfl) ?_
  refine lv_icmp_gt (tgt := 12) hx hb dX3_isFree_5 (by decide) (fun c1 => ?_) (fun c1 => ?_)
  · have hf := if_t c1 hf
    refine lv_iconst (v := 0) hx hb dX3_isFree_12 (by decide) ?_
    obtain rfl := so1 hf
    exact ret_z hx hb hr hlocks hK hP hD hS (by decide) dX3_isFree_13
  · have hf := if_f c1 hf
    refine lv_iconst (v := 1) hx hb dX3_isFree_8 (by decide) ?_
    refine lv_goto (tgt := 13) hx hb dX3_isFree_9 (by decide) ?_
    obtain rfl := so1 hf
    exact ret_z hx hb hr hlocks hK hP hD hS (by decide) dX3_isFree_13
def pX3_isReady (fu : Nat) (m1 : Rw) (p1 : Int32) (p2 : Int32) : Option Int32 :=
  if p1 < (m1 3) then
    some 0
  else
    if (m1 1) < 8 then
      some 0
    else
      if (m1 0) < p2 then
        some 0
      else
        some 1
set_option maxHeartbeats 4000000 in
set_option maxRecDepth 100000 in
theorem tX3_isReady (l : Launch) (D : va_G) (z tt : Nat → Nat) (a1 : Nat) (m1 : Rw) (p1 : Int32) (p2 : Int32) (fu : Nat) (rr : Int32) (hf : pX3_isReady fu m1 p1 p2 = some rr) : MetI l yX3_isReady wsX3_isReady ({ frames := 0, cells := 0, slots := 0, locals := 0 } : Room) D z tt ([.ref a1, .int p1, .int p2] : List Value) (WKet a1 m1) rr (WKet a1 m1) := by
  intro sz
  refine Met.ofW (cc := cX3_isReady) (maxL := 3) (ret := (some .boolean)) (by decide) rfl ?_
  intro p e s m args below meth c s₁ B hml hv
  obtain ⟨rfl, hsz, hP, hK, hD0, hT, hN⟩ := hv
  have hx := B.exec
  have hb := B.bytes
  have hr := B.returns
  have hts : ∀ w ∈ wsA, w.before ([.ref a1, .int p1, .int p2] : List Value).toArray s = true := fun w h => atoms_spec (ws := wsX3_isReady) B.pre w (List.mem_cons_of_mem _ h)
  have hown : s.vm.findClass RX3 = some m.cls := findClass_of_methodNamed B.named
  have hlocks := B.notSynchronized
  subst hsz
  have hD := hD0.self (sz := s.heap.size)
  generalize hAe : va_A (WKet a1 m1) s.heap.size = A at hD hT ⊢
  have hA : ∀ q : Nat, s.heap.size ≤ q → A q := fun q h => by rw [← hAe]; exact Or.inr h
  have hS : va_S A s.heap s.heap [] := va_S.rf
  have hl := lv_entry ([.ref a1, .int p1, .int p2] : List Value) (n := 3) (Nat.le_of_ble_eq_true rfl)
  rw [lg_entry_eq]
  generalize (lg_sl ([.ref a1, .int p1, .int p2] : List Value) ++ List.replicate (3 - (lg_sl ([.ref a1, .int p1, .int p2] : List Value)).length) Slot.unset).toArray = ls at hl ⊢
  have hl : lv_has ls 3 [(0, .ref a1), (1, .int p1), (2, .int p2)] := hl
  unfold pX3_isReady at hf
  refine lv_aload_n hx hb dX3_isReady_0 rfl (lv_at hl 0 rfl) ?_
  refine va_get (D := D) (ci := 3) (v := .int (m1 3)) (C := RX3) (T := TX3) (N := 5) hx hb hts iX3 hown hK hP 0 rfl rfl 3 (by decide) (hts _ aw136) (fun _ h9 => h9) rfl dX3_isReady_1 ?_
  refine lv_iload_n hx hb dX3_isReady_4 rfl (lv_at hl 1 rfl) ?_
  refine lv_icmp_gt (tgt := 29) hx hb dX3_isReady_5 (by decide) (fun c1 => ?_) (fun c1 => ?_)
  · have hf := if_t c1 hf
    refine lv_iconst (v := 0) hx hb dX3_isReady_29 (by decide) ?_
    obtain rfl := so1 hf
    exact ret_z hx hb hr hlocks hK hP hD hS (by decide) dX3_isReady_30
  · have hf := if_f c1 hf
    refine lv_aload_n hx hb dX3_isReady_8 rfl (lv_at hl 0 rfl) ?_
    refine va_get (D := D) (ci := 3) (v := .int (m1 1)) (C := RX3) (T := TX3) (N := 5) hx hb hts iX3 hown hK hP 0 rfl rfl 1 (by decide) (hts _ aw134) (fun _ h9 => h9) rfl dX3_isReady_9 ?_
    refine lv_bipush (v := 8) hx hb dX3_isReady_12 (by decide) ?_
    refine lv_icmp_lt (tgt := 29) hx hb dX3_isReady_14 (by decide) (fun c2 => ?_) (fun c2 => ?_)
    · have hf := if_t c2 hf
      refine lv_iconst (v := 0) hx hb dX3_isReady_29 (by decide) ?_
      obtain rfl := so1 hf
      exact ret_z hx hb hr hlocks hK hP hD hS (by decide) dX3_isReady_30
    · have hf := if_f c2 hf
      refine lv_aload_n hx hb dX3_isReady_17 rfl (lv_at hl 0 rfl) ?_
      refine va_get (D := D) (ci := 3) (v := .int (m1 0)) (C := RX3) (T := TX3) (N := 5) hx hb hts iX3 hown hK hP 0 rfl rfl 0 (by decide) (hts _ aw131) (fun _ h9 => h9) rfl dX3_isReady_18 ?_
      refine lv_iload_n hx hb dX3_isReady_21 rfl (lv_at hl 2 rfl) ?_
      refine lv_icmp_lt (tgt := 29) hx hb dX3_isReady_22 (by decide) (fun c3 => ?_) (fun c3 => ?_)
      · have hf := if_t c3 hf
        refine lv_iconst (v := 0) hx hb dX3_isReady_29 (by decide) ?_
        obtain rfl := so1 hf
        exact ret_z hx hb hr hlocks hK hP hD hS (by decide) dX3_isReady_30
      · have hf := if_f c3 hf
        refine lv_iconst (v := 1) hx hb dX3_isReady_25 (by decide) ?_
        refine lv_goto (tgt := 30) hx hb dX3_isReady_26 (by decide) ?_
        obtain rfl := so1 hf
        exact ret_z hx hb hr hlocks hK hP hD hS (by decide) dX3_isReady_30
def pX3_fill (fu : Nat) (m1 : Rw) (p1 : Int32) : Option Rw :=
  if p1 ≤ 0 then
    some m1
  else
    ckn p1 <|
    lt' (upd m1 1 (((m1 0) * (m1 1)) / p1)) fun y3 =>
    lt' (upd y3 0 p1) fun y4 =>
    some y4
set_option maxHeartbeats 4000000 in
set_option maxRecDepth 100000 in
theorem tX3_fill (l : Launch) (D : va_G) (z tt : Nat → Nat) (a1 : Nat) (m1 : Rw) (p1 : Int32) (fu : Nat) (m1' : Rw) (hf : pX3_fill fu m1 p1 = some m1') : MetV l yX3_fill wsX3_fill ({ frames := 0, cells := 0, slots := 0, locals := 0 } : Room) D z tt ([.ref a1, .int p1] : List Value) (WKet a1 m1) (WKet a1 m1') := by
  intro sz
  refine Met.ofW (cc := cX3_fill) (maxL := 2) (ret := none) (by decide) rfl ?_
  intro p e s m args below meth c s₁ B hml hv
  obtain ⟨rfl, hsz, hP, hK, hD0, hT, hN⟩ := hv
  have hx := B.exec
  have hb := B.bytes
  have hr := B.returns
  have hts : ∀ w ∈ wsA, w.before ([.ref a1, .int p1] : List Value).toArray s = true := fun w h => atoms_spec (ws := wsX3_fill) B.pre w (List.mem_cons_of_mem _ h)
  have hown : s.vm.findClass RX3 = some m.cls := findClass_of_methodNamed B.named
  have hlocks := B.notSynchronized
  subst hsz
  have hD := hD0.self (sz := s.heap.size)
  generalize hAe : va_A (WKet a1 m1) s.heap.size = A at hD hT ⊢
  have hA : ∀ q : Nat, s.heap.size ≤ q → A q := fun q h => by rw [← hAe]; exact Or.inr h
  have hS : va_S A s.heap s.heap [] := va_S.rf
  have hl := lv_entry ([.ref a1, .int p1] : List Value) (n := 2) (Nat.le_of_ble_eq_true rfl)
  rw [lg_entry_eq]
  generalize (lg_sl ([.ref a1, .int p1] : List Value) ++ List.replicate (2 - (lg_sl ([.ref a1, .int p1] : List Value)).length) Slot.unset).toArray = ls at hl ⊢
  have hl : lv_has ls 2 [(0, .ref a1), (1, .int p1)] := hl
  unfold pX3_fill at hf
  refine lv_iload_n hx hb dX3_fill_0 rfl (lv_at hl 1 rfl) ?_
  refine lv_if_le (tgt := 24) hx hb dX3_fill_1 (by decide) (fun c1 => ?_) (fun c1 => ?_)
  · have hf := if_t c1 hf
    obtain rfl := so1 hf
    exact ret_v hx hb hr hlocks hK hP hD hS dX3_fill_24
  · have hf := if_f c1 hf
    refine lv_aload_n hx hb dX3_fill_4 rfl (lv_at hl 0 rfl) ?_
    refine lv_aload_n hx hb dX3_fill_5 rfl (lv_at hl 0 rfl) ?_
    refine va_get (D := D) (ci := 3) (v := .int (m1 0)) (C := RX3) (T := TX3) (N := 5) hx hb hts iX3 hown hK hP 0 rfl rfl 0 (by decide) (hts _ aw131) (fun _ h9 => h9) rfl dX3_fill_6 ?_
    refine lv_aload_n hx hb dX3_fill_9 rfl (lv_at hl 0 rfl) ?_
    refine va_get (D := D) (ci := 3) (v := .int (m1 1)) (C := RX3) (T := TX3) (N := 5) hx hb hts iX3 hown hK hP 0 rfl rfl 1 (by decide) (hts _ aw134) (fun _ h9 => h9) rfl dX3_fill_10 ?_
    refine lv_imul hx hb dX3_fill_13 ?_
    refine lv_iload_n hx hb dX3_fill_14 rfl (lv_at hl 1 rfl) ?_
    obtain ⟨h2, hf⟩ := ckn_use hf
    refine lv_idiv hx hb dX3_fill_15 h2 ?_
    refine z_put (ci := 3) (v := .int (((m1 0) * (m1 1)) / p1)) (ty := .int) (C := RX3) (T := TX3) (N := 5) hx hb hts iX3 tyX3 tyX3_ok nmX3 hown hK hP hD hS 0 rfl rfl 1 (by decide) (hts _ aw134) (fun _ h9 => h9) rfl (by decide +kernel) rfl rfl (Nat.le_of_ble_eq_true rfl) dX3_fill_16 (fun (w9 : Rw) => (WKet a1 w9)) (upd m1 1 (((m1 0) * (m1 1)) / p1)) rfl (fun y3 ey3 H locs hP hD hS => ?_)
    have hf := lt_use ey3 hf
    refine lv_aload_n hx hb dX3_fill_19 rfl (lv_at hl 0 rfl) ?_
    refine lv_iload_n hx hb dX3_fill_20 rfl (lv_at hl 1 rfl) ?_
    refine z_put (ci := 3) (v := .int p1) (ty := .int) (C := RX3) (T := TX3) (N := 5) hx hb hts iX3 tyX3 tyX3_ok nmX3 hown hK hP hD hS 0 rfl rfl 0 (by decide) (hts _ aw131) (fun _ h9 => h9) rfl (by decide +kernel) rfl rfl (Nat.le_of_ble_eq_true rfl) dX3_fill_21 (fun (w9 : Rw) => (WKet a1 w9)) (upd y3 0 p1) rfl (fun y4 ey4 H locs hP hD hS => ?_)
    have hf := lt_use ey4 hf
    obtain rfl := so1 hf
    exact ret_v hx hb hr hlocks hK hP hD hS dX3_fill_24
def pX6_heatingMinutes (fu : Nat) (p1 : Int32) (p2 : Int32) (p3 : Int32) : Option Int32 :=
  lt' (((p1 * p2) * p3) : Int32) fun x1 =>
  if x1 ≤ 0 then
    some 1
  else
    some ((x1 + 99) / 100)
set_option maxHeartbeats 4000000 in
set_option maxRecDepth 100000 in
theorem tX6_heatingMinutes (l : Launch) (D : va_G) (z tt : Nat → Nat)   (p1 : Int32) (p2 : Int32) (p3 : Int32) (fu : Nat) (rr : Int32) (hf : pX6_heatingMinutes fu p1 p2 p3 = some rr) : MetI l yX6_heatingMinutes wsX6_heatingMinutes ({ frames := 0, cells := 0, slots := 0, locals := 0 } : Room) D z tt ([.int p1, .int p2, .int p3] : List Value) ([] : va_W) rr ([] : va_W) := by
  intro sz
  refine Met.ofW (cc := cX6_heatingMinutes) (maxL := 4) (ret := (some .int)) (by decide) rfl ?_
  intro p e s m args below meth c s₁ B hml hv
  obtain ⟨rfl, hsz, hP, hK, hD0, hT, hN⟩ := hv
  have hx := B.exec
  have hb := B.bytes
  have hr := B.returns
  have hts : ∀ w ∈ wsA, w.before ([.int p1, .int p2, .int p3] : List Value).toArray s = true := fun w h => atoms_spec (ws := wsX6_heatingMinutes) B.pre w (List.mem_cons_of_mem _ h)
  have hown : s.vm.findClass RX6 = some m.cls := findClass_of_methodNamed B.named
  have hlocks := B.notSynchronized
  subst hsz
  have hD := hD0.self (sz := s.heap.size)
  generalize hAe : va_A ([] : va_W) s.heap.size = A at hD hT ⊢
  have hA : ∀ q : Nat, s.heap.size ≤ q → A q := fun q h => by rw [← hAe]; exact Or.inr h
  have hS : va_S A s.heap s.heap [] := va_S.rf
  have hl := lv_entry ([.int p1, .int p2, .int p3] : List Value) (n := 4) (Nat.le_of_ble_eq_true rfl)
  rw [lg_entry_eq]
  generalize (lg_sl ([.int p1, .int p2, .int p3] : List Value) ++ List.replicate (4 - (lg_sl ([.int p1, .int p2, .int p3] : List Value)).length) Slot.unset).toArray = ls at hl ⊢
  have hl : lv_has ls 4 [(0, .int p1), (1, .int p2), (2, .int p3)] := hl
  unfold pX6_heatingMinutes at hf
  refine lv_iload_n hx hb dX6_heatingMinutes_0 rfl (lv_at hl 0 rfl) ?_
  refine lv_iload_n hx hb dX6_heatingMinutes_1 rfl (lv_at hl 1 rfl) ?_
  refine lv_imul hx hb dX6_heatingMinutes_2 ?_
  refine lv_iload_n hx hb dX6_heatingMinutes_3 rfl (lv_at hl 2 rfl) ?_
  refine lv_imul hx hb dX6_heatingMinutes_4 ?_
  refine lv_topi (fun x1 ex1 => ?_)
  have hf := lt_use ex1 hf
  refine lv_istore_n (lv' := [(3, .int x1), (0, .int p1), (1, .int p2), (2, .int p3)]) hx hb dX6_heatingMinutes_5 rfl hl (by decide) rfl (fun ls hl => ?_)
  refine lv_iload_n hx hb dX6_heatingMinutes_6 rfl (lv_at hl 0 rfl) ?_
  refine lv_if_le (tgt := 20) hx hb dX6_heatingMinutes_7 (by decide) (fun c2 => ?_) (fun c2 => ?_)
  · have hf := if_t c2 hf
    refine lv_iconst (v := 1) hx hb dX6_heatingMinutes_20 (by decide) ?_
    obtain rfl := so1 hf
    exact ret_i hx hb hr hlocks hK hP hD hS dX6_heatingMinutes_21
  · have hf := if_f c2 hf
    refine lv_iload_n hx hb dX6_heatingMinutes_10 rfl (lv_at hl 0 rfl) ?_
    refine lv_bipush (v := 99) hx hb dX6_heatingMinutes_11 (by decide) ?_
    refine lv_iadd hx hb dX6_heatingMinutes_13 ?_
    refine lv_bipush (v := 100) hx hb dX6_heatingMinutes_14 (by decide) ?_
    refine lv_idiv hx hb dX6_heatingMinutes_16 (by decide) ?_
    refine lv_goto (tgt := 21) hx hb dX6_heatingMinutes_17 (by decide) ?_
    obtain rfl := so1 hf
    exact ret_i hx hb hr hlocks hK hP hD hS dX6_heatingMinutes_21
def pX3_putOn (fu : Nat) (m1 : Rw) (p1 : Int32) (p2 : Int32) (p3 : Int32) : Option Rw :=
  bd (pX6_heatingMinutes fu (m1 0) (10 - (m1 1)) p3) fun r1 =>
  lt' (upd m1 3 (p2 + r1)) fun y3 =>
  lt' (upd y3 1 10) fun y4 =>
  lt' (upd y4 2 0) fun y5 =>
  lt' (upd y5 4 p1) fun y6 =>
  some y6
set_option maxHeartbeats 4000000 in
set_option maxRecDepth 100000 in
theorem tX3_putOn (l : Launch) (D : va_G) (z tt : Nat → Nat) (a1 : Nat) (m1 : Rw) (p1 : Int32) (p2 : Int32) (p3 : Int32) (fu : Nat) (m1' : Rw) (hf : pX3_putOn fu m1 p1 p2 p3 = some m1') : MetV l yX3_putOn wsX3_putOn ({ frames := 1, cells := 0, slots := 0, locals := 23 } : Room) D z tt ([.ref a1, .int p1, .int p2, .int p3] : List Value) (WKet a1 m1) (WKet a1 m1') := by
  intro sz
  refine Met.ofW (cc := cX3_putOn) (maxL := 4) (ret := none) (by decide) rfl ?_
  intro p e s m args below meth c s₁ B hml hv
  obtain ⟨rfl, hsz, hP, hK, hD0, hT, hN⟩ := hv
  have hx := B.exec
  have hb := B.bytes
  have hr := B.returns
  have hts : ∀ w ∈ wsA, w.before ([.ref a1, .int p1, .int p2, .int p3] : List Value).toArray s = true := fun w h => atoms_spec (ws := wsX3_putOn) B.pre w (List.mem_cons_of_mem _ h)
  have hown : s.vm.findClass RX3 = some m.cls := findClass_of_methodNamed B.named
  have hlocks := B.notSynchronized
  subst hsz
  have hD := hD0.self (sz := s.heap.size)
  generalize hAe : va_A (WKet a1 m1) s.heap.size = A at hD hT ⊢
  have hA : ∀ q : Nat, s.heap.size ≤ q → A q := fun q h => by rw [← hAe]; exact Or.inr h
  have hS : va_S A s.heap s.heap [] := va_S.rf
  have hl := lv_entry ([.ref a1, .int p1, .int p2, .int p3] : List Value) (n := 4) (Nat.le_of_ble_eq_true rfl)
  rw [lg_entry_eq]
  generalize (lg_sl ([.ref a1, .int p1, .int p2, .int p3] : List Value) ++ List.replicate (4 - (lg_sl ([.ref a1, .int p1, .int p2, .int p3] : List Value)).length) Slot.unset).toArray = ls at hl ⊢
  have hl : lv_has ls 4 [(0, .ref a1), (1, .int p1), (2, .int p2), (3, .int p3)] := hl
  unfold pX3_putOn at hf
  refine lv_aload_n hx hb dX3_putOn_0 rfl (lv_at hl 0 rfl) ?_
  refine lv_iload_n hx hb dX3_putOn_1 rfl (lv_at hl 2 rfl) ?_
  refine lv_aload_n hx hb dX3_putOn_2 rfl (lv_at hl 0 rfl) ?_
  refine va_get (D := D) (ci := 3) (v := .int (m1 0)) (C := RX3) (T := TX3) (N := 5) hx hb hts iX3 hown hK hP 0 rfl rfl 0 (by decide) (hts _ aw131) (fun _ h9 => h9) rfl dX3_putOn_3 ?_
  refine lv_bipush (v := 10) hx hb dX3_putOn_6 (by decide) ?_
  refine lv_aload_n hx hb dX3_putOn_8 rfl (lv_at hl 0 rfl) ?_
  refine va_get (D := D) (ci := 3) (v := .int (m1 1)) (C := RX3) (T := TX3) (N := 5) hx hb hts iX3 hown hK hP 0 rfl rfl 1 (by decide) (hts _ aw134) (fun _ h9 => h9) rfl dX3_putOn_9 ?_
  refine lv_isub hx hb dX3_putOn_12 ?_
  refine lv_iload_n hx hb dX3_putOn_13 rfl (lv_at hl 3 rfl) ?_
  obtain ⟨r1, q2, hf⟩ := bd_use hf
  have hfo : Foc (WKet a1 m1) ([] : va_W) (WKet a1 m1) ([] : va_W) := foc_nil
  refine z_goI (ws1 := (WKet a1 m1)) (va_runSN (As := [.int (m1 0), .int (10 - (m1 1)), .int p3]) (rest := [.int p2, .ref a1]) ⟨hx, hb, hml, hown, hts⟩ (tX6_heatingMinutes l D z tt  (m1 0) (10 - (m1 1)) p3 fu r1 q2 _) ⟨va_cnB 3 hts (gC1 aw494) rfl rfl rfl hN.2.1 (hts _ aw45) (by decide +kernel) ⟨Nat.le_of_ble_eq_true rfl, Nat.le_of_ble_eq_true rfl⟩, (hts _ aw493), trivial⟩ (z_preS hK hP hD hS hA hT hN hfo) rfl rfl hl.1 rfl (lv_room (Nat.le_of_ble_eq_true rfl)) dX3_putOn_14 ⟨Nat.zero_le _, Nat.zero_le _⟩) hP hD hS hA hfo (fun H locs hP hD hS => ?_)
  refine lv_iadd hx hb dX3_putOn_17 ?_
  refine z_put (ci := 3) (v := .int (p2 + r1)) (ty := .int) (C := RX3) (T := TX3) (N := 5) hx hb hts iX3 tyX3 tyX3_ok nmX3 hown hK hP hD hS 0 rfl rfl 3 (by decide) (hts _ aw136) (fun _ h9 => h9) rfl (by decide +kernel) rfl rfl (Nat.le_of_ble_eq_true rfl) dX3_putOn_18 (fun (w9 : Rw) => (WKet a1 w9)) (upd m1 3 (p2 + r1)) rfl (fun y3 ey3 H locs hP hD hS => ?_)
  have hf := lt_use ey3 hf
  refine lv_aload_n hx hb dX3_putOn_21 rfl (lv_at hl 0 rfl) ?_
  refine lv_bipush (v := 10) hx hb dX3_putOn_22 (by decide) ?_
  refine z_put (ci := 3) (v := .int 10) (ty := .int) (C := RX3) (T := TX3) (N := 5) hx hb hts iX3 tyX3 tyX3_ok nmX3 hown hK hP hD hS 0 rfl rfl 1 (by decide) (hts _ aw134) (fun _ h9 => h9) rfl (by decide +kernel) rfl rfl (Nat.le_of_ble_eq_true rfl) dX3_putOn_24 (fun (w9 : Rw) => (WKet a1 w9)) (upd y3 1 10) rfl (fun y4 ey4 H locs hP hD hS => ?_)
  have hf := lt_use ey4 hf
  refine lv_aload_n hx hb dX3_putOn_27 rfl (lv_at hl 0 rfl) ?_
  refine lv_iconst (v := 0) hx hb dX3_putOn_28 (by decide) ?_
  refine z_put (ci := 3) (v := .int 0) (ty := .int) (C := RX3) (T := TX3) (N := 5) hx hb hts iX3 tyX3 tyX3_ok nmX3 hown hK hP hD hS 0 rfl rfl 2 (by decide) (hts _ aw135) (fun _ h9 => h9) rfl (by decide +kernel) rfl rfl (Nat.le_of_ble_eq_true rfl) dX3_putOn_29 (fun (w9 : Rw) => (WKet a1 w9)) (upd y4 2 0) rfl (fun y5 ey5 H locs hP hD hS => ?_)
  have hf := lt_use ey5 hf
  refine lv_aload_n hx hb dX3_putOn_32 rfl (lv_at hl 0 rfl) ?_
  refine lv_iload_n hx hb dX3_putOn_33 rfl (lv_at hl 1 rfl) ?_
  refine z_put (ci := 3) (v := .int p1) (ty := .int) (C := RX3) (T := TX3) (N := 5) hx hb hts iX3 tyX3 tyX3_ok nmX3 hown hK hP hD hS 0 rfl rfl 4 (by decide) (hts _ aw137) (fun _ h9 => h9) rfl (by decide +kernel) rfl rfl (Nat.le_of_ble_eq_true rfl) dX3_putOn_34 (fun (w9 : Rw) => (WKet a1 w9)) (upd y5 4 p1) rfl (fun y6 ey6 H locs hP hD hS => ?_)
  have hf := lt_use ey6 hf
  obtain rfl := so1 hf
  exact ret_v hx hb hr hlocks hK hP hD hS dX3_putOn_37
def pX3_cool (fu : Nat) (m1 : Rw) (p1 : Int32) : Option Rw :=
  lt' (upd m1 2 ((m1 2) + 1)) fun y1 =>
  if (y1 2) < p1 then
    some y1
  else
    lt' (upd y1 1 (imax 0 ((y1 1) - 1))) fun y3 =>
    lt' (upd y3 2 0) fun y4 =>
    some y4
set_option maxHeartbeats 4000000 in
set_option maxRecDepth 100000 in
theorem tX3_cool (l : Launch) (D : va_G) (z tt : Nat → Nat) (a1 : Nat) (m1 : Rw) (p1 : Int32) (fu : Nat) (m1' : Rw) (hf : pX3_cool fu m1 p1 = some m1') : MetV l yX3_cool wsX3_cool ({ frames := 1, cells := 0, slots := 0, locals := 17 } : Room) D z tt ([.ref a1, .int p1] : List Value) (WKet a1 m1) (WKet a1 m1') := by
  intro sz
  refine Met.ofW (cc := cX3_cool) (maxL := 2) (ret := none) (by decide) rfl ?_
  intro p e s m args below meth c s₁ B hml hv
  obtain ⟨rfl, hsz, hP, hK, hD0, hT, hN⟩ := hv
  have hx := B.exec
  have hb := B.bytes
  have hr := B.returns
  have hts : ∀ w ∈ wsA, w.before ([.ref a1, .int p1] : List Value).toArray s = true := fun w h => atoms_spec (ws := wsX3_cool) B.pre w (List.mem_cons_of_mem _ h)
  have hown : s.vm.findClass RX3 = some m.cls := findClass_of_methodNamed B.named
  have hlocks := B.notSynchronized
  subst hsz
  have hD := hD0.self (sz := s.heap.size)
  generalize hAe : va_A (WKet a1 m1) s.heap.size = A at hD hT ⊢
  have hA : ∀ q : Nat, s.heap.size ≤ q → A q := fun q h => by rw [← hAe]; exact Or.inr h
  have hS : va_S A s.heap s.heap [] := va_S.rf
  have hl := lv_entry ([.ref a1, .int p1] : List Value) (n := 2) (Nat.le_of_ble_eq_true rfl)
  rw [lg_entry_eq]
  generalize (lg_sl ([.ref a1, .int p1] : List Value) ++ List.replicate (2 - (lg_sl ([.ref a1, .int p1] : List Value)).length) Slot.unset).toArray = ls at hl ⊢
  have hl : lv_has ls 2 [(0, .ref a1), (1, .int p1)] := hl
  unfold pX3_cool at hf
  refine lv_aload_n hx hb dX3_cool_0 rfl (lv_at hl 0 rfl) ?_
  refine lv_dup hx hb dX3_cool_1 rfl ?_
  refine va_get (D := D) (ci := 3) (v := .int (m1 2)) (C := RX3) (T := TX3) (N := 5) hx hb hts iX3 hown hK hP 0 rfl rfl 2 (by decide) (hts _ aw135) (fun _ h9 => h9) rfl dX3_cool_2 ?_
  refine lv_iconst (v := 1) hx hb dX3_cool_5 (by decide) ?_
  refine lv_iadd hx hb dX3_cool_6 ?_
  refine z_put (ci := 3) (v := .int ((m1 2) + 1)) (ty := .int) (C := RX3) (T := TX3) (N := 5) hx hb hts iX3 tyX3 tyX3_ok nmX3 hown hK hP hD hS 0 rfl rfl 2 (by decide) (hts _ aw135) (fun _ h9 => h9) rfl (by decide +kernel) rfl rfl (Nat.le_of_ble_eq_true rfl) dX3_cool_7 (fun (w9 : Rw) => (WKet a1 w9)) (upd m1 2 ((m1 2) + 1)) rfl (fun y1 ey1 H locs hP hD hS => ?_)
  have hf := lt_use ey1 hf
  refine lv_aload_n hx hb dX3_cool_10 rfl (lv_at hl 0 rfl) ?_
  refine va_get (D := D) (ci := 3) (v := .int (y1 2)) (C := RX3) (T := TX3) (N := 5) hx hb hts iX3 hown hK hP 0 rfl rfl 2 (by decide) (hts _ aw135) (fun _ h9 => h9) rfl dX3_cool_11 ?_
  refine lv_iload_n hx hb dX3_cool_14 rfl (lv_at hl 1 rfl) ?_
  refine lv_icmp_lt (tgt := 37) hx hb dX3_cool_15 (by decide) (fun c2 => ?_) (fun c2 => ?_)
  · have hf := if_t c2 hf
    obtain rfl := so1 hf
    exact ret_v hx hb hr hlocks hK hP hD hS dX3_cool_37
  · have hf := if_f c2 hf
    refine lv_aload_n hx hb dX3_cool_18 rfl (lv_at hl 0 rfl) ?_
    refine lv_iconst (v := 0) hx hb dX3_cool_19 (by decide) ?_
    refine lv_aload_n hx hb dX3_cool_20 rfl (lv_at hl 0 rfl) ?_
    refine va_get (D := D) (ci := 3) (v := .int (y1 1)) (C := RX3) (T := TX3) (N := 5) hx hb hts iX3 hown hK hP 0 rfl rfl 1 (by decide) (hts _ aw134) (fun _ h9 => h9) rfl dX3_cool_21 ?_
    refine lv_iconst (v := 1) hx hb dX3_cool_24 (by decide) ?_
    refine lv_isub hx hb dX3_cool_25 ?_
    refine z_max hx hb (by rw [hml]; exact hl.1.symm) hown (hts _ aw411) (hts _ aw352) (hts _ aw54) (hts _ aw353) (Nat.le_of_ble_eq_true rfl) (Nat.le_of_ble_eq_true rfl) dX3_cool_26 (Nat.zero_le _) (Nat.zero_le _) ?_
    refine z_put (ci := 3) (v := .int (imax 0 ((y1 1) - 1))) (ty := .int) (C := RX3) (T := TX3) (N := 5) hx hb hts iX3 tyX3 tyX3_ok nmX3 hown hK hP hD hS 0 rfl rfl 1 (by decide) (hts _ aw134) (fun _ h9 => h9) rfl (by decide +kernel) rfl rfl (Nat.le_of_ble_eq_true rfl) dX3_cool_29 (fun (w9 : Rw) => (WKet a1 w9)) (upd y1 1 (imax 0 ((y1 1) - 1))) rfl (fun y3 ey3 H locs hP hD hS => ?_)
    have hf := lt_use ey3 hf
    refine lv_aload_n hx hb dX3_cool_32 rfl (lv_at hl 0 rfl) ?_
    refine lv_iconst (v := 0) hx hb dX3_cool_33 (by decide) ?_
    refine z_put (ci := 3) (v := .int 0) (ty := .int) (C := RX3) (T := TX3) (N := 5) hx hb hts iX3 tyX3 tyX3_ok nmX3 hown hK hP hD hS 0 rfl rfl 2 (by decide) (hts _ aw135) (fun _ h9 => h9) rfl (by decide +kernel) rfl rfl (Nat.le_of_ble_eq_true rfl) dX3_cool_34 (fun (w9 : Rw) => (WKet a1 w9)) (upd y3 2 0) rfl (fun y4 ey4 H locs hP hD hS => ?_)
    have hf := lt_use ey4 hf
    obtain rfl := so1 hf
    exact ret_v hx hb hr hlocks hK hP hD hS dX3_cool_37
def pX3_tell (fu : Nat) (m1 : Rw) (p1 : Int32) (p2 : Int32) : Option Int32 :=
  if p1 = 0 then
    some (m1 0)
  else
  if p1 = 1 then
    some (m1 1)
  else
  if p1 = 2 then
    some (m1 2)
  else
  some (imax 0 ((m1 3) - p2))
set_option maxHeartbeats 4000000 in
set_option maxRecDepth 100000 in
theorem tX3_tell (l : Launch) (D : va_G) (z tt : Nat → Nat) (a1 : Nat) (m1 : Rw) (p1 : Int32) (p2 : Int32) (fu : Nat) (rr : Int32) (hf : pX3_tell fu m1 p1 p2 = some rr) : MetI l yX3_tell wsX3_tell ({ frames := 1, cells := 0, slots := 0, locals := 17 } : Room) D z tt ([.ref a1, .int p1, .int p2] : List Value) (WKet a1 m1) rr (WKet a1 m1) := by
  intro sz
  refine Met.ofW (cc := cX3_tell) (maxL := 3) (ret := (some .int)) (by decide) rfl ?_
  intro p e s m args below meth c s₁ B hml hv
  obtain ⟨rfl, hsz, hP, hK, hD0, hT, hN⟩ := hv
  have hx := B.exec
  have hb := B.bytes
  have hr := B.returns
  have hts : ∀ w ∈ wsA, w.before ([.ref a1, .int p1, .int p2] : List Value).toArray s = true := fun w h => atoms_spec (ws := wsX3_tell) B.pre w (List.mem_cons_of_mem _ h)
  have hown : s.vm.findClass RX3 = some m.cls := findClass_of_methodNamed B.named
  have hlocks := B.notSynchronized
  subst hsz
  have hD := hD0.self (sz := s.heap.size)
  generalize hAe : va_A (WKet a1 m1) s.heap.size = A at hD hT ⊢
  have hA : ∀ q : Nat, s.heap.size ≤ q → A q := fun q h => by rw [← hAe]; exact Or.inr h
  have hS : va_S A s.heap s.heap [] := va_S.rf
  have hl := lv_entry ([.ref a1, .int p1, .int p2] : List Value) (n := 3) (Nat.le_of_ble_eq_true rfl)
  rw [lg_entry_eq]
  generalize (lg_sl ([.ref a1, .int p1, .int p2] : List Value) ++ List.replicate (3 - (lg_sl ([.ref a1, .int p1, .int p2] : List Value)).length) Slot.unset).toArray = ls at hl ⊢
  have hl : lv_has ls 3 [(0, .ref a1), (1, .int p1), (2, .int p2)] := hl
  unfold pX3_tell at hf
  refine lv_iload_n hx hb dX3_tell_0 rfl (lv_at hl 1 rfl) ?_
  by_cases c1 : p1 = 0
  · have hf := if_t c1 hf
    refine z_tin (K := 0) hx hb c1 dX3_tell_1 ⟨rfl, by decide, by decide⟩ (tgt := 28) (by decide) ?_
    refine lv_aload_n hx hb dX3_tell_28 rfl (lv_at hl 0 rfl) ?_
    refine va_get (D := D) (ci := 3) (v := .int (m1 0)) (C := RX3) (T := TX3) (N := 5) hx hb hts iX3 hown hK hP 0 rfl rfl 0 (by decide) (hts _ aw131) (fun _ h9 => h9) rfl dX3_tell_29 ?_
    obtain rfl := so1 hf
    exact ret_i hx hb hr hlocks hK hP hD hS dX3_tell_32
  have hf := if_f c1 hf
  by_cases c2 : p1 = 1
  · have hf := if_t c2 hf
    refine z_tin (K := 1) hx hb c2 dX3_tell_1 ⟨rfl, by decide, by decide⟩ (tgt := 33) (by decide) ?_
    refine lv_aload_n hx hb dX3_tell_33 rfl (lv_at hl 0 rfl) ?_
    refine va_get (D := D) (ci := 3) (v := .int (m1 1)) (C := RX3) (T := TX3) (N := 5) hx hb hts iX3 hown hK hP 0 rfl rfl 1 (by decide) (hts _ aw134) (fun _ h9 => h9) rfl dX3_tell_34 ?_
    obtain rfl := so1 hf
    exact ret_i hx hb hr hlocks hK hP hD hS dX3_tell_37
  have hf := if_f c2 hf
  by_cases c3 : p1 = 2
  · have hf := if_t c3 hf
    refine z_tin (K := 2) hx hb c3 dX3_tell_1 ⟨rfl, by decide, by decide⟩ (tgt := 38) (by decide) ?_
    refine lv_aload_n hx hb dX3_tell_38 rfl (lv_at hl 0 rfl) ?_
    refine va_get (D := D) (ci := 3) (v := .int (m1 2)) (C := RX3) (T := TX3) (N := 5) hx hb hts iX3 hown hK hP 0 rfl rfl 2 (by decide) (hts _ aw135) (fun _ h9 => h9) rfl dX3_tell_39 ?_
    obtain rfl := so1 hf
    exact ret_i hx hb hr hlocks hK hP hD hS dX3_tell_42
  have hf := if_f c3 hf
  refine lv_tableOut (tgt := 43) hx hb dX3_tell_1 (by have qc1 := lv_neT c1 (show (0 : Int32).toInt = 0 from by decide); have qc2 := lv_neT c2 (show (1 : Int32).toInt = 1 from by decide); have qc3 := lv_neT c3 (show (2 : Int32).toInt = 2 from by decide); omega) (by decide) ?_
  refine lv_iconst (v := 0) hx hb dX3_tell_43 (by decide) ?_
  refine lv_aload_n hx hb dX3_tell_44 rfl (lv_at hl 0 rfl) ?_
  refine va_get (D := D) (ci := 3) (v := .int (m1 3)) (C := RX3) (T := TX3) (N := 5) hx hb hts iX3 hown hK hP 0 rfl rfl 3 (by decide) (hts _ aw136) (fun _ h9 => h9) rfl dX3_tell_45 ?_
  refine lv_iload_n hx hb dX3_tell_48 rfl (lv_at hl 2 rfl) ?_
  refine lv_isub hx hb dX3_tell_49 ?_
  refine z_max hx hb (by rw [hml]; exact hl.1.symm) hown (hts _ aw411) (hts _ aw352) (hts _ aw54) (hts _ aw353) (Nat.le_of_ble_eq_true rfl) (Nat.le_of_ble_eq_true rfl) dX3_tell_50 (Nat.zero_le _) (Nat.zero_le _) ?_
  obtain rfl := so1 hf
  exact ret_i hx hb hr hlocks hK hP hD hS dX3_tell_53
def pJ9_floorMod_7cf53 (fu : Nat) (p1 : Int32) (p2 : Int32) : Option Int32 :=
  ckn p2 <|
  lt' ((p1 - p1 / p2 * p2) : Int32) fun x2 =>
  if 0 ≤ (p1 ^^^ p2) then
    some x2
  else
    if x2 = 0 then
      some x2
    else
      some (x2 + p2)
set_option maxHeartbeats 4000000 in
set_option maxRecDepth 100000 in
theorem tJ9_floorMod_7cf53 (l : Launch) (D : va_G) (z tt : Nat → Nat)   (p1 : Int32) (p2 : Int32) (fu : Nat) (rr : Int32) (hf : pJ9_floorMod_7cf53 fu p1 p2 = some rr) : MetI l yJ9_floorMod_7cf53 wsJ9_floorMod_7cf53 ({ frames := 0, cells := 0, slots := 0, locals := 0 } : Room) D z tt ([.int p1, .int p2] : List Value) ([] : va_W) rr ([] : va_W) := by
  intro sz
  refine Met.ofWF (cc := cJ9_floorMod_7cf53) (maxL := 3) (ret := (some .int)) (by decide +kernel) rfl ?_
  intro p e s m args below meth c s₁ B hml hv
  obtain ⟨rfl, hsz, hP, hK, hD0, hT, hN⟩ := hv
  have hx := B.exec
  have hb := B.bytes
  have hr := B.returns
  have hts : ∀ w ∈ wsA, w.before ([.int p1, .int p2] : List Value).toArray s = true := fun w h => atoms_spec (ws := wsJ9_floorMod_7cf53) B.pre w (List.mem_cons_of_mem _ h)
  have hown : s.vm.findClass RJ9 = some m.cls := findClass_of_methodNamed B.named
  have hlocks := B.notSynchronized
  subst hsz
  have hD := hD0.self (sz := s.heap.size)
  generalize hAe : va_A ([] : va_W) s.heap.size = A at hD hT ⊢
  have hA : ∀ q : Nat, s.heap.size ≤ q → A q := fun q h => by rw [← hAe]; exact Or.inr h
  have hS : va_S A s.heap s.heap [] := va_S.rf
  have hl := lv_entry ([.int p1, .int p2] : List Value) (n := 3) (Nat.le_of_ble_eq_true rfl)
  rw [lg_entry_eq]
  generalize (lg_sl ([.int p1, .int p2] : List Value) ++ List.replicate (3 - (lg_sl ([.int p1, .int p2] : List Value)).length) Slot.unset).toArray = ls at hl ⊢
  have hl : lv_has ls 3 [(0, .int p1), (1, .int p2)] := hl
  unfold pJ9_floorMod_7cf53 at hf
  refine lv_iload_n hx hb dJ9_floorMod_7cf53_0 rfl (lv_at hl 0 rfl) ?_
  refine lv_iload_n hx hb dJ9_floorMod_7cf53_1 rfl (lv_at hl 1 rfl) ?_
  obtain ⟨h1, hf⟩ := ckn_use hf
  refine lv_irem hx hb dJ9_floorMod_7cf53_2 h1 ?_
  refine lv_topi (fun x2 ex2 => ?_)
  have hf := lt_use ex2 hf
  refine lv_istore_n (lv' := [(2, .int x2), (0, .int p1), (1, .int p2)]) hx hb dJ9_floorMod_7cf53_3 rfl hl (by decide) rfl (fun ls hl => ?_)
  refine lv_iload_n hx hb dJ9_floorMod_7cf53_4 rfl (lv_at hl 1 rfl) ?_
  refine lv_iload_n hx hb dJ9_floorMod_7cf53_5 rfl (lv_at hl 2 rfl) ?_
  refine lv_ixor hx hb dJ9_floorMod_7cf53_6 ?_
  refine lv_if_ge (tgt := 18) hx hb dJ9_floorMod_7cf53_7 (by decide) (fun c3 => ?_) (fun c3 => ?_)
  · have hf := if_t c3 hf
    refine lv_iload_n hx hb dJ9_floorMod_7cf53_18 rfl (lv_at hl 0 rfl) ?_
    obtain rfl := so1 hf
    exact ret_i hx hb hr hlocks hK hP hD hS dJ9_floorMod_7cf53_19
  · have hf := if_f c3 hf
    refine lv_iload_n hx hb dJ9_floorMod_7cf53_10 rfl (lv_at hl 0 rfl) ?_
    refine lv_if_eq (tgt := 18) hx hb dJ9_floorMod_7cf53_11 (by decide) (fun c4 => ?_) (fun c4 => ?_)
    · have hf := if_t c4 hf
      refine lv_iload_n hx hb dJ9_floorMod_7cf53_18 rfl (lv_at hl 0 rfl) ?_
      obtain rfl := so1 hf
      exact ret_i hx hb hr hlocks hK hP hD hS dJ9_floorMod_7cf53_19
    · have hf := if_f c4 hf
      refine lv_iload_n hx hb dJ9_floorMod_7cf53_14 rfl (lv_at hl 0 rfl) ?_
      refine lv_iload_n hx hb dJ9_floorMod_7cf53_15 rfl (lv_at hl 2 rfl) ?_
      refine lv_iadd hx hb dJ9_floorMod_7cf53_16 ?_
      obtain rfl := so1 hf
      exact ret_i hx hb hr hlocks hK hP hD hS dJ9_floorMod_7cf53_17
