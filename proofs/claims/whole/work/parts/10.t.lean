def pX1_become (fu : Nat) (m1 : Rw) (p1 : Int32) (p2 : Int32) : Option Rw :=
  lt' (upd m1 0 p1) fun y1 =>
  lt' (upd y1 1 p2) fun y2 =>
  some y2
set_option maxHeartbeats 4000000 in
set_option maxRecDepth 100000 in
theorem tX1_become (l : Launch) (D : va_G) (z tt : Nat → Nat) (a1 : Nat) (m1 : Rw) (p1 : Int32) (p2 : Int32) (fu : Nat) (m1' : Rw) (hf : pX1_become fu m1 p1 p2 = some m1') : MetV l yX1_become wsX1_become ({ frames := 0, cells := 0, slots := 0, locals := 0 } : Room) D z tt ([.ref a1, .int p1, .int p2] : List Value) (WCom a1 m1) (WCom a1 m1') := by
  intro sz
  refine Met.ofW (cc := cX1_become) (maxL := 3) (ret := none) (by decide) rfl ?_
  intro p e s m args below meth c s₁ B hml hv
  obtain ⟨rfl, hsz, hP, hK, hD0, hT, hN⟩ := hv
  have hx := B.exec
  have hb := B.bytes
  have hr := B.returns
  have hts := atoms_spec (ws := wsX1_become) B.pre
  have hown : s.vm.findClass RX1 = some m.cls := findClass_of_methodNamed B.named
  have hlocks := B.notSynchronized
  subst hsz
  have hD := hD0.self (sz := s.heap.size)
  generalize hAe : va_A (WCom a1 m1) s.heap.size = A at hD hT ⊢
  have hA : ∀ q : Nat, s.heap.size ≤ q → A q := fun q h => by rw [← hAe]; exact Or.inr h
  have hS : va_S A s.heap s.heap [] := va_S.rf
  have hl := lv_entry ([.ref a1, .int p1, .int p2] : List Value) (n := 3) (Nat.le_of_ble_eq_true rfl)
  rw [lg_entry_eq]
  generalize (lg_sl ([.ref a1, .int p1, .int p2] : List Value) ++ List.replicate (3 - (lg_sl ([.ref a1, .int p1, .int p2] : List Value)).length) Slot.unset).toArray = ls at hl ⊢
  have hl : lv_has ls 3 [(0, .ref a1), (1, .int p1), (2, .int p2)] := hl
  have iX1 : ∀ w ∈ wsX10, w ∈ wsX1_become := by decide +kernel
  unfold pX1_become at hf
  refine lv_aload_n hx hb dX1_become_0 rfl (lv_at hl 0 rfl) ?_
  refine lv_iload_n hx hb dX1_become_1 rfl (lv_at hl 1 rfl) ?_
  refine z_put (ci := 1) (v := .int p1) (ty := .int) (C := RX1) (T := TX1) (N := 7) hx hb hts iX1 tyX1 tyX1_ok nmX1 hown hK hP hD hS 0 rfl rfl 0 (by decide) (hts (.fieldLink RX1 9 "FilledForOne$Comer" "kind" "I") (by decide +kernel)) (fun _ h9 => h9) rfl (by decide +kernel) rfl rfl (Nat.le_of_ble_eq_true rfl) dX1_become_2 (fun (w9 : Rw) => (WCom a1 w9)) (upd m1 0 p1) rfl (fun y1 ey1 H locs hP hD hS => ?_)
  have hf := lt_use ey1 hf
  refine lv_aload_n hx hb dX1_become_5 rfl (lv_at hl 0 rfl) ?_
  refine lv_iload_n hx hb dX1_become_6 rfl (lv_at hl 2 rfl) ?_
  refine z_put (ci := 1) (v := .int p2) (ty := .int) (C := RX1) (T := TX1) (N := 7) hx hb hts iX1 tyX1 tyX1_ok nmX1 hown hK hP hD hS 0 rfl rfl 1 (by decide) (hts (.fieldLink RX1 15 "FilledForOne$Comer" "figure" "I") (by decide +kernel)) (fun _ h9 => h9) rfl (by decide +kernel) rfl rfl (Nat.le_of_ble_eq_true rfl) dX1_become_7 (fun (w9 : Rw) => (WCom a1 w9)) (upd y1 1 p2) rfl (fun y2 ey2 H locs hP hD hS => ?_)
  have hf := lt_use ey2 hf
  cases hf
  exact ret_v hx hb hr hlocks hK hP hD hS dX1_become_10
def pX1_waited (fu : Nat) (m1 : Rw) : Option Int32 :=
  if (m1 5) = 2 then
    some ((m1 6) - (m1 2))
  else
    if (m1 5) = 3 then
      some (m1 4)
    else
      some 0
set_option maxHeartbeats 4000000 in
set_option maxRecDepth 100000 in
theorem tX1_waited (l : Launch) (D : va_G) (z tt : Nat → Nat) (a1 : Nat) (m1 : Rw)  (fu : Nat) (rr : Int32) (hf : pX1_waited fu m1 = some rr) : MetI l yX1_waited wsX1_waited ({ frames := 0, cells := 0, slots := 0, locals := 0 } : Room) D z tt ([.ref a1] : List Value) (WCom a1 m1) rr (WCom a1 m1) := by
  intro sz
  refine Met.ofW (cc := cX1_waited) (maxL := 1) (ret := (some .int)) (by decide) rfl ?_
  intro p e s m args below meth c s₁ B hml hv
  obtain ⟨rfl, hsz, hP, hK, hD0, hT, hN⟩ := hv
  have hx := B.exec
  have hb := B.bytes
  have hr := B.returns
  have hts := atoms_spec (ws := wsX1_waited) B.pre
  have hown : s.vm.findClass RX1 = some m.cls := findClass_of_methodNamed B.named
  have hlocks := B.notSynchronized
  subst hsz
  have hD := hD0.self (sz := s.heap.size)
  generalize hAe : va_A (WCom a1 m1) s.heap.size = A at hD hT ⊢
  have hA : ∀ q : Nat, s.heap.size ≤ q → A q := fun q h => by rw [← hAe]; exact Or.inr h
  have hS : va_S A s.heap s.heap [] := va_S.rf
  have hl := lv_entry ([.ref a1] : List Value) (n := 1) (Nat.le_of_ble_eq_true rfl)
  rw [lg_entry_eq]
  generalize (lg_sl ([.ref a1] : List Value) ++ List.replicate (1 - (lg_sl ([.ref a1] : List Value)).length) Slot.unset).toArray = ls at hl ⊢
  have hl : lv_has ls 1 [(0, .ref a1)] := hl
  have iX1 : ∀ w ∈ wsX10, w ∈ wsX1_waited := by decide +kernel
  unfold pX1_waited at hf
  refine lv_aload_n hx hb dX1_waited_0 rfl (lv_at hl 0 rfl) ?_
  refine va_get (D := D) (ci := 1) (v := .int (m1 5)) (C := RX1) (T := TX1) (N := 7) hx hb hts iX1 hown hK hP 0 rfl rfl 5 (by decide) (hts (.fieldLink RX1 31 "FilledForOne$Comer" "state" "I") (by decide +kernel)) (fun _ h9 => h9) rfl dX1_waited_1 ?_
  refine lv_iconst (v := 2) hx hb dX1_waited_4 (by decide) ?_
  refine lv_icmp_ne (tgt := 18) hx hb dX1_waited_5 (by decide) (fun c1 => ?_) (fun c1 => ?_)
  · have hf := if_f c1 hf
    refine lv_aload_n hx hb dX1_waited_18 rfl (lv_at hl 0 rfl) ?_
    refine va_get (D := D) (ci := 1) (v := .int (m1 5)) (C := RX1) (T := TX1) (N := 7) hx hb hts iX1 hown hK hP 0 rfl rfl 5 (by decide) (hts (.fieldLink RX1 31 "FilledForOne$Comer" "state" "I") (by decide +kernel)) (fun _ h9 => h9) rfl dX1_waited_19 ?_
    refine lv_iconst (v := 3) hx hb dX1_waited_22 (by decide) ?_
    refine lv_icmp_ne (tgt := 33) hx hb dX1_waited_23 (by decide) (fun c2 => ?_) (fun c2 => ?_)
    · have hf := if_f c2 hf
      refine lv_iconst (v := 0) hx hb dX1_waited_33 (by decide) ?_
      cases hf
      exact ret_i hx hb hr hlocks hK hP hD hS dX1_waited_34
    · have hf := if_t c2 hf
      refine lv_aload_n hx hb dX1_waited_26 rfl (lv_at hl 0 rfl) ?_
      refine va_get (D := D) (ci := 1) (v := .int (m1 4)) (C := RX1) (T := TX1) (N := 7) hx hb hts iX1 hown hK hP 0 rfl rfl 4 (by decide) (hts (.fieldLink RX1 28 "FilledForOne$Comer" "patience" "I") (by decide +kernel)) (fun _ h9 => h9) rfl dX1_waited_27 ?_
      refine lv_goto (tgt := 34) hx hb dX1_waited_30 (by decide) ?_
      cases hf
      exact ret_i hx hb hr hlocks hK hP hD hS dX1_waited_34
  · have hf := if_t c1 hf
    refine lv_aload_n hx hb dX1_waited_8 rfl (lv_at hl 0 rfl) ?_
    refine va_get (D := D) (ci := 1) (v := .int (m1 6)) (C := RX1) (T := TX1) (N := 7) hx hb hts iX1 hown hK hP 0 rfl rfl 6 (by decide) (hts (.fieldLink RX1 34 "FilledForOne$Comer" "servedAt" "I") (by decide +kernel)) (fun _ h9 => h9) rfl dX1_waited_9 ?_
    refine lv_aload_n hx hb dX1_waited_12 rfl (lv_at hl 0 rfl) ?_
    refine va_get (D := D) (ci := 1) (v := .int (m1 2)) (C := RX1) (T := TX1) (N := 7) hx hb hts iX1 hown hK hP 0 rfl rfl 2 (by decide) (hts (.fieldLink RX1 22 "FilledForOne$Comer" "minute" "I") (by decide +kernel)) (fun _ h9 => h9) rfl dX1_waited_13 ?_
    refine lv_isub hx hb dX1_waited_16 ?_
    cases hf
    exact ret_i hx hb hr hlocks hK hP hD hS dX1_waited_17
def pX1_tell (fu : Nat) (m1 : Rw) (p1 : Int32) : Option Int32 :=
  if p1 = 0 then
    some (m1 0)
  else
  if p1 = 1 then
    some (m1 1)
  else
  if p1 = 2 then
    some (m1 2)
  else
  if p1 = 3 then
    some (m1 3)
  else
  if p1 = 4 then
    some (m1 4)
  else
  if p1 = 5 then
    some (m1 5)
  else
  bd (pX1_waited fu m1) fun r7 =>
  some r7
set_option maxHeartbeats 4000000 in
set_option maxRecDepth 100000 in
theorem tX1_tell (l : Launch) (D : va_G) (z tt : Nat → Nat) (a1 : Nat) (m1 : Rw) (p1 : Int32) (fu : Nat) (rr : Int32) (hf : pX1_tell fu m1 p1 = some rr) : MetI l yX1_tell wsX1_tell ({ frames := 1, cells := 0, slots := 0, locals := 20 } : Room) D z tt ([.ref a1, .int p1] : List Value) (WCom a1 m1) rr (WCom a1 m1) := by
  intro sz
  refine Met.ofW (cc := cX1_tell) (maxL := 2) (ret := (some .int)) (by decide) rfl ?_
  intro p e s m args below meth c s₁ B hml hv
  obtain ⟨rfl, hsz, hP, hK, hD0, hT, hN⟩ := hv
  have hx := B.exec
  have hb := B.bytes
  have hr := B.returns
  have hts := atoms_spec (ws := wsX1_tell) B.pre
  have hown : s.vm.findClass RX1 = some m.cls := findClass_of_methodNamed B.named
  have hlocks := B.notSynchronized
  subst hsz
  have hD := hD0.self (sz := s.heap.size)
  generalize hAe : va_A (WCom a1 m1) s.heap.size = A at hD hT ⊢
  have hA : ∀ q : Nat, s.heap.size ≤ q → A q := fun q h => by rw [← hAe]; exact Or.inr h
  have hS : va_S A s.heap s.heap [] := va_S.rf
  have hl := lv_entry ([.ref a1, .int p1] : List Value) (n := 2) (Nat.le_of_ble_eq_true rfl)
  rw [lg_entry_eq]
  generalize (lg_sl ([.ref a1, .int p1] : List Value) ++ List.replicate (2 - (lg_sl ([.ref a1, .int p1] : List Value)).length) Slot.unset).toArray = ls at hl ⊢
  have hl : lv_has ls 2 [(0, .ref a1), (1, .int p1)] := hl
  have iX1 : ∀ w ∈ wsX10, w ∈ wsX1_tell := by decide +kernel
  unfold pX1_tell at hf
  refine lv_iload_n hx hb dX1_tell_0 rfl (lv_at hl 1 rfl) ?_
  by_cases c1 : p1 = 0
  · have hf := if_t c1 hf
    refine z_tin (K := 0) hx hb c1 dX1_tell_1 ⟨rfl, by decide, by decide⟩ (tgt := 40) (by decide) ?_
    refine lv_aload_n hx hb dX1_tell_40 rfl (lv_at hl 0 rfl) ?_
    refine va_get (D := D) (ci := 1) (v := .int (m1 0)) (C := RX1) (T := TX1) (N := 7) hx hb hts iX1 hown hK hP 0 rfl rfl 0 (by decide) (hts (.fieldLink RX1 9 "FilledForOne$Comer" "kind" "I") (by decide +kernel)) (fun _ h9 => h9) rfl dX1_tell_41 ?_
    cases hf
    exact ret_i hx hb hr hlocks hK hP hD hS dX1_tell_44
  have hf := if_f c1 hf
  by_cases c2 : p1 = 1
  · have hf := if_t c2 hf
    refine z_tin (K := 1) hx hb c2 dX1_tell_1 ⟨rfl, by decide, by decide⟩ (tgt := 45) (by decide) ?_
    refine lv_aload_n hx hb dX1_tell_45 rfl (lv_at hl 0 rfl) ?_
    refine va_get (D := D) (ci := 1) (v := .int (m1 1)) (C := RX1) (T := TX1) (N := 7) hx hb hts iX1 hown hK hP 0 rfl rfl 1 (by decide) (hts (.fieldLink RX1 15 "FilledForOne$Comer" "figure" "I") (by decide +kernel)) (fun _ h9 => h9) rfl dX1_tell_46 ?_
    cases hf
    exact ret_i hx hb hr hlocks hK hP hD hS dX1_tell_49
  have hf := if_f c2 hf
  by_cases c3 : p1 = 2
  · have hf := if_t c3 hf
    refine z_tin (K := 2) hx hb c3 dX1_tell_1 ⟨rfl, by decide, by decide⟩ (tgt := 50) (by decide) ?_
    refine lv_aload_n hx hb dX1_tell_50 rfl (lv_at hl 0 rfl) ?_
    refine va_get (D := D) (ci := 1) (v := .int (m1 2)) (C := RX1) (T := TX1) (N := 7) hx hb hts iX1 hown hK hP 0 rfl rfl 2 (by decide) (hts (.fieldLink RX1 22 "FilledForOne$Comer" "minute" "I") (by decide +kernel)) (fun _ h9 => h9) rfl dX1_tell_51 ?_
    cases hf
    exact ret_i hx hb hr hlocks hK hP hD hS dX1_tell_54
  have hf := if_f c3 hf
  by_cases c4 : p1 = 3
  · have hf := if_t c4 hf
    refine z_tin (K := 3) hx hb c4 dX1_tell_1 ⟨rfl, by decide, by decide⟩ (tgt := 55) (by decide) ?_
    refine lv_aload_n hx hb dX1_tell_55 rfl (lv_at hl 0 rfl) ?_
    refine va_get (D := D) (ci := 1) (v := .int (m1 3)) (C := RX1) (T := TX1) (N := 7) hx hb hts iX1 hown hK hP 0 rfl rfl 3 (by decide) (hts (.fieldLink RX1 25 "FilledForOne$Comer" "wants" "I") (by decide +kernel)) (fun _ h9 => h9) rfl dX1_tell_56 ?_
    cases hf
    exact ret_i hx hb hr hlocks hK hP hD hS dX1_tell_59
  have hf := if_f c4 hf
  by_cases c5 : p1 = 4
  · have hf := if_t c5 hf
    refine z_tin (K := 4) hx hb c5 dX1_tell_1 ⟨rfl, by decide, by decide⟩ (tgt := 60) (by decide) ?_
    refine lv_aload_n hx hb dX1_tell_60 rfl (lv_at hl 0 rfl) ?_
    refine va_get (D := D) (ci := 1) (v := .int (m1 4)) (C := RX1) (T := TX1) (N := 7) hx hb hts iX1 hown hK hP 0 rfl rfl 4 (by decide) (hts (.fieldLink RX1 28 "FilledForOne$Comer" "patience" "I") (by decide +kernel)) (fun _ h9 => h9) rfl dX1_tell_61 ?_
    cases hf
    exact ret_i hx hb hr hlocks hK hP hD hS dX1_tell_64
  have hf := if_f c5 hf
  by_cases c6 : p1 = 5
  · have hf := if_t c6 hf
    refine z_tin (K := 5) hx hb c6 dX1_tell_1 ⟨rfl, by decide, by decide⟩ (tgt := 65) (by decide) ?_
    refine lv_aload_n hx hb dX1_tell_65 rfl (lv_at hl 0 rfl) ?_
    refine va_get (D := D) (ci := 1) (v := .int (m1 5)) (C := RX1) (T := TX1) (N := 7) hx hb hts iX1 hown hK hP 0 rfl rfl 5 (by decide) (hts (.fieldLink RX1 31 "FilledForOne$Comer" "state" "I") (by decide +kernel)) (fun _ h9 => h9) rfl dX1_tell_66 ?_
    cases hf
    exact ret_i hx hb hr hlocks hK hP hD hS dX1_tell_69
  have hf := if_f c6 hf
  refine lv_tableOut (tgt := 70) hx hb dX1_tell_1 (by have qc1 := lv_neT c1 (show (0 : Int32).toInt = 0 from by decide); have qc2 := lv_neT c2 (show (1 : Int32).toInt = 1 from by decide); have qc3 := lv_neT c3 (show (2 : Int32).toInt = 2 from by decide); have qc4 := lv_neT c4 (show (3 : Int32).toInt = 3 from by decide); have qc5 := lv_neT c5 (show (4 : Int32).toInt = 4 from by decide); have qc6 := lv_neT c6 (show (5 : Int32).toInt = 5 from by decide); omega) (by decide) ?_
  refine lv_aload_n hx hb dX1_tell_70 rfl (lv_at hl 0 rfl) ?_
  obtain ⟨r7, q8, hf⟩ := bd_use hf
  refine z_goI (va_runV (As := []) (rest := []) ⟨hx, hb, hml, hown, hts⟩ (tX1_waited l D z tt a1 m1  fu r7 q8 _) (cwV 0 hts gX1_tell_X1_waited rfl rfl rfl (by decide +kernel) ⟨Nat.le_of_ble_eq_true rfl, Nat.le_of_ble_eq_true rfl⟩) (z_preV hK hP hD hS hA hT hN [0] rfl rfl (va_recv hK hP (ci := 1) (q0 := 0) rfl rfl)) rfl rfl hl.1 rfl (lv_room (Nat.le_of_ble_eq_true rfl)) dX1_tell_71 ⟨Nat.zero_le _, Nat.zero_le _⟩) hP hD hS hA [0] rfl rfl rfl (ws1 := (WCom a1 m1)) rfl (fun H locs hP hD hS => ?_)
  cases hf
  exact ret_i hx hb hr hlocks hK hP hD hS dX1_tell_74
def pX1_copy (fu : Nat) (m1 : Rw) (m2 : Rw) : Option Rw :=
  bd (pX1_become fu m1 (m2 0) (m2 1)) fun y1 =>
  lt' (upd y1 2 (m2 2)) fun y3 =>
  lt' (upd y3 3 (m2 3)) fun y4 =>
  lt' (upd y4 4 (m2 4)) fun y5 =>
  lt' (upd y5 5 (m2 5)) fun y6 =>
  lt' (upd y6 6 (m2 6)) fun y7 =>
  some y7
set_option maxHeartbeats 4000000 in
set_option maxRecDepth 100000 in
theorem tX1_copy (l : Launch) (D : va_G) (z tt : Nat → Nat) (a1 : Nat) (a2 : Nat) (m1 : Rw) (m2 : Rw)  (fu : Nat) (m1' : Rw) (hf : pX1_copy fu m1 m2 = some m1') : MetV l yX1_copy wsX1_copy ({ frames := 1, cells := 0, slots := 0, locals := 22 } : Room) D z tt ([.ref a1, .ref a2] : List Value) (WCom a1 m1 ++ (WCom a2 m2)) (WCom a1 m1' ++ (WCom a2 m2)) := by
  intro sz
  refine Met.ofW (cc := cX1_copy) (maxL := 2) (ret := none) (by decide) rfl ?_
  intro p e s m args below meth c s₁ B hml hv
  obtain ⟨rfl, hsz, hP, hK, hD0, hT, hN⟩ := hv
  have hx := B.exec
  have hb := B.bytes
  have hr := B.returns
  have hts := atoms_spec (ws := wsX1_copy) B.pre
  have hown : s.vm.findClass RX1 = some m.cls := findClass_of_methodNamed B.named
  have hlocks := B.notSynchronized
  subst hsz
  have hD := hD0.self (sz := s.heap.size)
  generalize hAe : va_A (WCom a1 m1 ++ (WCom a2 m2)) s.heap.size = A at hD hT ⊢
  have hA : ∀ q : Nat, s.heap.size ≤ q → A q := fun q h => by rw [← hAe]; exact Or.inr h
  have hS : va_S A s.heap s.heap [] := va_S.rf
  have hl := lv_entry ([.ref a1, .ref a2] : List Value) (n := 2) (Nat.le_of_ble_eq_true rfl)
  rw [lg_entry_eq]
  generalize (lg_sl ([.ref a1, .ref a2] : List Value) ++ List.replicate (2 - (lg_sl ([.ref a1, .ref a2] : List Value)).length) Slot.unset).toArray = ls at hl ⊢
  have hl : lv_has ls 2 [(0, .ref a1), (1, .ref a2)] := hl
  have iX1 : ∀ w ∈ wsX10, w ∈ wsX1_copy := by decide +kernel
  unfold pX1_copy at hf
  refine lv_aload_n hx hb dX1_copy_0 rfl (lv_at hl 0 rfl) ?_
  refine lv_aload_n hx hb dX1_copy_1 rfl (lv_at hl 1 rfl) ?_
  refine va_get (D := D) (ci := 1) (v := .int (m2 0)) (C := RX1) (T := TX1) (N := 7) hx hb hts iX1 hown hK hP 1 rfl rfl 0 (by decide) (hts (.fieldLink RX1 9 "FilledForOne$Comer" "kind" "I") (by decide +kernel)) (fun _ h9 => h9) rfl dX1_copy_2 ?_
  refine lv_aload_n hx hb dX1_copy_5 rfl (lv_at hl 1 rfl) ?_
  refine va_get (D := D) (ci := 1) (v := .int (m2 1)) (C := RX1) (T := TX1) (N := 7) hx hb hts iX1 hown hK hP 1 rfl rfl 1 (by decide) (hts (.fieldLink RX1 15 "FilledForOne$Comer" "figure" "I") (by decide +kernel)) (fun _ h9 => h9) rfl dX1_copy_6 ?_
  obtain ⟨y1, q2, hf⟩ := bd_use hf
  refine z_goV (va_runV (As := [.int (m2 0), .int (m2 1)]) (rest := []) ⟨hx, hb, hml, hown, hts⟩ (tX1_become l D z tt a1 m1 (m2 0) (m2 1) fu y1 q2 _) (cwV 2 hts gX1_copy_X1_become rfl rfl rfl (by decide +kernel) ⟨Nat.le_of_ble_eq_true rfl, Nat.le_of_ble_eq_true rfl⟩) (z_preV hK hP hD hS hA hT hN [0] rfl rfl (va_recv hK hP (ci := 1) (q0 := 0) rfl rfl)) rfl rfl hl.1 rfl (lv_room (Nat.le_of_ble_eq_true rfl)) dX1_copy_9 ⟨Nat.zero_le _, Nat.zero_le _⟩) hP hD hS hA [0] rfl rfl rfl (ws1 := (WCom a1 y1 ++ (WCom a2 m2))) rfl (fun H locs hP hD hS => ?_)
  refine lv_aload_n hx hb dX1_copy_12 rfl (lv_at hl 0 rfl) ?_
  refine lv_aload_n hx hb dX1_copy_13 rfl (lv_at hl 1 rfl) ?_
  refine va_get (D := D) (ci := 1) (v := .int (m2 2)) (C := RX1) (T := TX1) (N := 7) hx hb hts iX1 hown hK hP 1 rfl rfl 2 (by decide) (hts (.fieldLink RX1 22 "FilledForOne$Comer" "minute" "I") (by decide +kernel)) (fun _ h9 => h9) rfl dX1_copy_14 ?_
  refine z_put (ci := 1) (v := .int (m2 2)) (ty := .int) (C := RX1) (T := TX1) (N := 7) hx hb hts iX1 tyX1 tyX1_ok nmX1 hown hK hP hD hS 0 rfl rfl 2 (by decide) (hts (.fieldLink RX1 22 "FilledForOne$Comer" "minute" "I") (by decide +kernel)) (fun _ h9 => h9) rfl (by decide +kernel) rfl rfl (Nat.le_of_ble_eq_true rfl) dX1_copy_17 (fun (w9 : Rw) => (WCom a1 w9 ++ (WCom a2 m2))) (upd y1 2 (m2 2)) rfl (fun y3 ey3 H locs hP hD hS => ?_)
  have hf := lt_use ey3 hf
  refine lv_aload_n hx hb dX1_copy_20 rfl (lv_at hl 0 rfl) ?_
  refine lv_aload_n hx hb dX1_copy_21 rfl (lv_at hl 1 rfl) ?_
  refine va_get (D := D) (ci := 1) (v := .int (m2 3)) (C := RX1) (T := TX1) (N := 7) hx hb hts iX1 hown hK hP 1 rfl rfl 3 (by decide) (hts (.fieldLink RX1 25 "FilledForOne$Comer" "wants" "I") (by decide +kernel)) (fun _ h9 => h9) rfl dX1_copy_22 ?_
  refine z_put (ci := 1) (v := .int (m2 3)) (ty := .int) (C := RX1) (T := TX1) (N := 7) hx hb hts iX1 tyX1 tyX1_ok nmX1 hown hK hP hD hS 0 rfl rfl 3 (by decide) (hts (.fieldLink RX1 25 "FilledForOne$Comer" "wants" "I") (by decide +kernel)) (fun _ h9 => h9) rfl (by decide +kernel) rfl rfl (Nat.le_of_ble_eq_true rfl) dX1_copy_25 (fun (w9 : Rw) => (WCom a1 w9 ++ (WCom a2 m2))) (upd y3 3 (m2 3)) rfl (fun y4 ey4 H locs hP hD hS => ?_)
  have hf := lt_use ey4 hf
  refine lv_aload_n hx hb dX1_copy_28 rfl (lv_at hl 0 rfl) ?_
  refine lv_aload_n hx hb dX1_copy_29 rfl (lv_at hl 1 rfl) ?_
  refine va_get (D := D) (ci := 1) (v := .int (m2 4)) (C := RX1) (T := TX1) (N := 7) hx hb hts iX1 hown hK hP 1 rfl rfl 4 (by decide) (hts (.fieldLink RX1 28 "FilledForOne$Comer" "patience" "I") (by decide +kernel)) (fun _ h9 => h9) rfl dX1_copy_30 ?_
  refine z_put (ci := 1) (v := .int (m2 4)) (ty := .int) (C := RX1) (T := TX1) (N := 7) hx hb hts iX1 tyX1 tyX1_ok nmX1 hown hK hP hD hS 0 rfl rfl 4 (by decide) (hts (.fieldLink RX1 28 "FilledForOne$Comer" "patience" "I") (by decide +kernel)) (fun _ h9 => h9) rfl (by decide +kernel) rfl rfl (Nat.le_of_ble_eq_true rfl) dX1_copy_33 (fun (w9 : Rw) => (WCom a1 w9 ++ (WCom a2 m2))) (upd y4 4 (m2 4)) rfl (fun y5 ey5 H locs hP hD hS => ?_)
  have hf := lt_use ey5 hf
  refine lv_aload_n hx hb dX1_copy_36 rfl (lv_at hl 0 rfl) ?_
  refine lv_aload_n hx hb dX1_copy_37 rfl (lv_at hl 1 rfl) ?_
  refine va_get (D := D) (ci := 1) (v := .int (m2 5)) (C := RX1) (T := TX1) (N := 7) hx hb hts iX1 hown hK hP 1 rfl rfl 5 (by decide) (hts (.fieldLink RX1 31 "FilledForOne$Comer" "state" "I") (by decide +kernel)) (fun _ h9 => h9) rfl dX1_copy_38 ?_
  refine z_put (ci := 1) (v := .int (m2 5)) (ty := .int) (C := RX1) (T := TX1) (N := 7) hx hb hts iX1 tyX1 tyX1_ok nmX1 hown hK hP hD hS 0 rfl rfl 5 (by decide) (hts (.fieldLink RX1 31 "FilledForOne$Comer" "state" "I") (by decide +kernel)) (fun _ h9 => h9) rfl (by decide +kernel) rfl rfl (Nat.le_of_ble_eq_true rfl) dX1_copy_41 (fun (w9 : Rw) => (WCom a1 w9 ++ (WCom a2 m2))) (upd y5 5 (m2 5)) rfl (fun y6 ey6 H locs hP hD hS => ?_)
  have hf := lt_use ey6 hf
  refine lv_aload_n hx hb dX1_copy_44 rfl (lv_at hl 0 rfl) ?_
  refine lv_aload_n hx hb dX1_copy_45 rfl (lv_at hl 1 rfl) ?_
  refine va_get (D := D) (ci := 1) (v := .int (m2 6)) (C := RX1) (T := TX1) (N := 7) hx hb hts iX1 hown hK hP 1 rfl rfl 6 (by decide) (hts (.fieldLink RX1 34 "FilledForOne$Comer" "servedAt" "I") (by decide +kernel)) (fun _ h9 => h9) rfl dX1_copy_46 ?_
  refine z_put (ci := 1) (v := .int (m2 6)) (ty := .int) (C := RX1) (T := TX1) (N := 7) hx hb hts iX1 tyX1 tyX1_ok nmX1 hown hK hP hD hS 0 rfl rfl 6 (by decide) (hts (.fieldLink RX1 34 "FilledForOne$Comer" "servedAt" "I") (by decide +kernel)) (fun _ h9 => h9) rfl (by decide +kernel) rfl rfl (Nat.le_of_ble_eq_true rfl) dX1_copy_49 (fun (w9 : Rw) => (WCom a1 w9 ++ (WCom a2 m2))) (upd y6 6 (m2 6)) rfl (fun y7 ey7 H locs hP hD hS => ?_)
  have hf := lt_use ey7 hf
  cases hf
  exact ret_v hx hb hr hlocks hK hP hD hS dX1_copy_52
def pX3_copy (fu : Nat) (m1 : Rw) (m2 : Rw) : Option Rw :=
  lt' (upd m1 0 (m2 0)) fun y1 =>
  lt' (upd y1 1 (m2 1)) fun y2 =>
  lt' (upd y2 2 (m2 2)) fun y3 =>
  lt' (upd y3 3 (m2 3)) fun y4 =>
  lt' (upd y4 4 (m2 4)) fun y5 =>
  some y5
set_option maxHeartbeats 4000000 in
set_option maxRecDepth 100000 in
theorem tX3_copy (l : Launch) (D : va_G) (z tt : Nat → Nat) (a1 : Nat) (a2 : Nat) (m1 : Rw) (m2 : Rw)  (fu : Nat) (m1' : Rw) (hf : pX3_copy fu m1 m2 = some m1') : MetV l yX3_copy wsX3_copy ({ frames := 0, cells := 0, slots := 0, locals := 0 } : Room) D z tt ([.ref a1, .ref a2] : List Value) (WKet a1 m1 ++ (WKet a2 m2)) (WKet a1 m1' ++ (WKet a2 m2)) := by
  intro sz
  refine Met.ofW (cc := cX3_copy) (maxL := 2) (ret := none) (by decide) rfl ?_
  intro p e s m args below meth c s₁ B hml hv
  obtain ⟨rfl, hsz, hP, hK, hD0, hT, hN⟩ := hv
  have hx := B.exec
  have hb := B.bytes
  have hr := B.returns
  have hts := atoms_spec (ws := wsX3_copy) B.pre
  have hown : s.vm.findClass RX3 = some m.cls := findClass_of_methodNamed B.named
  have hlocks := B.notSynchronized
  subst hsz
  have hD := hD0.self (sz := s.heap.size)
  generalize hAe : va_A (WKet a1 m1 ++ (WKet a2 m2)) s.heap.size = A at hD hT ⊢
  have hA : ∀ q : Nat, s.heap.size ≤ q → A q := fun q h => by rw [← hAe]; exact Or.inr h
  have hS : va_S A s.heap s.heap [] := va_S.rf
  have hl := lv_entry ([.ref a1, .ref a2] : List Value) (n := 2) (Nat.le_of_ble_eq_true rfl)
  rw [lg_entry_eq]
  generalize (lg_sl ([.ref a1, .ref a2] : List Value) ++ List.replicate (2 - (lg_sl ([.ref a1, .ref a2] : List Value)).length) Slot.unset).toArray = ls at hl ⊢
  have hl : lv_has ls 2 [(0, .ref a1), (1, .ref a2)] := hl
  have iX3 : ∀ w ∈ wsX30, w ∈ wsX3_copy := by decide +kernel
  unfold pX3_copy at hf
  refine lv_aload_n hx hb dX3_copy_0 rfl (lv_at hl 0 rfl) ?_
  refine lv_aload_n hx hb dX3_copy_1 rfl (lv_at hl 1 rfl) ?_
  refine va_get (D := D) (ci := 3) (v := .int (m2 0)) (C := RX3) (T := TX3) (N := 5) hx hb hts iX3 hown hK hP 1 rfl rfl 0 (by decide) (hts (.fieldLink RX3 9 "FilledForOne$Kettle" "level" "I") (by decide +kernel)) (fun _ h9 => h9) rfl dX3_copy_2 ?_
  refine z_put (ci := 3) (v := .int (m2 0)) (ty := .int) (C := RX3) (T := TX3) (N := 5) hx hb hts iX3 tyX3 tyX3_ok nmX3 hown hK hP hD hS 0 rfl rfl 0 (by decide) (hts (.fieldLink RX3 9 "FilledForOne$Kettle" "level" "I") (by decide +kernel)) (fun _ h9 => h9) rfl (by decide +kernel) rfl rfl (Nat.le_of_ble_eq_true rfl) dX3_copy_5 (fun (w9 : Rw) => (WKet a1 w9 ++ (WKet a2 m2))) (upd m1 0 (m2 0)) rfl (fun y1 ey1 H locs hP hD hS => ?_)
  have hf := lt_use ey1 hf
  refine lv_aload_n hx hb dX3_copy_8 rfl (lv_at hl 0 rfl) ?_
  refine lv_aload_n hx hb dX3_copy_9 rfl (lv_at hl 1 rfl) ?_
  refine va_get (D := D) (ci := 3) (v := .int (m2 1)) (C := RX3) (T := TX3) (N := 5) hx hb hts iX3 hown hK hP 1 rfl rfl 1 (by decide) (hts (.fieldLink RX3 15 "FilledForOne$Kettle" "warmth" "I") (by decide +kernel)) (fun _ h9 => h9) rfl dX3_copy_10 ?_
  refine z_put (ci := 3) (v := .int (m2 1)) (ty := .int) (C := RX3) (T := TX3) (N := 5) hx hb hts iX3 tyX3 tyX3_ok nmX3 hown hK hP hD hS 0 rfl rfl 1 (by decide) (hts (.fieldLink RX3 15 "FilledForOne$Kettle" "warmth" "I") (by decide +kernel)) (fun _ h9 => h9) rfl (by decide +kernel) rfl rfl (Nat.le_of_ble_eq_true rfl) dX3_copy_13 (fun (w9 : Rw) => (WKet a1 w9 ++ (WKet a2 m2))) (upd y1 1 (m2 1)) rfl (fun y2 ey2 H locs hP hD hS => ?_)
  have hf := lt_use ey2 hf
  refine lv_aload_n hx hb dX3_copy_16 rfl (lv_at hl 0 rfl) ?_
  refine lv_aload_n hx hb dX3_copy_17 rfl (lv_at hl 1 rfl) ?_
  refine va_get (D := D) (ci := 3) (v := .int (m2 2)) (C := RX3) (T := TX3) (N := 5) hx hb hts iX3 hown hK hP 1 rfl rfl 2 (by decide) (hts (.fieldLink RX3 18 "FilledForOne$Kettle" "age" "I") (by decide +kernel)) (fun _ h9 => h9) rfl dX3_copy_18 ?_
  refine z_put (ci := 3) (v := .int (m2 2)) (ty := .int) (C := RX3) (T := TX3) (N := 5) hx hb hts iX3 tyX3 tyX3_ok nmX3 hown hK hP hD hS 0 rfl rfl 2 (by decide) (hts (.fieldLink RX3 18 "FilledForOne$Kettle" "age" "I") (by decide +kernel)) (fun _ h9 => h9) rfl (by decide +kernel) rfl rfl (Nat.le_of_ble_eq_true rfl) dX3_copy_21 (fun (w9 : Rw) => (WKet a1 w9 ++ (WKet a2 m2))) (upd y2 2 (m2 2)) rfl (fun y3 ey3 H locs hP hD hS => ?_)
  have hf := lt_use ey3 hf
  refine lv_aload_n hx hb dX3_copy_24 rfl (lv_at hl 0 rfl) ?_
  refine lv_aload_n hx hb dX3_copy_25 rfl (lv_at hl 1 rfl) ?_
  refine va_get (D := D) (ci := 3) (v := .int (m2 3)) (C := RX3) (T := TX3) (N := 5) hx hb hts iX3 hown hK hP 1 rfl rfl 3 (by decide) (hts (.fieldLink RX3 21 "FilledForOne$Kettle" "busyTill" "I") (by decide +kernel)) (fun _ h9 => h9) rfl dX3_copy_26 ?_
  refine z_put (ci := 3) (v := .int (m2 3)) (ty := .int) (C := RX3) (T := TX3) (N := 5) hx hb hts iX3 tyX3 tyX3_ok nmX3 hown hK hP hD hS 0 rfl rfl 3 (by decide) (hts (.fieldLink RX3 21 "FilledForOne$Kettle" "busyTill" "I") (by decide +kernel)) (fun _ h9 => h9) rfl (by decide +kernel) rfl rfl (Nat.le_of_ble_eq_true rfl) dX3_copy_29 (fun (w9 : Rw) => (WKet a1 w9 ++ (WKet a2 m2))) (upd y3 3 (m2 3)) rfl (fun y4 ey4 H locs hP hD hS => ?_)
  have hf := lt_use ey4 hf
  refine lv_aload_n hx hb dX3_copy_32 rfl (lv_at hl 0 rfl) ?_
  refine lv_aload_n hx hb dX3_copy_33 rfl (lv_at hl 1 rfl) ?_
  refine va_get (D := D) (ci := 3) (v := .int (m2 4)) (C := RX3) (T := TX3) (N := 5) hx hb hts iX3 hown hK hP 1 rfl rfl 4 (by decide) (hts (.fieldLink RX3 24 "FilledForOne$Kettle" "putOnBy" "I") (by decide +kernel)) (fun _ h9 => h9) rfl dX3_copy_34 ?_
  refine z_put (ci := 3) (v := .int (m2 4)) (ty := .int) (C := RX3) (T := TX3) (N := 5) hx hb hts iX3 tyX3 tyX3_ok nmX3 hown hK hP hD hS 0 rfl rfl 4 (by decide) (hts (.fieldLink RX3 24 "FilledForOne$Kettle" "putOnBy" "I") (by decide +kernel)) (fun _ h9 => h9) rfl (by decide +kernel) rfl rfl (Nat.le_of_ble_eq_true rfl) dX3_copy_37 (fun (w9 : Rw) => (WKet a1 w9 ++ (WKet a2 m2))) (upd y4 4 (m2 4)) rfl (fun y5 ey5 H locs hP hD hS => ?_)
  have hf := lt_use ey5 hf
  cases hf
  exact ret_v hx hb hr hlocks hK hP hD hS dX3_copy_40
def pX3_begin (fu : Nat) (m1 : Rw) : Option Rw :=
  lt' (upd m1 0 0) fun y1 =>
  lt' (upd y1 1 0) fun y2 =>
  lt' (upd y2 2 0) fun y3 =>
  lt' (upd y3 3 0) fun y4 =>
  some y4
set_option maxHeartbeats 4000000 in
set_option maxRecDepth 100000 in
theorem tX3_begin (l : Launch) (D : va_G) (z tt : Nat → Nat) (a1 : Nat) (m1 : Rw)  (fu : Nat) (m1' : Rw) (hf : pX3_begin fu m1 = some m1') : MetV l yX3_begin wsX3_begin ({ frames := 0, cells := 0, slots := 0, locals := 0 } : Room) D z tt ([.ref a1] : List Value) (WKet a1 m1) (WKet a1 m1') := by
  intro sz
  refine Met.ofW (cc := cX3_begin) (maxL := 1) (ret := none) (by decide) rfl ?_
  intro p e s m args below meth c s₁ B hml hv
  obtain ⟨rfl, hsz, hP, hK, hD0, hT, hN⟩ := hv
  have hx := B.exec
  have hb := B.bytes
  have hr := B.returns
  have hts := atoms_spec (ws := wsX3_begin) B.pre
  have hown : s.vm.findClass RX3 = some m.cls := findClass_of_methodNamed B.named
  have hlocks := B.notSynchronized
  subst hsz
  have hD := hD0.self (sz := s.heap.size)
  generalize hAe : va_A (WKet a1 m1) s.heap.size = A at hD hT ⊢
  have hA : ∀ q : Nat, s.heap.size ≤ q → A q := fun q h => by rw [← hAe]; exact Or.inr h
  have hS : va_S A s.heap s.heap [] := va_S.rf
  have hl := lv_entry ([.ref a1] : List Value) (n := 1) (Nat.le_of_ble_eq_true rfl)
  rw [lg_entry_eq]
  generalize (lg_sl ([.ref a1] : List Value) ++ List.replicate (1 - (lg_sl ([.ref a1] : List Value)).length) Slot.unset).toArray = ls at hl ⊢
  have hl : lv_has ls 1 [(0, .ref a1)] := hl
  have iX3 : ∀ w ∈ wsX30, w ∈ wsX3_begin := by decide +kernel
  unfold pX3_begin at hf
  refine lv_aload_n hx hb dX3_begin_0 rfl (lv_at hl 0 rfl) ?_
  refine lv_iconst (v := 0) hx hb dX3_begin_1 (by decide) ?_
  refine z_put (ci := 3) (v := .int 0) (ty := .int) (C := RX3) (T := TX3) (N := 5) hx hb hts iX3 tyX3 tyX3_ok nmX3 hown hK hP hD hS 0 rfl rfl 0 (by decide) (hts (.fieldLink RX3 9 "FilledForOne$Kettle" "level" "I") (by decide +kernel)) (fun _ h9 => h9) rfl (by decide +kernel) rfl rfl (Nat.le_of_ble_eq_true rfl) dX3_begin_2 (fun (w9 : Rw) => (WKet a1 w9)) (upd m1 0 0) rfl (fun y1 ey1 H locs hP hD hS => ?_)
  have hf := lt_use ey1 hf
  refine lv_aload_n hx hb dX3_begin_5 rfl (lv_at hl 0 rfl) ?_
  refine lv_iconst (v := 0) hx hb dX3_begin_6 (by decide) ?_
  refine z_put (ci := 3) (v := .int 0) (ty := .int) (C := RX3) (T := TX3) (N := 5) hx hb hts iX3 tyX3 tyX3_ok nmX3 hown hK hP hD hS 0 rfl rfl 1 (by decide) (hts (.fieldLink RX3 15 "FilledForOne$Kettle" "warmth" "I") (by decide +kernel)) (fun _ h9 => h9) rfl (by decide +kernel) rfl rfl (Nat.le_of_ble_eq_true rfl) dX3_begin_7 (fun (w9 : Rw) => (WKet a1 w9)) (upd y1 1 0) rfl (fun y2 ey2 H locs hP hD hS => ?_)
  have hf := lt_use ey2 hf
  refine lv_aload_n hx hb dX3_begin_10 rfl (lv_at hl 0 rfl) ?_
  refine lv_iconst (v := 0) hx hb dX3_begin_11 (by decide) ?_
  refine z_put (ci := 3) (v := .int 0) (ty := .int) (C := RX3) (T := TX3) (N := 5) hx hb hts iX3 tyX3 tyX3_ok nmX3 hown hK hP hD hS 0 rfl rfl 2 (by decide) (hts (.fieldLink RX3 18 "FilledForOne$Kettle" "age" "I") (by decide +kernel)) (fun _ h9 => h9) rfl (by decide +kernel) rfl rfl (Nat.le_of_ble_eq_true rfl) dX3_begin_12 (fun (w9 : Rw) => (WKet a1 w9)) (upd y2 2 0) rfl (fun y3 ey3 H locs hP hD hS => ?_)
  have hf := lt_use ey3 hf
  refine lv_aload_n hx hb dX3_begin_15 rfl (lv_at hl 0 rfl) ?_
  refine lv_iconst (v := 0) hx hb dX3_begin_16 (by decide) ?_
  refine z_put (ci := 3) (v := .int 0) (ty := .int) (C := RX3) (T := TX3) (N := 5) hx hb hts iX3 tyX3 tyX3_ok nmX3 hown hK hP hD hS 0 rfl rfl 3 (by decide) (hts (.fieldLink RX3 21 "FilledForOne$Kettle" "busyTill" "I") (by decide +kernel)) (fun _ h9 => h9) rfl (by decide +kernel) rfl rfl (Nat.le_of_ble_eq_true rfl) dX3_begin_17 (fun (w9 : Rw) => (WKet a1 w9)) (upd y3 3 0) rfl (fun y4 ey4 H locs hP hD hS => ?_)
  have hf := lt_use ey4 hf
  cases hf
  exact ret_v hx hb hr hlocks hK hP hD hS dX3_begin_20
def pX3_isFree (fu : Nat) (m1 : Rw) (p1 : Int32) : Option Int32 :=
  if p1 < (m1 3) then
    some 0
  else
    some 1
set_option maxHeartbeats 4000000 in
set_option maxRecDepth 100000 in
theorem tX3_isFree (l : Launch) (D : va_G) (z tt : Nat → Nat) (a1 : Nat) (m1 : Rw) (p1 : Int32) (fu : Nat) (rr : Int32) (hf : pX3_isFree fu m1 p1 = some rr) : MetI l yX3_isFree wsX3_isFree ({ frames := 0, cells := 0, slots := 0, locals := 0 } : Room) D z tt ([.ref a1, .int p1] : List Value) (WKet a1 m1) rr (WKet a1 m1) := by
  intro sz
  refine Met.ofW (cc := cX3_isFree) (maxL := 2) (ret := (some .boolean)) (by decide) rfl ?_
  intro p e s m args below meth c s₁ B hml hv
  obtain ⟨rfl, hsz, hP, hK, hD0, hT, hN⟩ := hv
  have hx := B.exec
  have hb := B.bytes
  have hr := B.returns
  have hts := atoms_spec (ws := wsX3_isFree) B.pre
  have hown : s.vm.findClass RX3 = some m.cls := findClass_of_methodNamed B.named
  have hlocks := B.notSynchronized
  subst hsz
  have hD := hD0.self (sz := s.heap.size)
  generalize hAe : va_A (WKet a1 m1) s.heap.size = A at hD hT ⊢
  have hA : ∀ q : Nat, s.heap.size ≤ q → A q := fun q h => by rw [← hAe]; exact Or.inr h
  have hS : va_S A s.heap s.heap [] := va_S.rf
  have hl := lv_entry ([.ref a1, .int p1] : List Value) (n := 2) (Nat.le_of_ble_eq_true rfl)
  rw [lg_entry_eq]
  generalize (lg_sl ([.ref a1, .int p1] : List Value) ++ List.replicate (2 - (lg_sl ([.ref a1, .int p1] : List Value)).length) Slot.unset).toArray = ls at hl ⊢
  have hl : lv_has ls 2 [(0, .ref a1), (1, .int p1)] := hl
  have iX3 : ∀ w ∈ wsX30, w ∈ wsX3_isFree := by decide +kernel
  unfold pX3_isFree at hf
  refine lv_aload_n hx hb dX3_isFree_0 rfl (lv_at hl 0 rfl) ?_
  refine va_get (D := D) (ci := 3) (v := .int (m1 3)) (C := RX3) (T := TX3) (N := 5) hx hb hts iX3 hown hK hP 0 rfl rfl 3 (by decide) (hts (.fieldLink RX3 21 "FilledForOne$Kettle" "busyTill" "I") (by decide +kernel)) (fun _ h9 => h9) rfl dX3_isFree_1 ?_
  refine lv_iload_n hx hb dX3_isFree_4 rfl (lv_at hl 1 rfl) ?_
  refine lv_icmp_gt (tgt := 12) hx hb dX3_isFree_5 (by decide) (fun c1 => ?_) (fun c1 => ?_)
  · have hf := if_t c1 hf
    refine lv_iconst (v := 0) hx hb dX3_isFree_12 (by decide) ?_
    cases hf
    exact ret_z hx hb hr hlocks hK hP hD hS (by decide) dX3_isFree_13
  · have hf := if_f c1 hf
    refine lv_iconst (v := 1) hx hb dX3_isFree_8 (by decide) ?_
    refine lv_goto (tgt := 13) hx hb dX3_isFree_9 (by decide) ?_
    cases hf
    exact ret_z hx hb hr hlocks hK hP hD hS (by decide) dX3_isFree_13
def pX3_isReady (fu : Nat) (m1 : Rw) (p1 : Int32) (p2 : Int32) : Option Int32 :=
  if p1 < (m1 3) then
    some 0
  else
    if (m1 1) < 8 then
      some 0
    else
      if (m1 0) < p2 then
        some 0
      else
        some 1
set_option maxHeartbeats 4000000 in
set_option maxRecDepth 100000 in
theorem tX3_isReady (l : Launch) (D : va_G) (z tt : Nat → Nat) (a1 : Nat) (m1 : Rw) (p1 : Int32) (p2 : Int32) (fu : Nat) (rr : Int32) (hf : pX3_isReady fu m1 p1 p2 = some rr) : MetI l yX3_isReady wsX3_isReady ({ frames := 0, cells := 0, slots := 0, locals := 0 } : Room) D z tt ([.ref a1, .int p1, .int p2] : List Value) (WKet a1 m1) rr (WKet a1 m1) := by
  intro sz
  refine Met.ofW (cc := cX3_isReady) (maxL := 3) (ret := (some .boolean)) (by decide) rfl ?_
  intro p e s m args below meth c s₁ B hml hv
  obtain ⟨rfl, hsz, hP, hK, hD0, hT, hN⟩ := hv
  have hx := B.exec
  have hb := B.bytes
  have hr := B.returns
  have hts := atoms_spec (ws := wsX3_isReady) B.pre
  have hown : s.vm.findClass RX3 = some m.cls := findClass_of_methodNamed B.named
  have hlocks := B.notSynchronized
  subst hsz
  have hD := hD0.self (sz := s.heap.size)
  generalize hAe : va_A (WKet a1 m1) s.heap.size = A at hD hT ⊢
  have hA : ∀ q : Nat, s.heap.size ≤ q → A q := fun q h => by rw [← hAe]; exact Or.inr h
  have hS : va_S A s.heap s.heap [] := va_S.rf
  have hl := lv_entry ([.ref a1, .int p1, .int p2] : List Value) (n := 3) (Nat.le_of_ble_eq_true rfl)
  rw [lg_entry_eq]
  generalize (lg_sl ([.ref a1, .int p1, .int p2] : List Value) ++ List.replicate (3 - (lg_sl ([.ref a1, .int p1, .int p2] : List Value)).length) Slot.unset).toArray = ls at hl ⊢
  have hl : lv_has ls 3 [(0, .ref a1), (1, .int p1), (2, .int p2)] := hl
  have iX3 : ∀ w ∈ wsX30, w ∈ wsX3_isReady := by decide +kernel
  unfold pX3_isReady at hf
  refine lv_aload_n hx hb dX3_isReady_0 rfl (lv_at hl 0 rfl) ?_
  refine va_get (D := D) (ci := 3) (v := .int (m1 3)) (C := RX3) (T := TX3) (N := 5) hx hb hts iX3 hown hK hP 0 rfl rfl 3 (by decide) (hts (.fieldLink RX3 21 "FilledForOne$Kettle" "busyTill" "I") (by decide +kernel)) (fun _ h9 => h9) rfl dX3_isReady_1 ?_
  refine lv_iload_n hx hb dX3_isReady_4 rfl (lv_at hl 1 rfl) ?_
  refine lv_icmp_gt (tgt := 29) hx hb dX3_isReady_5 (by decide) (fun c1 => ?_) (fun c1 => ?_)
  · have hf := if_t c1 hf
    refine lv_iconst (v := 0) hx hb dX3_isReady_29 (by decide) ?_
    cases hf
    exact ret_z hx hb hr hlocks hK hP hD hS (by decide) dX3_isReady_30
  · have hf := if_f c1 hf
    refine lv_aload_n hx hb dX3_isReady_8 rfl (lv_at hl 0 rfl) ?_
    refine va_get (D := D) (ci := 3) (v := .int (m1 1)) (C := RX3) (T := TX3) (N := 5) hx hb hts iX3 hown hK hP 0 rfl rfl 1 (by decide) (hts (.fieldLink RX3 15 "FilledForOne$Kettle" "warmth" "I") (by decide +kernel)) (fun _ h9 => h9) rfl dX3_isReady_9 ?_
    refine lv_bipush (v := 8) hx hb dX3_isReady_12 (by decide) ?_
    refine lv_icmp_lt (tgt := 29) hx hb dX3_isReady_14 (by decide) (fun c2 => ?_) (fun c2 => ?_)
    · have hf := if_t c2 hf
      refine lv_iconst (v := 0) hx hb dX3_isReady_29 (by decide) ?_
      cases hf
      exact ret_z hx hb hr hlocks hK hP hD hS (by decide) dX3_isReady_30
    · have hf := if_f c2 hf
      refine lv_aload_n hx hb dX3_isReady_17 rfl (lv_at hl 0 rfl) ?_
      refine va_get (D := D) (ci := 3) (v := .int (m1 0)) (C := RX3) (T := TX3) (N := 5) hx hb hts iX3 hown hK hP 0 rfl rfl 0 (by decide) (hts (.fieldLink RX3 9 "FilledForOne$Kettle" "level" "I") (by decide +kernel)) (fun _ h9 => h9) rfl dX3_isReady_18 ?_
      refine lv_iload_n hx hb dX3_isReady_21 rfl (lv_at hl 2 rfl) ?_
      refine lv_icmp_lt (tgt := 29) hx hb dX3_isReady_22 (by decide) (fun c3 => ?_) (fun c3 => ?_)
      · have hf := if_t c3 hf
        refine lv_iconst (v := 0) hx hb dX3_isReady_29 (by decide) ?_
        cases hf
        exact ret_z hx hb hr hlocks hK hP hD hS (by decide) dX3_isReady_30
      · have hf := if_f c3 hf
        refine lv_iconst (v := 1) hx hb dX3_isReady_25 (by decide) ?_
        refine lv_goto (tgt := 30) hx hb dX3_isReady_26 (by decide) ?_
        cases hf
        exact ret_z hx hb hr hlocks hK hP hD hS (by decide) dX3_isReady_30
def pX3_fill (fu : Nat) (m1 : Rw) (p1 : Int32) : Option Rw :=
  if p1 ≤ 0 then
    some m1
  else
    ckn p1 <|
    lt' (upd m1 1 (((m1 0) * (m1 1)) / p1)) fun y3 =>
    lt' (upd y3 0 p1) fun y4 =>
    some y4
set_option maxHeartbeats 4000000 in
set_option maxRecDepth 100000 in
theorem tX3_fill (l : Launch) (D : va_G) (z tt : Nat → Nat) (a1 : Nat) (m1 : Rw) (p1 : Int32) (fu : Nat) (m1' : Rw) (hf : pX3_fill fu m1 p1 = some m1') : MetV l yX3_fill wsX3_fill ({ frames := 0, cells := 0, slots := 0, locals := 0 } : Room) D z tt ([.ref a1, .int p1] : List Value) (WKet a1 m1) (WKet a1 m1') := by
  intro sz
  refine Met.ofW (cc := cX3_fill) (maxL := 2) (ret := none) (by decide) rfl ?_
  intro p e s m args below meth c s₁ B hml hv
  obtain ⟨rfl, hsz, hP, hK, hD0, hT, hN⟩ := hv
  have hx := B.exec
  have hb := B.bytes
  have hr := B.returns
  have hts := atoms_spec (ws := wsX3_fill) B.pre
  have hown : s.vm.findClass RX3 = some m.cls := findClass_of_methodNamed B.named
  have hlocks := B.notSynchronized
  subst hsz
  have hD := hD0.self (sz := s.heap.size)
  generalize hAe : va_A (WKet a1 m1) s.heap.size = A at hD hT ⊢
  have hA : ∀ q : Nat, s.heap.size ≤ q → A q := fun q h => by rw [← hAe]; exact Or.inr h
  have hS : va_S A s.heap s.heap [] := va_S.rf
  have hl := lv_entry ([.ref a1, .int p1] : List Value) (n := 2) (Nat.le_of_ble_eq_true rfl)
  rw [lg_entry_eq]
  generalize (lg_sl ([.ref a1, .int p1] : List Value) ++ List.replicate (2 - (lg_sl ([.ref a1, .int p1] : List Value)).length) Slot.unset).toArray = ls at hl ⊢
  have hl : lv_has ls 2 [(0, .ref a1), (1, .int p1)] := hl
  have iX3 : ∀ w ∈ wsX30, w ∈ wsX3_fill := by decide +kernel
  unfold pX3_fill at hf
  refine lv_iload_n hx hb dX3_fill_0 rfl (lv_at hl 1 rfl) ?_
  refine lv_if_le (tgt := 24) hx hb dX3_fill_1 (by decide) (fun c1 => ?_) (fun c1 => ?_)
  · have hf := if_t c1 hf
    cases hf
    exact ret_v hx hb hr hlocks hK hP hD hS dX3_fill_24
  · have hf := if_f c1 hf
    refine lv_aload_n hx hb dX3_fill_4 rfl (lv_at hl 0 rfl) ?_
    refine lv_aload_n hx hb dX3_fill_5 rfl (lv_at hl 0 rfl) ?_
    refine va_get (D := D) (ci := 3) (v := .int (m1 0)) (C := RX3) (T := TX3) (N := 5) hx hb hts iX3 hown hK hP 0 rfl rfl 0 (by decide) (hts (.fieldLink RX3 9 "FilledForOne$Kettle" "level" "I") (by decide +kernel)) (fun _ h9 => h9) rfl dX3_fill_6 ?_
    refine lv_aload_n hx hb dX3_fill_9 rfl (lv_at hl 0 rfl) ?_
    refine va_get (D := D) (ci := 3) (v := .int (m1 1)) (C := RX3) (T := TX3) (N := 5) hx hb hts iX3 hown hK hP 0 rfl rfl 1 (by decide) (hts (.fieldLink RX3 15 "FilledForOne$Kettle" "warmth" "I") (by decide +kernel)) (fun _ h9 => h9) rfl dX3_fill_10 ?_
    refine lv_imul hx hb dX3_fill_13 ?_
    refine lv_iload_n hx hb dX3_fill_14 rfl (lv_at hl 1 rfl) ?_
    obtain ⟨h2, hf⟩ := ckn_use hf
    refine lv_idiv hx hb dX3_fill_15 h2 ?_
    refine z_put (ci := 3) (v := .int (((m1 0) * (m1 1)) / p1)) (ty := .int) (C := RX3) (T := TX3) (N := 5) hx hb hts iX3 tyX3 tyX3_ok nmX3 hown hK hP hD hS 0 rfl rfl 1 (by decide) (hts (.fieldLink RX3 15 "FilledForOne$Kettle" "warmth" "I") (by decide +kernel)) (fun _ h9 => h9) rfl (by decide +kernel) rfl rfl (Nat.le_of_ble_eq_true rfl) dX3_fill_16 (fun (w9 : Rw) => (WKet a1 w9)) (upd m1 1 (((m1 0) * (m1 1)) / p1)) rfl (fun y3 ey3 H locs hP hD hS => ?_)
    have hf := lt_use ey3 hf
    refine lv_aload_n hx hb dX3_fill_19 rfl (lv_at hl 0 rfl) ?_
    refine lv_iload_n hx hb dX3_fill_20 rfl (lv_at hl 1 rfl) ?_
    refine z_put (ci := 3) (v := .int p1) (ty := .int) (C := RX3) (T := TX3) (N := 5) hx hb hts iX3 tyX3 tyX3_ok nmX3 hown hK hP hD hS 0 rfl rfl 0 (by decide) (hts (.fieldLink RX3 9 "FilledForOne$Kettle" "level" "I") (by decide +kernel)) (fun _ h9 => h9) rfl (by decide +kernel) rfl rfl (Nat.le_of_ble_eq_true rfl) dX3_fill_21 (fun (w9 : Rw) => (WKet a1 w9)) (upd y3 0 p1) rfl (fun y4 ey4 H locs hP hD hS => ?_)
    have hf := lt_use ey4 hf
    cases hf
    exact ret_v hx hb hr hlocks hK hP hD hS dX3_fill_24
def pX3_cool (fu : Nat) (m1 : Rw) (p1 : Int32) : Option Rw :=
  lt' (upd m1 2 ((m1 2) + 1)) fun y1 =>
  if (y1 2) < p1 then
    some y1
  else
    lt' (upd y1 1 (imax 0 ((y1 1) - 1))) fun y3 =>
    lt' (upd y3 2 0) fun y4 =>
    some y4
set_option maxHeartbeats 4000000 in
set_option maxRecDepth 100000 in
theorem tX3_cool (l : Launch) (D : va_G) (z tt : Nat → Nat) (a1 : Nat) (m1 : Rw) (p1 : Int32) (fu : Nat) (m1' : Rw) (hf : pX3_cool fu m1 p1 = some m1') : MetV l yX3_cool wsX3_cool ({ frames := 1, cells := 0, slots := 0, locals := 17 } : Room) D z tt ([.ref a1, .int p1] : List Value) (WKet a1 m1) (WKet a1 m1') := by
  intro sz
  refine Met.ofW (cc := cX3_cool) (maxL := 2) (ret := none) (by decide) rfl ?_
  intro p e s m args below meth c s₁ B hml hv
  obtain ⟨rfl, hsz, hP, hK, hD0, hT, hN⟩ := hv
  have hx := B.exec
  have hb := B.bytes
  have hr := B.returns
  have hts := atoms_spec (ws := wsX3_cool) B.pre
  have hown : s.vm.findClass RX3 = some m.cls := findClass_of_methodNamed B.named
  have hlocks := B.notSynchronized
  subst hsz
  have hD := hD0.self (sz := s.heap.size)
  generalize hAe : va_A (WKet a1 m1) s.heap.size = A at hD hT ⊢
  have hA : ∀ q : Nat, s.heap.size ≤ q → A q := fun q h => by rw [← hAe]; exact Or.inr h
  have hS : va_S A s.heap s.heap [] := va_S.rf
  have hl := lv_entry ([.ref a1, .int p1] : List Value) (n := 2) (Nat.le_of_ble_eq_true rfl)
  rw [lg_entry_eq]
  generalize (lg_sl ([.ref a1, .int p1] : List Value) ++ List.replicate (2 - (lg_sl ([.ref a1, .int p1] : List Value)).length) Slot.unset).toArray = ls at hl ⊢
  have hl : lv_has ls 2 [(0, .ref a1), (1, .int p1)] := hl
  have iX3 : ∀ w ∈ wsX30, w ∈ wsX3_cool := by decide +kernel
  unfold pX3_cool at hf
  refine lv_aload_n hx hb dX3_cool_0 rfl (lv_at hl 0 rfl) ?_
  refine lv_dup hx hb dX3_cool_1 rfl ?_
  refine va_get (D := D) (ci := 3) (v := .int (m1 2)) (C := RX3) (T := TX3) (N := 5) hx hb hts iX3 hown hK hP 0 rfl rfl 2 (by decide) (hts (.fieldLink RX3 18 "FilledForOne$Kettle" "age" "I") (by decide +kernel)) (fun _ h9 => h9) rfl dX3_cool_2 ?_
  refine lv_iconst (v := 1) hx hb dX3_cool_5 (by decide) ?_
  refine lv_iadd hx hb dX3_cool_6 ?_
  refine z_put (ci := 3) (v := .int ((m1 2) + 1)) (ty := .int) (C := RX3) (T := TX3) (N := 5) hx hb hts iX3 tyX3 tyX3_ok nmX3 hown hK hP hD hS 0 rfl rfl 2 (by decide) (hts (.fieldLink RX3 18 "FilledForOne$Kettle" "age" "I") (by decide +kernel)) (fun _ h9 => h9) rfl (by decide +kernel) rfl rfl (Nat.le_of_ble_eq_true rfl) dX3_cool_7 (fun (w9 : Rw) => (WKet a1 w9)) (upd m1 2 ((m1 2) + 1)) rfl (fun y1 ey1 H locs hP hD hS => ?_)
  have hf := lt_use ey1 hf
  refine lv_aload_n hx hb dX3_cool_10 rfl (lv_at hl 0 rfl) ?_
  refine va_get (D := D) (ci := 3) (v := .int (y1 2)) (C := RX3) (T := TX3) (N := 5) hx hb hts iX3 hown hK hP 0 rfl rfl 2 (by decide) (hts (.fieldLink RX3 18 "FilledForOne$Kettle" "age" "I") (by decide +kernel)) (fun _ h9 => h9) rfl dX3_cool_11 ?_
  refine lv_iload_n hx hb dX3_cool_14 rfl (lv_at hl 1 rfl) ?_
  refine lv_icmp_lt (tgt := 37) hx hb dX3_cool_15 (by decide) (fun c2 => ?_) (fun c2 => ?_)
  · have hf := if_t c2 hf
    cases hf
    exact ret_v hx hb hr hlocks hK hP hD hS dX3_cool_37
  · have hf := if_f c2 hf
    refine lv_aload_n hx hb dX3_cool_18 rfl (lv_at hl 0 rfl) ?_
    refine lv_iconst (v := 0) hx hb dX3_cool_19 (by decide) ?_
    refine lv_aload_n hx hb dX3_cool_20 rfl (lv_at hl 0 rfl) ?_
    refine va_get (D := D) (ci := 3) (v := .int (y1 1)) (C := RX3) (T := TX3) (N := 5) hx hb hts iX3 hown hK hP 0 rfl rfl 1 (by decide) (hts (.fieldLink RX3 15 "FilledForOne$Kettle" "warmth" "I") (by decide +kernel)) (fun _ h9 => h9) rfl dX3_cool_21 ?_
    refine lv_iconst (v := 1) hx hb dX3_cool_24 (by decide) ?_
    refine lv_isub hx hb dX3_cool_25 ?_
    refine z_max hx hb (by rw [hml]; exact hl.1.symm) hown (hts (.methodLink RX3 31 Lib.Math.max.name) (by decide +kernel)) (hts (.static Lib.Math.max.name) (by decide +kernel)) (hts (.initialized "java/lang/Math") (by decide +kernel)) (hts (.code Lib.Math.max.name Lib.Math.max.code 2 (some .int)) (by decide +kernel)) (Nat.le_of_ble_eq_true rfl) (Nat.le_of_ble_eq_true rfl) dX3_cool_26 (Nat.zero_le _) (Nat.zero_le _) ?_
    refine z_put (ci := 3) (v := .int (imax 0 ((y1 1) - 1))) (ty := .int) (C := RX3) (T := TX3) (N := 5) hx hb hts iX3 tyX3 tyX3_ok nmX3 hown hK hP hD hS 0 rfl rfl 1 (by decide) (hts (.fieldLink RX3 15 "FilledForOne$Kettle" "warmth" "I") (by decide +kernel)) (fun _ h9 => h9) rfl (by decide +kernel) rfl rfl (Nat.le_of_ble_eq_true rfl) dX3_cool_29 (fun (w9 : Rw) => (WKet a1 w9)) (upd y1 1 (imax 0 ((y1 1) - 1))) rfl (fun y3 ey3 H locs hP hD hS => ?_)
    have hf := lt_use ey3 hf
    refine lv_aload_n hx hb dX3_cool_32 rfl (lv_at hl 0 rfl) ?_
    refine lv_iconst (v := 0) hx hb dX3_cool_33 (by decide) ?_
    refine z_put (ci := 3) (v := .int 0) (ty := .int) (C := RX3) (T := TX3) (N := 5) hx hb hts iX3 tyX3 tyX3_ok nmX3 hown hK hP hD hS 0 rfl rfl 2 (by decide) (hts (.fieldLink RX3 18 "FilledForOne$Kettle" "age" "I") (by decide +kernel)) (fun _ h9 => h9) rfl (by decide +kernel) rfl rfl (Nat.le_of_ble_eq_true rfl) dX3_cool_34 (fun (w9 : Rw) => (WKet a1 w9)) (upd y3 2 0) rfl (fun y4 ey4 H locs hP hD hS => ?_)
    have hf := lt_use ey4 hf
    cases hf
    exact ret_v hx hb hr hlocks hK hP hD hS dX3_cool_37
def pX3_tell (fu : Nat) (m1 : Rw) (p1 : Int32) (p2 : Int32) : Option Int32 :=
  if p1 = 0 then
    some (m1 0)
  else
  if p1 = 1 then
    some (m1 1)
  else
  if p1 = 2 then
    some (m1 2)
  else
  some (imax 0 ((m1 3) - p2))
set_option maxHeartbeats 4000000 in
set_option maxRecDepth 100000 in
theorem tX3_tell (l : Launch) (D : va_G) (z tt : Nat → Nat) (a1 : Nat) (m1 : Rw) (p1 : Int32) (p2 : Int32) (fu : Nat) (rr : Int32) (hf : pX3_tell fu m1 p1 p2 = some rr) : MetI l yX3_tell wsX3_tell ({ frames := 1, cells := 0, slots := 0, locals := 17 } : Room) D z tt ([.ref a1, .int p1, .int p2] : List Value) (WKet a1 m1) rr (WKet a1 m1) := by
  intro sz
  refine Met.ofW (cc := cX3_tell) (maxL := 3) (ret := (some .int)) (by decide) rfl ?_
  intro p e s m args below meth c s₁ B hml hv
  obtain ⟨rfl, hsz, hP, hK, hD0, hT, hN⟩ := hv
  have hx := B.exec
  have hb := B.bytes
  have hr := B.returns
  have hts := atoms_spec (ws := wsX3_tell) B.pre
  have hown : s.vm.findClass RX3 = some m.cls := findClass_of_methodNamed B.named
  have hlocks := B.notSynchronized
  subst hsz
  have hD := hD0.self (sz := s.heap.size)
  generalize hAe : va_A (WKet a1 m1) s.heap.size = A at hD hT ⊢
  have hA : ∀ q : Nat, s.heap.size ≤ q → A q := fun q h => by rw [← hAe]; exact Or.inr h
  have hS : va_S A s.heap s.heap [] := va_S.rf
  have hl := lv_entry ([.ref a1, .int p1, .int p2] : List Value) (n := 3) (Nat.le_of_ble_eq_true rfl)
  rw [lg_entry_eq]
  generalize (lg_sl ([.ref a1, .int p1, .int p2] : List Value) ++ List.replicate (3 - (lg_sl ([.ref a1, .int p1, .int p2] : List Value)).length) Slot.unset).toArray = ls at hl ⊢
  have hl : lv_has ls 3 [(0, .ref a1), (1, .int p1), (2, .int p2)] := hl
  have iX3 : ∀ w ∈ wsX30, w ∈ wsX3_tell := by decide +kernel
  unfold pX3_tell at hf
  refine lv_iload_n hx hb dX3_tell_0 rfl (lv_at hl 1 rfl) ?_
  by_cases c1 : p1 = 0
  · have hf := if_t c1 hf
    refine z_tin (K := 0) hx hb c1 dX3_tell_1 ⟨rfl, by decide, by decide⟩ (tgt := 28) (by decide) ?_
    refine lv_aload_n hx hb dX3_tell_28 rfl (lv_at hl 0 rfl) ?_
    refine va_get (D := D) (ci := 3) (v := .int (m1 0)) (C := RX3) (T := TX3) (N := 5) hx hb hts iX3 hown hK hP 0 rfl rfl 0 (by decide) (hts (.fieldLink RX3 9 "FilledForOne$Kettle" "level" "I") (by decide +kernel)) (fun _ h9 => h9) rfl dX3_tell_29 ?_
    cases hf
    exact ret_i hx hb hr hlocks hK hP hD hS dX3_tell_32
  have hf := if_f c1 hf
  by_cases c2 : p1 = 1
  · have hf := if_t c2 hf
    refine z_tin (K := 1) hx hb c2 dX3_tell_1 ⟨rfl, by decide, by decide⟩ (tgt := 33) (by decide) ?_
    refine lv_aload_n hx hb dX3_tell_33 rfl (lv_at hl 0 rfl) ?_
    refine va_get (D := D) (ci := 3) (v := .int (m1 1)) (C := RX3) (T := TX3) (N := 5) hx hb hts iX3 hown hK hP 0 rfl rfl 1 (by decide) (hts (.fieldLink RX3 15 "FilledForOne$Kettle" "warmth" "I") (by decide +kernel)) (fun _ h9 => h9) rfl dX3_tell_34 ?_
    cases hf
    exact ret_i hx hb hr hlocks hK hP hD hS dX3_tell_37
  have hf := if_f c2 hf
  by_cases c3 : p1 = 2
  · have hf := if_t c3 hf
    refine z_tin (K := 2) hx hb c3 dX3_tell_1 ⟨rfl, by decide, by decide⟩ (tgt := 38) (by decide) ?_
    refine lv_aload_n hx hb dX3_tell_38 rfl (lv_at hl 0 rfl) ?_
    refine va_get (D := D) (ci := 3) (v := .int (m1 2)) (C := RX3) (T := TX3) (N := 5) hx hb hts iX3 hown hK hP 0 rfl rfl 2 (by decide) (hts (.fieldLink RX3 18 "FilledForOne$Kettle" "age" "I") (by decide +kernel)) (fun _ h9 => h9) rfl dX3_tell_39 ?_
    cases hf
    exact ret_i hx hb hr hlocks hK hP hD hS dX3_tell_42
  have hf := if_f c3 hf
  refine lv_tableOut (tgt := 43) hx hb dX3_tell_1 (by have qc1 := lv_neT c1 (show (0 : Int32).toInt = 0 from by decide); have qc2 := lv_neT c2 (show (1 : Int32).toInt = 1 from by decide); have qc3 := lv_neT c3 (show (2 : Int32).toInt = 2 from by decide); omega) (by decide) ?_
  refine lv_iconst (v := 0) hx hb dX3_tell_43 (by decide) ?_
  refine lv_aload_n hx hb dX3_tell_44 rfl (lv_at hl 0 rfl) ?_
  refine va_get (D := D) (ci := 3) (v := .int (m1 3)) (C := RX3) (T := TX3) (N := 5) hx hb hts iX3 hown hK hP 0 rfl rfl 3 (by decide) (hts (.fieldLink RX3 21 "FilledForOne$Kettle" "busyTill" "I") (by decide +kernel)) (fun _ h9 => h9) rfl dX3_tell_45 ?_
  refine lv_iload_n hx hb dX3_tell_48 rfl (lv_at hl 2 rfl) ?_
  refine lv_isub hx hb dX3_tell_49 ?_
  refine z_max hx hb (by rw [hml]; exact hl.1.symm) hown (hts (.methodLink RX3 31 Lib.Math.max.name) (by decide +kernel)) (hts (.static Lib.Math.max.name) (by decide +kernel)) (hts (.initialized "java/lang/Math") (by decide +kernel)) (hts (.code Lib.Math.max.name Lib.Math.max.code 2 (some .int)) (by decide +kernel)) (Nat.le_of_ble_eq_true rfl) (Nat.le_of_ble_eq_true rfl) dX3_tell_50 (Nat.zero_le _) (Nat.zero_le _) ?_
  cases hf
  exact ret_i hx hb hr hlocks hK hP hD hS dX3_tell_53
def pX2_copy (fu : Nat) (m1 : Mem) (m2 : Mem) : Option Mem :=
  lt' (va_up m1 1 (va_cpy (m2 1) (m1 1) 0 0 8)) fun y1 =>
  lt' (va_up y1 2 (va_cpy (m2 2) (y1 2) 0 0 8)) fun y2 =>
  lt' (up2 y2 0 4 (m2 0 4)) fun y3 =>
  lt' (up2 y3 0 5 (m2 0 5)) fun y4 =>
  lt' (up2 y4 0 6 (m2 0 6)) fun y5 =>
  zl2 (fun g9 (x6 : Int32) (y7 : Mem) =>
    if (y7 0 4) ≤ x6 then
      zl2 (fun g15 (x12 : Int32) (y13 : Mem) =>
        if 2 ≤ x12 then
          some y13
        else
          ck x12 2 <|
          ck x12 2 <|
          bd (pX3_copy fu (y13 (3 + x12.toNatClampNeg)) (m2 (3 + x12.toNatClampNeg))) fun y20 =>
          lt' (va_up y13 (3 + x12.toNatClampNeg) y20) fun y22 =>
          lt' (x12 + 1) fun x23 =>
          g15 x23 y22) fu 0 y7
    else
      ck x6 8 <|
      ck x6 8 <|
      bd (pX1_copy fu (y7 (5 + x6.toNatClampNeg)) (m2 (5 + x6.toNatClampNeg))) fun y26 =>
      lt' (va_up y7 (5 + x6.toNatClampNeg) y26) fun y28 =>
      lt' (x6 + 1) fun x29 =>
      g9 x29 y28) fu 0 y5
set_option maxHeartbeats 4000000 in
set_option maxRecDepth 100000 in
theorem tX2_copy (l : Launch) (D : va_G) (z tt : Nat → Nat) (a1 : Nat → Nat) (a2 : Nat → Nat) (m1 : Mem) (m2 : Mem)  (fu : Nat) (m1' : Mem) (hf : pX2_copy fu m1 m2 = some m1') : MetV l yX2_copy wsX2_copy ({ frames := 2, cells := 0, slots := 0, locals := 43 } : Room) D z tt ([.ref (a1 0), .ref (a2 0)] : List Value) (WDay z a1 m1 ++ (WDay z a2 m2)) (WDay z a1 m1' ++ (WDay z a2 m2)) := by
  intro sz
  refine Met.ofW (cc := cX2_copy) (maxL := 3) (ret := none) (by decide) rfl ?_
  intro p e s m args below meth c s₁ B hml hv
  obtain ⟨rfl, hsz, hP, hK, hD0, hT, hN⟩ := hv
  have hx := B.exec
  have hb := B.bytes
  have hr := B.returns
  have hts := atoms_spec (ws := wsX2_copy) B.pre
  have hown : s.vm.findClass RX2 = some m.cls := findClass_of_methodNamed B.named
  have hlocks := B.notSynchronized
  subst hsz
  have hD := hD0.self (sz := s.heap.size)
  generalize hAe : va_A (WDay z a1 m1 ++ (WDay z a2 m2)) s.heap.size = A at hD hT ⊢
  have hA : ∀ q : Nat, s.heap.size ≤ q → A q := fun q h => by rw [← hAe]; exact Or.inr h
  have hS : va_S A s.heap s.heap [] := va_S.rf
  have hl := lv_entry ([.ref (a1 0), .ref (a2 0)] : List Value) (n := 3) (Nat.le_of_ble_eq_true rfl)
  rw [lg_entry_eq]
  generalize (lg_sl ([.ref (a1 0), .ref (a2 0)] : List Value) ++ List.replicate (3 - (lg_sl ([.ref (a1 0), .ref (a2 0)] : List Value)).length) Slot.unset).toArray = ls at hl ⊢
  have hl : lv_has ls 3 [(0, .ref (a1 0)), (1, .ref (a2 0))] := hl
  have iX2 : ∀ w ∈ wsX20, w ∈ wsX2_copy := by decide +kernel
  unfold pX2_copy at hf
  refine lv_aload_n hx hb dX2_copy_0 rfl (lv_at hl 1 rfl) ?_
  refine va_get (D := D) (ci := 2) (v := .ref (a2 1)) (C := RX2) (T := TX2) (N := 8) hx hb hts iX2 hown hK hP 15 rfl rfl 0 (by decide) (hts (.fieldLink RX2 18 "FilledForOne$Day" "settings" "[I") (by decide +kernel)) (fun _ h9 => h9) rfl dX2_copy_1 ?_
  refine lv_iconst (v := 0) hx hb dX2_copy_4 (by decide) ?_
  refine lv_aload_n hx hb dX2_copy_5 rfl (lv_at hl 0 rfl) ?_
  refine va_get (D := D) (ci := 2) (v := .ref (a1 1)) (C := RX2) (T := TX2) (N := 8) hx hb hts iX2 hown hK hP 0 rfl rfl 0 (by decide) (hts (.fieldLink RX2 18 "FilledForOne$Day" "settings" "[I") (by decide +kernel)) (fun _ h9 => h9) rfl dX2_copy_6 ?_
  refine lv_iconst (v := 0) hx hb dX2_copy_9 (by decide) ?_
  refine lv_aload_n hx hb dX2_copy_10 rfl (lv_at hl 0 rfl) ?_
  refine va_get (D := D) (ci := 2) (v := .ref (a1 1)) (C := RX2) (T := TX2) (N := 8) hx hb hts iX2 hown hK hP 0 rfl rfl 0 (by decide) (hts (.fieldLink RX2 18 "FilledForOne$Day" "settings" "[I") (by decide +kernel)) (fun _ h9 => h9) rfl dX2_copy_11 ?_
  refine z_alen hx hb hK hP 1 0 rfl rfl (v := 8) rfl dX2_copy_14 ?_
  refine z_copy hx hb (by rw [hml]; exact hl.1.symm) hown (hts (.methodLink RX2 40 arraycopyName) (by decide +kernel)) (hts (.native arraycopyName) (by decide +kernel)) (hts (.static arraycopyName) (by decide +kernel)) (hts (.initialized "java/lang/System") (by decide +kernel)) hK hP hD hS 16 1 rfl rfl (n := 8) (nn := 8) (by decide) (by decide) (Nat.le_of_ble_eq_true rfl) (Nat.le_of_ble_eq_true rfl) (Nat.le_of_ble_eq_true rfl) (by decide +kernel) dX2_copy_15 (fun (w9 : Mem) => (WDay z a1 w9 ++ (WDay z a2 m2))) (va_up m1 1 (va_cpy (m2 1) (m1 1) 0 0 8)) rfl (fun y1 ey1 H locs hP hD hS => ?_)
  have hf := lt_use ey1 hf
  refine lv_aload_n hx hb dX2_copy_18 rfl (lv_at hl 1 rfl) ?_
  refine va_get (D := D) (ci := 2) (v := .ref (a2 2)) (C := RX2) (T := TX2) (N := 8) hx hb hts iX2 hown hK hP 15 rfl rfl 3 (by decide) (hts (.fieldLink RX2 37 "FilledForOne$Day" "line" "[I") (by decide +kernel)) (fun _ h9 => h9) rfl dX2_copy_19 ?_
  refine lv_iconst (v := 0) hx hb dX2_copy_22 (by decide) ?_
  refine lv_aload_n hx hb dX2_copy_23 rfl (lv_at hl 0 rfl) ?_
  refine va_get (D := D) (ci := 2) (v := .ref (a1 2)) (C := RX2) (T := TX2) (N := 8) hx hb hts iX2 hown hK hP 0 rfl rfl 3 (by decide) (hts (.fieldLink RX2 37 "FilledForOne$Day" "line" "[I") (by decide +kernel)) (fun _ h9 => h9) rfl dX2_copy_24 ?_
  refine lv_iconst (v := 0) hx hb dX2_copy_27 (by decide) ?_
  refine lv_aload_n hx hb dX2_copy_28 rfl (lv_at hl 0 rfl) ?_
  refine va_get (D := D) (ci := 2) (v := .ref (a1 2)) (C := RX2) (T := TX2) (N := 8) hx hb hts iX2 hown hK hP 0 rfl rfl 3 (by decide) (hts (.fieldLink RX2 37 "FilledForOne$Day" "line" "[I") (by decide +kernel)) (fun _ h9 => h9) rfl dX2_copy_29 ?_
  refine z_alen hx hb hK hP 2 0 rfl rfl (v := 8) rfl dX2_copy_32 ?_
  refine z_copy hx hb (by rw [hml]; exact hl.1.symm) hown (hts (.methodLink RX2 40 arraycopyName) (by decide +kernel)) (hts (.native arraycopyName) (by decide +kernel)) (hts (.static arraycopyName) (by decide +kernel)) (hts (.initialized "java/lang/System") (by decide +kernel)) hK hP hD hS 17 2 rfl rfl (n := 8) (nn := 8) (by decide) (by decide) (Nat.le_of_ble_eq_true rfl) (Nat.le_of_ble_eq_true rfl) (Nat.le_of_ble_eq_true rfl) (by decide +kernel) dX2_copy_33 (fun (w9 : Mem) => (WDay z a1 w9 ++ (WDay z a2 m2))) (va_up y1 2 (va_cpy (m2 2) (y1 2) 0 0 8)) rfl (fun y2 ey2 H locs hP hD hS => ?_)
  have hf := lt_use ey2 hf
  refine lv_aload_n hx hb dX2_copy_36 rfl (lv_at hl 0 rfl) ?_
  refine lv_aload_n hx hb dX2_copy_37 rfl (lv_at hl 1 rfl) ?_
  refine va_get (D := D) (ci := 2) (v := .int (m2 0 4)) (C := RX2) (T := TX2) (N := 8) hx hb hts iX2 hown hK hP 15 rfl rfl 4 (by decide) (hts (.fieldLink RX2 46 "FilledForOne$Day" "known" "I") (by decide +kernel)) (fun _ h9 => h9) rfl dX2_copy_38 ?_
  refine z_put (ci := 2) (v := .int (m2 0 4)) (ty := .int) (C := RX2) (T := TX2) (N := 8) hx hb hts iX2 tyX2 tyX2_ok nmX2 hown hK hP hD hS 0 rfl rfl 4 (by decide) (hts (.fieldLink RX2 46 "FilledForOne$Day" "known" "I") (by decide +kernel)) (fun _ h9 => h9) rfl (by decide +kernel) rfl rfl (Nat.le_of_ble_eq_true rfl) dX2_copy_41 (fun (w9 : Mem) => (WDay z a1 w9 ++ (WDay z a2 m2))) (up2 y2 0 4 (m2 0 4)) rfl (fun y3 ey3 H locs hP hD hS => ?_)
  have hf := lt_use ey3 hf
  refine lv_aload_n hx hb dX2_copy_44 rfl (lv_at hl 0 rfl) ?_
  refine lv_aload_n hx hb dX2_copy_45 rfl (lv_at hl 1 rfl) ?_
  refine va_get (D := D) (ci := 2) (v := .int (m2 0 5)) (C := RX2) (T := TX2) (N := 8) hx hb hts iX2 hown hK hP 15 rfl rfl 5 (by decide) (hts (.fieldLink RX2 50 "FilledForOne$Day" "lined" "I") (by decide +kernel)) (fun _ h9 => h9) rfl dX2_copy_46 ?_
  refine z_put (ci := 2) (v := .int (m2 0 5)) (ty := .int) (C := RX2) (T := TX2) (N := 8) hx hb hts iX2 tyX2 tyX2_ok nmX2 hown hK hP hD hS 0 rfl rfl 5 (by decide) (hts (.fieldLink RX2 50 "FilledForOne$Day" "lined" "I") (by decide +kernel)) (fun _ h9 => h9) rfl (by decide +kernel) rfl rfl (Nat.le_of_ble_eq_true rfl) dX2_copy_49 (fun (w9 : Mem) => (WDay z a1 w9 ++ (WDay z a2 m2))) (up2 y3 0 5 (m2 0 5)) rfl (fun y4 ey4 H locs hP hD hS => ?_)
  have hf := lt_use ey4 hf
  refine lv_aload_n hx hb dX2_copy_52 rfl (lv_at hl 0 rfl) ?_
  refine lv_aload_n hx hb dX2_copy_53 rfl (lv_at hl 1 rfl) ?_
  refine va_get (D := D) (ci := 2) (v := .int (m2 0 6)) (C := RX2) (T := TX2) (N := 8) hx hb hts iX2 hown hK hP 15 rfl rfl 6 (by decide) (hts (.fieldLink RX2 53 "FilledForOne$Day" "minute" "I") (by decide +kernel)) (fun _ h9 => h9) rfl dX2_copy_54 ?_
  refine z_put (ci := 2) (v := .int (m2 0 6)) (ty := .int) (C := RX2) (T := TX2) (N := 8) hx hb hts iX2 tyX2 tyX2_ok nmX2 hown hK hP hD hS 0 rfl rfl 6 (by decide) (hts (.fieldLink RX2 53 "FilledForOne$Day" "minute" "I") (by decide +kernel)) (fun _ h9 => h9) rfl (by decide +kernel) rfl rfl (Nat.le_of_ble_eq_true rfl) dX2_copy_57 (fun (w9 : Mem) => (WDay z a1 w9 ++ (WDay z a2 m2))) (up2 y4 0 6 (m2 0 6)) rfl (fun y5 ey5 H locs hP hD hS => ?_)
  have hf := lt_use ey5 hf
  refine lv_iconst (v := 0) hx hb dX2_copy_60 (by decide) ?_
  refine lv_istore_n (lv' := [(2, .int 0), (0, .ref (a1 0)), (1, .ref (a2 0))]) hx hb dX2_copy_61 rfl hl (by decide) rfl (fun ls hl => ?_)
  obtain ⟨F8, eF8, hf⟩ := zl2_use hf
  have L62_F8 : ∀ (n : Nat) (x6 : Int32) (y7 : Mem) (H : Heap) (locs : List Loc), va_P D vwCl (WDay z a1 y7 ++ (WDay z a2 m2)) H → va_D A (WDay z a1 y7 ++ (WDay z a2 m2)) → va_S A s.heap H locs → ∀ (ls : Array Slot), lv_has ls 3 [(0, .ref (a1 0)), (1, .ref (a2 0)), (2, .int x6)] → zl2 F8 n x6 y7 = some m1' → GV p l e (headSpec wsX2_copy ({ frames := 2, cells := 0, slots := 0, locals := 43 } : Room)).room s m ([.ref (a1 0), .ref (a2 0)] : List Value).toArray below meth c A D z (WDay z a1 m1' ++ (WDay z a2 m2)) H locs (F0 m 62 ls []) := by
    intro n
    induction n with
    | zero =>
      intro x6 y7 H locs hP hD hS ls hl hf
      exact no_none hf
    | succ n ih10 =>
      intro x6 y7 H locs hP hD hS ls hl hf
      have hf := zl2_s eF8 hf
      refine lv_iload_n hx hb dX2_copy_62 rfl (lv_at hl 2 rfl) ?_
      refine lv_aload_n hx hb dX2_copy_63 rfl (lv_at hl 0 rfl) ?_
      refine va_get (D := D) (ci := 2) (v := .int (y7 0 4)) (C := RX2) (T := TX2) (N := 8) hx hb hts iX2 hown hK hP 0 rfl rfl 4 (by decide) (hts (.fieldLink RX2 46 "FilledForOne$Day" "known" "I") (by decide +kernel)) (fun _ h9 => h9) rfl dX2_copy_64 ?_
      refine lv_icmp_ge (tgt := 91) hx hb dX2_copy_67 (by decide) (fun c11 => ?_) (fun c11 => ?_)
      · have hf := if_t c11 hf
        refine lv_iconst (v := 0) hx hb dX2_copy_91 (by decide) ?_
        refine lv_istore_n (lv' := [(2, .int 0), (0, .ref (a1 0)), (1, .ref (a2 0))]) hx hb dX2_copy_92 rfl hl (by decide) rfl (fun ls hl => ?_)
        obtain ⟨F14, eF14, hf⟩ := zl2_use hf
        have L93_F14 : ∀ (n : Nat) (x12 : Int32) (y13 : Mem) (H : Heap) (locs : List Loc), va_P D vwCl (WDay z a1 y13 ++ (WDay z a2 m2)) H → va_D A (WDay z a1 y13 ++ (WDay z a2 m2)) → va_S A s.heap H locs → ∀ (ls : Array Slot), lv_has ls 3 [(0, .ref (a1 0)), (1, .ref (a2 0)), (2, .int x12)] → zl2 F14 n x12 y13 = some m1' → GV p l e (headSpec wsX2_copy ({ frames := 2, cells := 0, slots := 0, locals := 43 } : Room)).room s m ([.ref (a1 0), .ref (a2 0)] : List Value).toArray below meth c A D z (WDay z a1 m1' ++ (WDay z a2 m2)) H locs (F0 m 93 ls []) := by
          intro n
          induction n with
          | zero =>
            intro x12 y13 H locs hP hD hS ls hl hf
            exact no_none hf
          | succ n ih16 =>
            intro x12 y13 H locs hP hD hS ls hl hf
            have hf := zl2_s eF14 hf
            refine lv_iload_n hx hb dX2_copy_93 rfl (lv_at hl 2 rfl) ?_
            refine lv_aload_n hx hb dX2_copy_94 rfl (lv_at hl 0 rfl) ?_
            refine va_get (D := D) (ci := 2) (v := .ref (a1 14)) (C := RX2) (T := TX2) (N := 8) hx hb hts iX2 hown hK hP 0 rfl rfl 2 (by decide) (hts (.fieldLink RX2 32 "FilledForOne$Day" "kettles" "[LFilledForOne$Kettle;") (by decide +kernel)) (fun _ h9 => h9) rfl dX2_copy_95 ?_
            refine z_alen hx hb hK hP 14 2 rfl rfl (v := 2) rfl dX2_copy_98 ?_
            refine lv_icmp_ge (tgt := 123) hx hb dX2_copy_99 (by decide) (fun c17 => ?_) (fun c17 => ?_)
            · have hf := if_t c17 hf
              cases hf
              exact ret_v hx hb hr hlocks hK hP hD hS dX2_copy_123
            · have hf := if_f c17 hf
              refine lv_aload_n hx hb dX2_copy_102 rfl (lv_at hl 0 rfl) ?_
              refine va_get (D := D) (ci := 2) (v := .ref (a1 14)) (C := RX2) (T := TX2) (N := 8) hx hb hts iX2 hown hK hP 0 rfl rfl 2 (by decide) (hts (.fieldLink RX2 32 "FilledForOne$Day" "kettles" "[LFilledForOne$Kettle;") (by decide +kernel)) (fun _ h9 => h9) rfl dX2_copy_103 ?_
              refine lv_iload_n hx hb dX2_copy_106 rfl (lv_at hl 2 rfl) ?_
              obtain ⟨h18, hf⟩ := ck_use hf
              refine z_ald hx hb hK hP 14 2 (C := "FilledForOne$Kettle") (g := (fun j => a1 (3 + j))) rfl rfl h18 dX2_copy_107 ?_
              refine lv_aload_n hx hb dX2_copy_108 rfl (lv_at hl 1 rfl) ?_
              refine va_get (D := D) (ci := 2) (v := .ref (a2 14)) (C := RX2) (T := TX2) (N := 8) hx hb hts iX2 hown hK hP 15 rfl rfl 2 (by decide) (hts (.fieldLink RX2 32 "FilledForOne$Day" "kettles" "[LFilledForOne$Kettle;") (by decide +kernel)) (fun _ h9 => h9) rfl dX2_copy_109 ?_
              refine lv_iload_n hx hb dX2_copy_112 rfl (lv_at hl 2 rfl) ?_
              obtain ⟨h19, hf⟩ := ck_use hf
              refine z_ald hx hb hK hP 29 2 (C := "FilledForOne$Kettle") (g := (fun j => a2 (3 + j))) rfl rfl h19 dX2_copy_113 ?_
              obtain ⟨y20, q21, hf⟩ := bd_use hf
              obtain ⟨y22, ey22⟩ : ∃ w : Mem, w = va_up y13 (3 + x12.toNatClampNeg) y20 := ⟨_, rfl⟩
              have hf := lt_use ey22 hf
              refine z_goV (va_runV (As := [.ref (a2 (3 + x12.toNatClampNeg))]) (rest := []) ⟨hx, hb, hml, hown, hts⟩ (tX3_copy l D z tt (a1 (3 + x12.toNatClampNeg)) (a2 (3 + x12.toNatClampNeg)) (y13 (3 + x12.toNatClampNeg)) (m2 (3 + x12.toNatClampNeg))  fu y20 q21 _) (cwV 1 hts gX2_copy_X3_copy rfl rfl rfl (by decide +kernel) ⟨Nat.le_of_ble_eq_true rfl, Nat.le_of_ble_eq_true rfl⟩) (z_preV hK hP hD hS hA hT hN [(3 + x12.toNatClampNeg), (15 + (3 + x12.toNatClampNeg))] (js2 (w_beg (WDay_k z a1 y13 (vp_lt h18))) (w_skip (n := 15) rfl (WDay_k z a2 m2 (vp_lt h19)))) (nd2 (by have := (vp_lt h18); have := (vp_lt h19); omega)) (va_recv hK hP (ci := 3) (q0 := (3 + x12.toNatClampNeg)) rfl (w_beg (WDay_k z a1 y13 (vp_lt h18))))) rfl rfl hl.1 rfl (lv_room (Nat.le_of_ble_eq_true rfl)) dX2_copy_114 ⟨Nat.zero_le _, Nat.zero_le _⟩) hP hD hS hA [(3 + x12.toNatClampNeg), (15 + (3 + x12.toNatClampNeg))] (js2 (w_beg (WDay_k z a1 y13 (vp_lt h18))) (w_skip (n := 15) rfl (WDay_k z a2 m2 (vp_lt h19)))) (nd2 (by have := (vp_lt h18); have := (vp_lt h19); omega)) rfl (ws1 := (WDay z a1 y22 ++ (WDay z a2 m2))) (by rw [ey22]; exact (set2_same (s_beg (WDay_k z a1 y13 (vp_lt h18)) (WDay_sk z a1 y13 y20 (vp_lt h18))) (w_skip (n := 15) rfl (WDay_k z a2 m2 (vp_lt h19))) (by have := (vp_lt h18); have := (vp_lt h19); omega))) (fun H locs hP hD hS => ?_)
              obtain ⟨x23, ex23⟩ : ∃ y : Int32, y = x12 + 1 := ⟨_, rfl⟩
              have hf := lt_use ex23 hf
              refine lv_iinc (v := x23) (lv' := [(2, .int x23), (0, .ref (a1 0)), (1, .ref (a2 0))]) hx hb dX2_copy_117 hl (k := 2) rfl (by rw [ex23]; rfl) (by decide) rfl (fun ls hl => ?_)
              refine lv_goto (tgt := 93) hx hb dX2_copy_120 (by decide) ?_
              exact ih16 _ _ _ _ hP hD hS _ (lv_sub hl [1, 2, 0] rfl) hf
        exact L93_F14 fu _ _ _ _ hP hD hS _ (lv_sub hl [1, 2, 0] rfl) hf
      · have hf := if_f c11 hf
        refine lv_aload_n hx hb dX2_copy_70 rfl (lv_at hl 0 rfl) ?_
        refine va_get (D := D) (ci := 2) (v := .ref (a1 13)) (C := RX2) (T := TX2) (N := 8) hx hb hts iX2 hown hK hP 0 rfl rfl 1 (by decide) (hts (.fieldLink RX2 25 "FilledForOne$Day" "comers" "[LFilledForOne$Comer;") (by decide +kernel)) (fun _ h9 => h9) rfl dX2_copy_71 ?_
        refine lv_iload_n hx hb dX2_copy_74 rfl (lv_at hl 2 rfl) ?_
        obtain ⟨h24, hf⟩ := ck_use hf
        refine z_ald hx hb hK hP 13 1 (C := "FilledForOne$Comer") (g := (fun j => a1 (5 + j))) rfl rfl h24 dX2_copy_75 ?_
        refine lv_aload_n hx hb dX2_copy_76 rfl (lv_at hl 1 rfl) ?_
        refine va_get (D := D) (ci := 2) (v := .ref (a2 13)) (C := RX2) (T := TX2) (N := 8) hx hb hts iX2 hown hK hP 15 rfl rfl 1 (by decide) (hts (.fieldLink RX2 25 "FilledForOne$Day" "comers" "[LFilledForOne$Comer;") (by decide +kernel)) (fun _ h9 => h9) rfl dX2_copy_77 ?_
        refine lv_iload_n hx hb dX2_copy_80 rfl (lv_at hl 2 rfl) ?_
        obtain ⟨h25, hf⟩ := ck_use hf
        refine z_ald hx hb hK hP 28 1 (C := "FilledForOne$Comer") (g := (fun j => a2 (5 + j))) rfl rfl h25 dX2_copy_81 ?_
        obtain ⟨y26, q27, hf⟩ := bd_use hf
        obtain ⟨y28, ey28⟩ : ∃ w : Mem, w = va_up y7 (5 + x6.toNatClampNeg) y26 := ⟨_, rfl⟩
        have hf := lt_use ey28 hf
        refine z_goV (va_runV (As := [.ref (a2 (5 + x6.toNatClampNeg))]) (rest := []) ⟨hx, hb, hml, hown, hts⟩ (tX1_copy l D z tt (a1 (5 + x6.toNatClampNeg)) (a2 (5 + x6.toNatClampNeg)) (y7 (5 + x6.toNatClampNeg)) (m2 (5 + x6.toNatClampNeg))  fu y26 q27 _) (cwV 1 hts gX2_copy_X1_copy rfl rfl rfl (by decide +kernel) ⟨Nat.le_of_ble_eq_true rfl, Nat.le_of_ble_eq_true rfl⟩) (z_preV hK hP hD hS hA hT hN [(5 + x6.toNatClampNeg), (15 + (5 + x6.toNatClampNeg))] (js2 (w_beg (WDay_c z a1 y7 (vp_lt h24))) (w_skip (n := 15) rfl (WDay_c z a2 m2 (vp_lt h25)))) (nd2 (by have := (vp_lt h24); have := (vp_lt h25); omega)) (va_recv hK hP (ci := 1) (q0 := (5 + x6.toNatClampNeg)) rfl (w_beg (WDay_c z a1 y7 (vp_lt h24))))) rfl rfl hl.1 rfl (lv_room (Nat.le_of_ble_eq_true rfl)) dX2_copy_82 ⟨Nat.zero_le _, Nat.zero_le _⟩) hP hD hS hA [(5 + x6.toNatClampNeg), (15 + (5 + x6.toNatClampNeg))] (js2 (w_beg (WDay_c z a1 y7 (vp_lt h24))) (w_skip (n := 15) rfl (WDay_c z a2 m2 (vp_lt h25)))) (nd2 (by have := (vp_lt h24); have := (vp_lt h25); omega)) rfl (ws1 := (WDay z a1 y28 ++ (WDay z a2 m2))) (by rw [ey28]; exact (set2_same (s_beg (WDay_c z a1 y7 (vp_lt h24)) (WDay_sc z a1 y7 y26 (vp_lt h24))) (w_skip (n := 15) rfl (WDay_c z a2 m2 (vp_lt h25))) (by have := (vp_lt h24); have := (vp_lt h25); omega))) (fun H locs hP hD hS => ?_)
        obtain ⟨x29, ex29⟩ : ∃ y : Int32, y = x6 + 1 := ⟨_, rfl⟩
        have hf := lt_use ex29 hf
        refine lv_iinc (v := x29) (lv' := [(2, .int x29), (0, .ref (a1 0)), (1, .ref (a2 0))]) hx hb dX2_copy_85 hl (k := 2) rfl (by rw [ex29]; rfl) (by decide) rfl (fun ls hl => ?_)
        refine lv_goto (tgt := 62) hx hb dX2_copy_88 (by decide) ?_
        exact ih10 _ _ _ _ hP hD hS _ (lv_sub hl [1, 2, 0] rfl) hf
  exact L62_F8 fu _ _ _ _ hP hD hS _ (lv_sub hl [1, 2, 0] rfl) hf
def pX2_begin (fu : Nat) (m1 : Mem) : Option Mem :=
  lt' (up2 m1 0 6 0) fun y1 =>
  lt' (up2 y1 0 5 0) fun y2 =>
  zl2 (fun g6 (x3 : Int32) (y4 : Mem) =>
    if (y4 0 4) ≤ x3 then
      zl2 (fun g12 (x9 : Int32) (y10 : Mem) =>
        if 2 ≤ x9 then
          some y10
        else
          ck x9 2 <|
          bd (pX3_begin fu (y10 (3 + x9.toNatClampNeg))) fun y16 =>
          lt' (va_up y10 (3 + x9.toNatClampNeg) y16) fun y18 =>
          lt' (x9 + 1) fun x19 =>
          g12 x19 y18) fu 0 y4
    else
      ck x3 8 <|
      lt' (up2 y4 (5 + x3.toNatClampNeg) 5 0) fun y21 =>
      lt' (x3 + 1) fun x22 =>
      g6 x22 y21) fu 0 y2
set_option maxHeartbeats 4000000 in
set_option maxRecDepth 100000 in
theorem tX2_begin (l : Launch) (D : va_G) (z tt : Nat → Nat) (a1 : Nat → Nat) (m1 : Mem)  (fu : Nat) (m1' : Mem) (hf : pX2_begin fu m1 = some m1') : MetV l yX2_begin wsX2_begin ({ frames := 1, cells := 0, slots := 0, locals := 20 } : Room) D z tt ([.ref (a1 0)] : List Value) (WDay z a1 m1) (WDay z a1 m1') := by
  intro sz
  refine Met.ofW (cc := cX2_begin) (maxL := 2) (ret := none) (by decide) rfl ?_
  intro p e s m args below meth c s₁ B hml hv
  obtain ⟨rfl, hsz, hP, hK, hD0, hT, hN⟩ := hv
  have hx := B.exec
  have hb := B.bytes
  have hr := B.returns
  have hts := atoms_spec (ws := wsX2_begin) B.pre
  have hown : s.vm.findClass RX2 = some m.cls := findClass_of_methodNamed B.named
  have hlocks := B.notSynchronized
  subst hsz
  have hD := hD0.self (sz := s.heap.size)
  generalize hAe : va_A (WDay z a1 m1) s.heap.size = A at hD hT ⊢
  have hA : ∀ q : Nat, s.heap.size ≤ q → A q := fun q h => by rw [← hAe]; exact Or.inr h
  have hS : va_S A s.heap s.heap [] := va_S.rf
  have hl := lv_entry ([.ref (a1 0)] : List Value) (n := 2) (Nat.le_of_ble_eq_true rfl)
  rw [lg_entry_eq]
  generalize (lg_sl ([.ref (a1 0)] : List Value) ++ List.replicate (2 - (lg_sl ([.ref (a1 0)] : List Value)).length) Slot.unset).toArray = ls at hl ⊢
  have hl : lv_has ls 2 [(0, .ref (a1 0))] := hl
  have iX1 : ∀ w ∈ wsX10, w ∈ wsX2_begin := by decide +kernel
  have iX2 : ∀ w ∈ wsX20, w ∈ wsX2_begin := by decide +kernel
  unfold pX2_begin at hf
  refine lv_aload_n hx hb dX2_begin_0 rfl (lv_at hl 0 rfl) ?_
  refine lv_iconst (v := 0) hx hb dX2_begin_1 (by decide) ?_
  refine z_put (ci := 2) (v := .int 0) (ty := .int) (C := RX2) (T := TX2) (N := 8) hx hb hts iX2 tyX2 tyX2_ok nmX2 hown hK hP hD hS 0 rfl rfl 6 (by decide) (hts (.fieldLink RX2 53 "FilledForOne$Day" "minute" "I") (by decide +kernel)) (fun _ h9 => h9) rfl (by decide +kernel) rfl rfl (Nat.le_of_ble_eq_true rfl) dX2_begin_2 (fun (w9 : Mem) => (WDay z a1 w9)) (up2 m1 0 6 0) rfl (fun y1 ey1 H locs hP hD hS => ?_)
  have hf := lt_use ey1 hf
  refine lv_aload_n hx hb dX2_begin_5 rfl (lv_at hl 0 rfl) ?_
  refine lv_iconst (v := 0) hx hb dX2_begin_6 (by decide) ?_
  refine z_put (ci := 2) (v := .int 0) (ty := .int) (C := RX2) (T := TX2) (N := 8) hx hb hts iX2 tyX2 tyX2_ok nmX2 hown hK hP hD hS 0 rfl rfl 5 (by decide) (hts (.fieldLink RX2 50 "FilledForOne$Day" "lined" "I") (by decide +kernel)) (fun _ h9 => h9) rfl (by decide +kernel) rfl rfl (Nat.le_of_ble_eq_true rfl) dX2_begin_7 (fun (w9 : Mem) => (WDay z a1 w9)) (up2 y1 0 5 0) rfl (fun y2 ey2 H locs hP hD hS => ?_)
  have hf := lt_use ey2 hf
  refine lv_iconst (v := 0) hx hb dX2_begin_10 (by decide) ?_
  refine lv_istore_n (lv' := [(1, .int 0), (0, .ref (a1 0))]) hx hb dX2_begin_11 rfl hl (by decide) rfl (fun ls hl => ?_)
  obtain ⟨F5, eF5, hf⟩ := zl2_use hf
  have L12_F5 : ∀ (n : Nat) (x3 : Int32) (y4 : Mem) (H : Heap) (locs : List Loc), va_P D vwCl (WDay z a1 y4) H → va_D A (WDay z a1 y4) → va_S A s.heap H locs → ∀ (ls : Array Slot), lv_has ls 2 [(0, .ref (a1 0)), (1, .int x3)] → zl2 F5 n x3 y4 = some m1' → GV p l e (headSpec wsX2_begin ({ frames := 1, cells := 0, slots := 0, locals := 20 } : Room)).room s m ([.ref (a1 0)] : List Value).toArray below meth c A D z (WDay z a1 m1') H locs (F0 m 12 ls []) := by
    intro n
    induction n with
    | zero =>
      intro x3 y4 H locs hP hD hS ls hl hf
      exact no_none hf
    | succ n ih7 =>
      intro x3 y4 H locs hP hD hS ls hl hf
      have hf := zl2_s eF5 hf
      refine lv_iload_n hx hb dX2_begin_12 rfl (lv_at hl 1 rfl) ?_
      refine lv_aload_n hx hb dX2_begin_13 rfl (lv_at hl 0 rfl) ?_
      refine va_get (D := D) (ci := 2) (v := .int (y4 0 4)) (C := RX2) (T := TX2) (N := 8) hx hb hts iX2 hown hK hP 0 rfl rfl 4 (by decide) (hts (.fieldLink RX2 46 "FilledForOne$Day" "known" "I") (by decide +kernel)) (fun _ h9 => h9) rfl dX2_begin_14 ?_
      refine lv_icmp_ge (tgt := 36) hx hb dX2_begin_17 (by decide) (fun c8 => ?_) (fun c8 => ?_)
      · have hf := if_t c8 hf
        refine lv_iconst (v := 0) hx hb dX2_begin_36 (by decide) ?_
        refine lv_istore_n (lv' := [(1, .int 0), (0, .ref (a1 0))]) hx hb dX2_begin_37 rfl hl (by decide) rfl (fun ls hl => ?_)
        obtain ⟨F11, eF11, hf⟩ := zl2_use hf
        have L38_F11 : ∀ (n : Nat) (x9 : Int32) (y10 : Mem) (H : Heap) (locs : List Loc), va_P D vwCl (WDay z a1 y10) H → va_D A (WDay z a1 y10) → va_S A s.heap H locs → ∀ (ls : Array Slot), lv_has ls 2 [(0, .ref (a1 0)), (1, .int x9)] → zl2 F11 n x9 y10 = some m1' → GV p l e (headSpec wsX2_begin ({ frames := 1, cells := 0, slots := 0, locals := 20 } : Room)).room s m ([.ref (a1 0)] : List Value).toArray below meth c A D z (WDay z a1 m1') H locs (F0 m 38 ls []) := by
          intro n
          induction n with
          | zero =>
            intro x9 y10 H locs hP hD hS ls hl hf
            exact no_none hf
          | succ n ih13 =>
            intro x9 y10 H locs hP hD hS ls hl hf
            have hf := zl2_s eF11 hf
            refine lv_iload_n hx hb dX2_begin_38 rfl (lv_at hl 1 rfl) ?_
            refine lv_aload_n hx hb dX2_begin_39 rfl (lv_at hl 0 rfl) ?_
            refine va_get (D := D) (ci := 2) (v := .ref (a1 14)) (C := RX2) (T := TX2) (N := 8) hx hb hts iX2 hown hK hP 0 rfl rfl 2 (by decide) (hts (.fieldLink RX2 32 "FilledForOne$Day" "kettles" "[LFilledForOne$Kettle;") (by decide +kernel)) (fun _ h9 => h9) rfl dX2_begin_40 ?_
            refine z_alen hx hb hK hP 14 2 rfl rfl (v := 2) rfl dX2_begin_43 ?_
            refine lv_icmp_ge (tgt := 62) hx hb dX2_begin_44 (by decide) (fun c14 => ?_) (fun c14 => ?_)
            · have hf := if_t c14 hf
              cases hf
              exact ret_v hx hb hr hlocks hK hP hD hS dX2_begin_62
            · have hf := if_f c14 hf
              refine lv_aload_n hx hb dX2_begin_47 rfl (lv_at hl 0 rfl) ?_
              refine va_get (D := D) (ci := 2) (v := .ref (a1 14)) (C := RX2) (T := TX2) (N := 8) hx hb hts iX2 hown hK hP 0 rfl rfl 2 (by decide) (hts (.fieldLink RX2 32 "FilledForOne$Day" "kettles" "[LFilledForOne$Kettle;") (by decide +kernel)) (fun _ h9 => h9) rfl dX2_begin_48 ?_
              refine lv_iload_n hx hb dX2_begin_51 rfl (lv_at hl 1 rfl) ?_
              obtain ⟨h15, hf⟩ := ck_use hf
              refine z_ald hx hb hK hP 14 2 (C := "FilledForOne$Kettle") (g := (fun j => a1 (3 + j))) rfl rfl h15 dX2_begin_52 ?_
              obtain ⟨y16, q17, hf⟩ := bd_use hf
              obtain ⟨y18, ey18⟩ : ∃ w : Mem, w = va_up y10 (3 + x9.toNatClampNeg) y16 := ⟨_, rfl⟩
              have hf := lt_use ey18 hf
              refine z_goV (va_runV (As := []) (rest := []) ⟨hx, hb, hml, hown, hts⟩ (tX3_begin l D z tt (a1 (3 + x9.toNatClampNeg)) (y10 (3 + x9.toNatClampNeg))  fu y16 q17 _) (cwV 0 hts gX2_begin_X3_begin rfl rfl rfl (by decide +kernel) ⟨Nat.le_of_ble_eq_true rfl, Nat.le_of_ble_eq_true rfl⟩) (z_preV hK hP hD hS hA hT hN [(3 + x9.toNatClampNeg)] (js1 (WDay_k z a1 y10 (vp_lt h15))) (nd1 _) (va_recv hK hP (ci := 3) (q0 := (3 + x9.toNatClampNeg)) rfl (WDay_k z a1 y10 (vp_lt h15)))) rfl rfl hl.1 rfl (lv_room (Nat.le_of_ble_eq_true rfl)) dX2_begin_53 ⟨Nat.zero_le _, Nat.zero_le _⟩) hP hD hS hA [(3 + x9.toNatClampNeg)] (js1 (WDay_k z a1 y10 (vp_lt h15))) (nd1 _) rfl (ws1 := (WDay z a1 y18)) (by rw [ey18]; exact (WDay_sk z a1 y10 y16 (vp_lt h15))) (fun H locs hP hD hS => ?_)
              obtain ⟨x19, ex19⟩ : ∃ y : Int32, y = x9 + 1 := ⟨_, rfl⟩
              have hf := lt_use ex19 hf
              refine lv_iinc (v := x19) (lv' := [(1, .int x19), (0, .ref (a1 0))]) hx hb dX2_begin_56 hl (k := 1) rfl (by rw [ex19]; rfl) (by decide) rfl (fun ls hl => ?_)
              refine lv_goto (tgt := 38) hx hb dX2_begin_59 (by decide) ?_
              exact ih13 _ _ _ _ hP hD hS _ (lv_sub hl [1, 0] rfl) hf
        exact L38_F11 fu _ _ _ _ hP hD hS _ (lv_sub hl [1, 0] rfl) hf
      · have hf := if_f c8 hf
        refine lv_aload_n hx hb dX2_begin_20 rfl (lv_at hl 0 rfl) ?_
        refine va_get (D := D) (ci := 2) (v := .ref (a1 13)) (C := RX2) (T := TX2) (N := 8) hx hb hts iX2 hown hK hP 0 rfl rfl 1 (by decide) (hts (.fieldLink RX2 25 "FilledForOne$Day" "comers" "[LFilledForOne$Comer;") (by decide +kernel)) (fun _ h9 => h9) rfl dX2_begin_21 ?_
        refine lv_iload_n hx hb dX2_begin_24 rfl (lv_at hl 1 rfl) ?_
        obtain ⟨h20, hf⟩ := ck_use hf
        refine z_ald hx hb hK hP 13 1 (C := "FilledForOne$Comer") (g := (fun j => a1 (5 + j))) rfl rfl h20 dX2_begin_25 ?_
        refine lv_iconst (v := 0) hx hb dX2_begin_26 (by decide) ?_
        refine z_put (ci := 1) (v := .int 0) (ty := .int) (C := RX1) (T := TX1) (N := 7) hx hb hts iX1 tyX1 tyX1_ok nmX1 hown hK hP hD hS (5 + x3.toNatClampNeg) (WDay_c z a1 y4 (vp_lt h20)) rfl 5 (by decide) (hts (.fieldLink RX2 63 "FilledForOne$Comer" "state" "I") (by decide +kernel)) (fun _ h9 => h9) rfl (by decide +kernel) rfl rfl (Nat.le_of_ble_eq_true rfl) dX2_begin_27 (fun (w9 : Mem) => (WDay z a1 w9)) (up2 y4 (5 + x3.toNatClampNeg) 5 0) (WDay_sc z a1 y4 (upd (y4 (5 + x3.toNatClampNeg)) 5 0) (vp_lt h20)) (fun y21 ey21 H locs hP hD hS => ?_)
        have hf := lt_use ey21 hf
        obtain ⟨x22, ex22⟩ : ∃ y : Int32, y = x3 + 1 := ⟨_, rfl⟩
        have hf := lt_use ex22 hf
        refine lv_iinc (v := x22) (lv' := [(1, .int x22), (0, .ref (a1 0))]) hx hb dX2_begin_30 hl (k := 1) rfl (by rw [ex22]; rfl) (by decide) rfl (fun ls hl => ?_)
        refine lv_goto (tgt := 12) hx hb dX2_begin_33 (by decide) ?_
        exact ih7 _ _ _ _ hP hD hS _ (lv_sub hl [1, 0] rfl) hf
  exact L12_F5 fu _ _ _ _ hP hD hS _ (lv_sub hl [1, 0] rfl) hf
def pX2_hasComer (fu : Nat) (m1 : Mem) (p1 : Int32) : Option Int32 :=
  if p1 < 0 then
    some 0
  else
    if (m1 0 4) ≤ p1 then
      some 0
    else
      some 1
set_option maxHeartbeats 4000000 in
set_option maxRecDepth 100000 in
theorem tX2_hasComer (l : Launch) (D : va_G) (z tt : Nat → Nat) (a1 : Nat → Nat) (m1 : Mem) (p1 : Int32) (fu : Nat) (rr : Int32) (hf : pX2_hasComer fu m1 p1 = some rr) : MetI l yX2_hasComer wsX2_hasComer ({ frames := 0, cells := 0, slots := 0, locals := 0 } : Room) D z tt ([.ref (a1 0), .int p1] : List Value) (WDay z a1 m1) rr (WDay z a1 m1) := by
  intro sz
  refine Met.ofW (cc := cX2_hasComer) (maxL := 2) (ret := (some .boolean)) (by decide) rfl ?_
  intro p e s m args below meth c s₁ B hml hv
  obtain ⟨rfl, hsz, hP, hK, hD0, hT, hN⟩ := hv
  have hx := B.exec
  have hb := B.bytes
  have hr := B.returns
  have hts := atoms_spec (ws := wsX2_hasComer) B.pre
  have hown : s.vm.findClass RX2 = some m.cls := findClass_of_methodNamed B.named
  have hlocks := B.notSynchronized
  subst hsz
  have hD := hD0.self (sz := s.heap.size)
  generalize hAe : va_A (WDay z a1 m1) s.heap.size = A at hD hT ⊢
  have hA : ∀ q : Nat, s.heap.size ≤ q → A q := fun q h => by rw [← hAe]; exact Or.inr h
  have hS : va_S A s.heap s.heap [] := va_S.rf
  have hl := lv_entry ([.ref (a1 0), .int p1] : List Value) (n := 2) (Nat.le_of_ble_eq_true rfl)
  rw [lg_entry_eq]
  generalize (lg_sl ([.ref (a1 0), .int p1] : List Value) ++ List.replicate (2 - (lg_sl ([.ref (a1 0), .int p1] : List Value)).length) Slot.unset).toArray = ls at hl ⊢
  have hl : lv_has ls 2 [(0, .ref (a1 0)), (1, .int p1)] := hl
  have iX2 : ∀ w ∈ wsX20, w ∈ wsX2_hasComer := by decide +kernel
  unfold pX2_hasComer at hf
  refine lv_iload_n hx hb dX2_hasComer_0 rfl (lv_at hl 1 rfl) ?_
  refine lv_if_lt (tgt := 16) hx hb dX2_hasComer_1 (by decide) (fun c1 => ?_) (fun c1 => ?_)
  · have hf := if_t c1 hf
    refine lv_iconst (v := 0) hx hb dX2_hasComer_16 (by decide) ?_
    cases hf
    exact ret_z hx hb hr hlocks hK hP hD hS (by decide) dX2_hasComer_17
  · have hf := if_f c1 hf
    refine lv_iload_n hx hb dX2_hasComer_4 rfl (lv_at hl 1 rfl) ?_
    refine lv_aload_n hx hb dX2_hasComer_5 rfl (lv_at hl 0 rfl) ?_
    refine va_get (D := D) (ci := 2) (v := .int (m1 0 4)) (C := RX2) (T := TX2) (N := 8) hx hb hts iX2 hown hK hP 0 rfl rfl 4 (by decide) (hts (.fieldLink RX2 46 "FilledForOne$Day" "known" "I") (by decide +kernel)) (fun _ h9 => h9) rfl dX2_hasComer_6 ?_
    refine lv_icmp_ge (tgt := 16) hx hb dX2_hasComer_9 (by decide) (fun c2 => ?_) (fun c2 => ?_)
    · have hf := if_t c2 hf
      refine lv_iconst (v := 0) hx hb dX2_hasComer_16 (by decide) ?_
      cases hf
      exact ret_z hx hb hr hlocks hK hP hD hS (by decide) dX2_hasComer_17
    · have hf := if_f c2 hf
      refine lv_iconst (v := 1) hx hb dX2_hasComer_12 (by decide) ?_
      refine lv_goto (tgt := 17) hx hb dX2_hasComer_13 (by decide) ?_
      cases hf
      exact ret_z hx hb hr hlocks hK hP hD hS (by decide) dX2_hasComer_17
def pX2_kettlesInUse (fu : Nat) (m1 : Mem) : Option Int32 :=
  some (m1 1 7)
set_option maxHeartbeats 4000000 in
set_option maxRecDepth 100000 in
theorem tX2_kettlesInUse (l : Launch) (D : va_G) (z tt : Nat → Nat) (a1 : Nat → Nat) (m1 : Mem)  (fu : Nat) (rr : Int32) (hf : pX2_kettlesInUse fu m1 = some rr) : MetI l yX2_kettlesInUse wsX2_kettlesInUse ({ frames := 0, cells := 0, slots := 0, locals := 0 } : Room) D z tt ([.ref (a1 0)] : List Value) (WDay z a1 m1) rr (WDay z a1 m1) := by
  intro sz
  refine Met.ofW (cc := cX2_kettlesInUse) (maxL := 1) (ret := (some .int)) (by decide) rfl ?_
  intro p e s m args below meth c s₁ B hml hv
  obtain ⟨rfl, hsz, hP, hK, hD0, hT, hN⟩ := hv
  have hx := B.exec
  have hb := B.bytes
  have hr := B.returns
  have hts := atoms_spec (ws := wsX2_kettlesInUse) B.pre
  have hown : s.vm.findClass RX2 = some m.cls := findClass_of_methodNamed B.named
  have hlocks := B.notSynchronized
  subst hsz
  have hD := hD0.self (sz := s.heap.size)
  generalize hAe : va_A (WDay z a1 m1) s.heap.size = A at hD hT ⊢
  have hA : ∀ q : Nat, s.heap.size ≤ q → A q := fun q h => by rw [← hAe]; exact Or.inr h
  have hS : va_S A s.heap s.heap [] := va_S.rf
  have hl := lv_entry ([.ref (a1 0)] : List Value) (n := 1) (Nat.le_of_ble_eq_true rfl)
  rw [lg_entry_eq]
  generalize (lg_sl ([.ref (a1 0)] : List Value) ++ List.replicate (1 - (lg_sl ([.ref (a1 0)] : List Value)).length) Slot.unset).toArray = ls at hl ⊢
  have hl : lv_has ls 1 [(0, .ref (a1 0))] := hl
  have iX2 : ∀ w ∈ wsX20, w ∈ wsX2_kettlesInUse := by decide +kernel
  unfold pX2_kettlesInUse at hf
  refine lv_aload_n hx hb dX2_kettlesInUse_0 rfl (lv_at hl 0 rfl) ?_
  refine va_get (D := D) (ci := 2) (v := .ref (a1 1)) (C := RX2) (T := TX2) (N := 8) hx hb hts iX2 hown hK hP 0 rfl rfl 0 (by decide) (hts (.fieldLink RX2 18 "FilledForOne$Day" "settings" "[I") (by decide +kernel)) (fun _ h9 => h9) rfl dX2_kettlesInUse_1 ?_
  refine lv_bipush (v := 7) hx hb dX2_kettlesInUse_4 (by decide) ?_
  refine z_ialdc hx hb hK hP 1 rfl (i := 7) (k := 7) (by decide) (Nat.le_of_ble_eq_true rfl) dX2_kettlesInUse_6 ?_
  cases hf
  exact ret_i hx hb hr hlocks hK hP hD hS dX2_kettlesInUse_7
def pX2_highestLevel (fu : Nat) (m1 : Mem) : Option Int32 :=
  zl2 (fun g4 (x1 : Int32) (x2 : Int32) =>
    bd (pX2_kettlesInUse fu m1) fun r6 =>
    if r6 ≤ x2 then
      some x1
    else
      ck x2 2 <|
      lt' ((imax x1 (m1 (3 + x2.toNatClampNeg) 0)) : Int32) fun x10 =>
      lt' (x2 + 1) fun x11 =>
      g4 x10 x11) fu 0 0
set_option maxHeartbeats 4000000 in
set_option maxRecDepth 100000 in
theorem tX2_highestLevel (l : Launch) (D : va_G) (z tt : Nat → Nat) (a1 : Nat → Nat) (m1 : Mem)  (fu : Nat) (rr : Int32) (hf : pX2_highestLevel fu m1 = some rr) : MetI l yX2_highestLevel wsX2_highestLevel ({ frames := 1, cells := 0, slots := 0, locals := 20 } : Room) D z tt ([.ref (a1 0)] : List Value) (WDay z a1 m1) rr (WDay z a1 m1) := by
  intro sz
  refine Met.ofW (cc := cX2_highestLevel) (maxL := 3) (ret := (some .int)) (by decide) rfl ?_
  intro p e s m args below meth c s₁ B hml hv
  obtain ⟨rfl, hsz, hP, hK, hD0, hT, hN⟩ := hv
  have hx := B.exec
  have hb := B.bytes
  have hr := B.returns
  have hts := atoms_spec (ws := wsX2_highestLevel) B.pre
  have hown : s.vm.findClass RX2 = some m.cls := findClass_of_methodNamed B.named
  have hlocks := B.notSynchronized
  subst hsz
  have hD := hD0.self (sz := s.heap.size)
  generalize hAe : va_A (WDay z a1 m1) s.heap.size = A at hD hT ⊢
  have hA : ∀ q : Nat, s.heap.size ≤ q → A q := fun q h => by rw [← hAe]; exact Or.inr h
  have hS : va_S A s.heap s.heap [] := va_S.rf
  have hl := lv_entry ([.ref (a1 0)] : List Value) (n := 3) (Nat.le_of_ble_eq_true rfl)
  rw [lg_entry_eq]
  generalize (lg_sl ([.ref (a1 0)] : List Value) ++ List.replicate (3 - (lg_sl ([.ref (a1 0)] : List Value)).length) Slot.unset).toArray = ls at hl ⊢
  have hl : lv_has ls 3 [(0, .ref (a1 0))] := hl
  have iX2 : ∀ w ∈ wsX20, w ∈ wsX2_highestLevel := by decide +kernel
  have iX3 : ∀ w ∈ wsX30, w ∈ wsX2_highestLevel := by decide +kernel
  unfold pX2_highestLevel at hf
  refine lv_iconst (v := 0) hx hb dX2_highestLevel_0 (by decide) ?_
  refine lv_istore_n (lv' := [(1, .int 0), (0, .ref (a1 0))]) hx hb dX2_highestLevel_1 rfl hl (by decide) rfl (fun ls hl => ?_)
  refine lv_iconst (v := 0) hx hb dX2_highestLevel_2 (by decide) ?_
  refine lv_istore_n (lv' := [(2, .int 0), (1, .int 0), (0, .ref (a1 0))]) hx hb dX2_highestLevel_3 rfl hl (by decide) rfl (fun ls hl => ?_)
  obtain ⟨F3, eF3, hf⟩ := zl2_use hf
  have L4_F3 : ∀ (n : Nat) (x1 : Int32) (x2 : Int32) (H : Heap) (locs : List Loc), va_P D vwCl (WDay z a1 m1) H → va_D A (WDay z a1 m1) → va_S A s.heap H locs → ∀ (ls : Array Slot), lv_has ls 3 [(0, .ref (a1 0)), (1, .int x1), (2, .int x2)] → zl2 F3 n x1 x2 = some rr → GI p l e (headSpec wsX2_highestLevel ({ frames := 1, cells := 0, slots := 0, locals := 20 } : Room)).room s m ([.ref (a1 0)] : List Value).toArray below meth c A D z rr (WDay z a1 m1) H locs (F0 m 4 ls []) := by
    intro n
    induction n with
    | zero =>
      intro x1 x2 H locs hP hD hS ls hl hf
      exact no_none hf
    | succ n ih5 =>
      intro x1 x2 H locs hP hD hS ls hl hf
      have hf := zl2_s eF3 hf
      refine lv_iload_n hx hb dX2_highestLevel_4 rfl (lv_at hl 2 rfl) ?_
      refine lv_aload_n hx hb dX2_highestLevel_5 rfl (lv_at hl 0 rfl) ?_
      obtain ⟨r6, q7, hf⟩ := bd_use hf
      refine z_goI (va_runV (As := []) (rest := [.int x2]) ⟨hx, hb, hml, hown, hts⟩ (tX2_kettlesInUse l D z tt a1 m1  fu r6 q7 _) (cwV 0 hts gX2_highestLevel_X2_kettlesInUse rfl rfl rfl (by decide +kernel) ⟨Nat.le_of_ble_eq_true rfl, Nat.le_of_ble_eq_true rfl⟩) (z_preV hK hP hD hS hA hT hN [0, 1, 2, 3, 4, 5, 6, 7, 8, 9, 10, 11, 12, 13, 14] rfl rfl (va_recv hK hP (ci := 2) (q0 := 0) rfl rfl)) rfl rfl hl.1 rfl (lv_room (Nat.le_of_ble_eq_true rfl)) dX2_highestLevel_6 ⟨Nat.zero_le _, Nat.zero_le _⟩) hP hD hS hA [0, 1, 2, 3, 4, 5, 6, 7, 8, 9, 10, 11, 12, 13, 14] rfl rfl rfl (ws1 := (WDay z a1 m1)) rfl (fun H locs hP hD hS => ?_)
      refine lv_icmp_ge (tgt := 32) hx hb dX2_highestLevel_9 (by decide) (fun c8 => ?_) (fun c8 => ?_)
      · have hf := if_t c8 hf
        refine lv_iload_n hx hb dX2_highestLevel_32 rfl (lv_at hl 1 rfl) ?_
        cases hf
        exact ret_i hx hb hr hlocks hK hP hD hS dX2_highestLevel_33
      · have hf := if_f c8 hf
        refine lv_iload_n hx hb dX2_highestLevel_12 rfl (lv_at hl 1 rfl) ?_
        refine lv_aload_n hx hb dX2_highestLevel_13 rfl (lv_at hl 0 rfl) ?_
        refine va_get (D := D) (ci := 2) (v := .ref (a1 14)) (C := RX2) (T := TX2) (N := 8) hx hb hts iX2 hown hK hP 0 rfl rfl 2 (by decide) (hts (.fieldLink RX2 32 "FilledForOne$Day" "kettles" "[LFilledForOne$Kettle;") (by decide +kernel)) (fun _ h9 => h9) rfl dX2_highestLevel_14 ?_
        refine lv_iload_n hx hb dX2_highestLevel_17 rfl (lv_at hl 2 rfl) ?_
        obtain ⟨h9, hf⟩ := ck_use hf
        refine z_ald hx hb hK hP 14 2 (C := "FilledForOne$Kettle") (g := (fun j => a1 (3 + j))) rfl rfl h9 dX2_highestLevel_18 ?_
        refine va_get (D := D) (ci := 3) (v := .int (m1 (3 + x2.toNatClampNeg) 0)) (C := RX3) (T := TX3) (N := 5) hx hb hts iX3 hown hK hP (3 + x2.toNatClampNeg) (WDay_k z a1 m1 (vp_lt h9)) rfl 0 (by decide) (hts (.fieldLink RX2 134 "FilledForOne$Kettle" "level" "I") (by decide +kernel)) (fun _ h9 => h9) rfl dX2_highestLevel_19 ?_
        refine z_max hx hb (by rw [hml]; exact hl.1.symm) hown (hts (.methodLink RX2 183 Lib.Math.max.name) (by decide +kernel)) (hts (.static Lib.Math.max.name) (by decide +kernel)) (hts (.initialized "java/lang/Math") (by decide +kernel)) (hts (.code Lib.Math.max.name Lib.Math.max.code 2 (some .int)) (by decide +kernel)) (Nat.le_of_ble_eq_true rfl) (Nat.le_of_ble_eq_true rfl) dX2_highestLevel_22 (Nat.zero_le _) (Nat.zero_le _) ?_
        refine lv_topi (fun x10 ex10 => ?_)
        have hf := lt_use ex10 hf
        refine lv_istore_n (lv' := [(1, .int x10), (0, .ref (a1 0)), (2, .int x2)]) hx hb dX2_highestLevel_25 rfl hl (by decide) rfl (fun ls hl => ?_)
        obtain ⟨x11, ex11⟩ : ∃ y : Int32, y = x2 + 1 := ⟨_, rfl⟩
        have hf := lt_use ex11 hf
        refine lv_iinc (v := x11) (lv' := [(2, .int x11), (1, .int x10), (0, .ref (a1 0))]) hx hb dX2_highestLevel_26 hl (k := 2) rfl (by rw [ex11]; rfl) (by decide) rfl (fun ls hl => ?_)
        refine lv_goto (tgt := 4) hx hb dX2_highestLevel_29 (by decide) ?_
        exact ih5 _ _ _ _ hP hD hS _ (lv_sub hl [2, 1, 0] rfl) hf
  exact L4_F3 fu _ _ _ _ hP hD hS _ (lv_sub hl [2, 1, 0] rfl) hf
def pX2_settingRefusal (fu : Nat) (m1 : Mem) (p1 : Int32) (p2 : Int32) : Option Int32 :=
  if p1 < 0 then
    some (-1)
  else
    if p1 < 8 then
      ck p1 8 <|
      if (List.getD [2, 0, 1, 1, 0, 0, 0, 1] p1.toNatClampNeg 0 : Int32) ≤ p2 then
        ck p1 8 <|
        if p2 ≤ (List.getD [11, 9, 20, 9, 9, 9, 11, 2] p1.toNatClampNeg 0 : Int32) then
          jn1 (fun (x7 : Int32) =>
            jn1 (fun (x9 : Int32) =>
              if x7 = 0 then
                if x9 = 0 then
                  some 0
                else
                  some (-3)
              else
                some (-3)) fun k10 =>
            if p1 = 7 then
              if p2 = (m1 1 7) then
                k10 0
              else
                if (m1 0 6) = 0 then
                  k10 0
                else
                  k10 1
            else
              k10 0) fun k8 =>
          if p1 = 0 then
            bd (pX2_highestLevel fu m1) fun r17 =>
            if r17 ≤ p2 then
              k8 0
            else
              k8 1
          else
            k8 0
        else
          some (-6)
      else
        some (-4)
    else
      some (-1)
set_option maxHeartbeats 4000000 in
set_option maxRecDepth 100000 in
theorem tX2_settingRefusal (l : Launch) (D : va_G) (z tt : Nat → Nat) (a1 : Nat → Nat) (m1 : Mem) (p1 : Int32) (p2 : Int32) (fu : Nat) (rr : Int32) (hf : pX2_settingRefusal fu m1 p1 p2 = some rr) : MetI l yX2_settingRefusal wsX2_settingRefusal ({ frames := 2, cells := 0, slots := 0, locals := 42 } : Room) D z tt ([.ref (a1 0), .int p1, .int p2] : List Value) (WDay z a1 m1) rr (WDay z a1 m1) := by
  intro sz
  refine Met.ofW (cc := cX2_settingRefusal) (maxL := 5) (ret := (some .int)) (by decide) rfl ?_
  intro p e s m args below meth c s₁ B hml hv
  obtain ⟨rfl, hsz, hP, hK, hD0, hT, hN⟩ := hv
  have hx := B.exec
  have hb := B.bytes
  have hr := B.returns
  have hts := atoms_spec (ws := wsX2_settingRefusal) B.pre
  have hown : s.vm.findClass RX2 = some m.cls := findClass_of_methodNamed B.named
  have hlocks := B.notSynchronized
  subst hsz
  have hD := hD0.self (sz := s.heap.size)
  generalize hAe : va_A (WDay z a1 m1) s.heap.size = A at hD hT ⊢
  have hA : ∀ q : Nat, s.heap.size ≤ q → A q := fun q h => by rw [← hAe]; exact Or.inr h
  have hS : va_S A s.heap s.heap [] := va_S.rf
  have hl := lv_entry ([.ref (a1 0), .int p1, .int p2] : List Value) (n := 5) (Nat.le_of_ble_eq_true rfl)
  rw [lg_entry_eq]
  generalize (lg_sl ([.ref (a1 0), .int p1, .int p2] : List Value) ++ List.replicate (5 - (lg_sl ([.ref (a1 0), .int p1, .int p2] : List Value)).length) Slot.unset).toArray = ls at hl ⊢
  have hl : lv_has ls 5 [(0, .ref (a1 0)), (1, .int p1), (2, .int p2)] := hl
  have iX2 : ∀ w ∈ wsX20, w ∈ wsX2_settingRefusal := by decide +kernel
  unfold pX2_settingRefusal at hf
  refine lv_iload_n hx hb dX2_settingRefusal_0 rfl (lv_at hl 1 rfl) ?_
  refine lv_if_lt (tgt := 13) hx hb dX2_settingRefusal_1 (by decide) (fun c1 => ?_) (fun c1 => ?_)
  · have hf := if_t c1 hf
    refine lv_iconst (v := (-1)) hx hb dX2_settingRefusal_13 (by decide) ?_
    cases hf
    exact ret_i hx hb hr hlocks hK hP hD hS dX2_settingRefusal_14
  · have hf := if_f c1 hf
    refine lv_iload_n hx hb dX2_settingRefusal_4 rfl (lv_at hl 1 rfl) ?_
    refine lv_aload_n hx hb dX2_settingRefusal_5 rfl (lv_at hl 0 rfl) ?_
    refine va_get (D := D) (ci := 2) (v := .ref (a1 1)) (C := RX2) (T := TX2) (N := 8) hx hb hts iX2 hown hK hP 0 rfl rfl 0 (by decide) (hts (.fieldLink RX2 18 "FilledForOne$Day" "settings" "[I") (by decide +kernel)) (fun _ h9 => h9) rfl dX2_settingRefusal_6 ?_
    refine z_alen hx hb hK hP 1 0 rfl rfl (v := 8) rfl dX2_settingRefusal_9 ?_
    refine lv_icmp_lt (tgt := 15) hx hb dX2_settingRefusal_10 (by decide) (fun c2 => ?_) (fun c2 => ?_)
    · have hf := if_t c2 hf
      refine lv_iload_n hx hb dX2_settingRefusal_15 rfl (lv_at hl 2 rfl) ?_
      refine va_getsN (v := .ref (tt 1)) (host := "FilledForOne") hx hb hT.2.1.1 hS hown (va_Nw.use rfl hN.2.2.2.2.2.1) (fun _ h9 => h9) dX2_settingRefusal_16 ?_
      refine lv_iload_n hx hb dX2_settingRefusal_19 rfl (lv_at hl 1 rfl) ?_
      obtain ⟨h3, hf⟩ := ck_use hf
      refine va_ti hx hb hT.2.1.2 hS h3 (v := .int (List.getD [2, 0, 1, 1, 0, 0, 0, 1] p1.toNatClampNeg 0 : Int32)) rfl dX2_settingRefusal_20 ?_
      refine lv_icmp_ge (tgt := 27) hx hb dX2_settingRefusal_21 (by decide) (fun c4 => ?_) (fun c4 => ?_)
      · have hf := if_t c4 hf
        refine lv_iload_n hx hb dX2_settingRefusal_27 rfl (lv_at hl 2 rfl) ?_
        refine va_getsN (v := .ref (tt 2)) (host := "FilledForOne") hx hb hT.2.2.1 hS hown (va_Nw.use rfl hN.2.2.2.2.2.2) (fun _ h9 => h9) dX2_settingRefusal_28 ?_
        refine lv_iload_n hx hb dX2_settingRefusal_31 rfl (lv_at hl 1 rfl) ?_
        obtain ⟨h5, hf⟩ := ck_use hf
        refine va_ti hx hb hT.2.2.2 hS h5 (v := .int (List.getD [11, 9, 20, 9, 9, 9, 11, 2] p1.toNatClampNeg 0 : Int32)) rfl dX2_settingRefusal_32 ?_
        refine lv_icmp_le (tgt := 39) hx hb dX2_settingRefusal_33 (by decide) (fun c6 => ?_) (fun c6 => ?_)
        · have hf := if_t c6 hf
          refine lv_iload_n hx hb dX2_settingRefusal_39 rfl (lv_at hl 1 rfl) ?_
          obtain ⟨k8, ek8, hf⟩ := jn1_use hf
          have B56_k8 : ∀ (x7 : Int32) (H : Heap) (locs : List Loc), va_P D vwCl (WDay z a1 m1) H → va_D A (WDay z a1 m1) → va_S A s.heap H locs → ∀ (ls : Array Slot), lv_has ls 5 [(0, .ref (a1 0)), (1, .int p1), (2, .int p2)] → k8 x7 = some rr → GI p l e (headSpec wsX2_settingRefusal ({ frames := 2, cells := 0, slots := 0, locals := 42 } : Room)).room s m ([.ref (a1 0), .int p1, .int p2] : List Value).toArray below meth c A D z rr (WDay z a1 m1) H locs (F0 m 56 ls [.int x7]) := by
            intro x7 H locs hP hD hS ls hl hf
            have hf := jn1_ap ek8 hf
            refine lv_istore_n (lv' := [(3, .int x7), (0, .ref (a1 0)), (1, .int p1), (2, .int p2)]) hx hb dX2_settingRefusal_56 rfl hl (by decide) rfl (fun ls hl => ?_)
            refine lv_iload_n hx hb dX2_settingRefusal_57 rfl (lv_at hl 2 rfl) ?_
            refine lv_bipush (v := 7) hx hb dX2_settingRefusal_58 (by decide) ?_
            obtain ⟨k10, ek10, hf⟩ := jn1_use hf
            have B86_k10 : ∀ (x9 : Int32) (H : Heap) (locs : List Loc), va_P D vwCl (WDay z a1 m1) H → va_D A (WDay z a1 m1) → va_S A s.heap H locs → ∀ (ls : Array Slot), lv_has ls 5 [(3, .int x7)] → k10 x9 = some rr → GI p l e (headSpec wsX2_settingRefusal ({ frames := 2, cells := 0, slots := 0, locals := 42 } : Room)).room s m ([.ref (a1 0), .int p1, .int p2] : List Value).toArray below meth c A D z rr (WDay z a1 m1) H locs (F0 m 86 ls [.int x9]) := by
              intro x9 H locs hP hD hS ls hl hf
              have hf := jn1_ap ek10 hf
              refine lv_istore (lv' := [(4, .int x9), (3, .int x7)]) hx hb dX2_settingRefusal_86 hl (by decide) rfl (fun ls hl => ?_)
              refine lv_iload_n hx hb dX2_settingRefusal_88 rfl (lv_at hl 1 rfl) ?_
              refine lv_if_ne (tgt := 97) hx hb dX2_settingRefusal_89 (by decide) (fun c11 => ?_) (fun c11 => ?_)
              · have hf := if_f c11 hf
                refine lv_bipush (v := (-3)) hx hb dX2_settingRefusal_97 (by decide) ?_
                refine lv_goto (tgt := 103) hx hb dX2_settingRefusal_99 (by decide) ?_
                cases hf
                exact ret_i hx hb hr hlocks hK hP hD hS dX2_settingRefusal_103
              · have hf := if_t c11 hf
                refine lv_iload hx hb dX2_settingRefusal_92 (lv_at hl 0 rfl) ?_
                refine lv_if_eq (tgt := 102) hx hb dX2_settingRefusal_94 (by decide) (fun c12 => ?_) (fun c12 => ?_)
                · have hf := if_t c12 hf
                  refine lv_iconst (v := 0) hx hb dX2_settingRefusal_102 (by decide) ?_
                  cases hf
                  exact ret_i hx hb hr hlocks hK hP hD hS dX2_settingRefusal_103
                · have hf := if_f c12 hf
                  refine lv_bipush (v := (-3)) hx hb dX2_settingRefusal_97 (by decide) ?_
                  refine lv_goto (tgt := 103) hx hb dX2_settingRefusal_99 (by decide) ?_
                  cases hf
                  exact ret_i hx hb hr hlocks hK hP hD hS dX2_settingRefusal_103
            refine lv_icmp_ne (tgt := 85) hx hb dX2_settingRefusal_60 (by decide) (fun c13 => ?_) (fun c13 => ?_)
            · have hf := if_f c13 hf
              refine lv_iconst (v := 0) hx hb dX2_settingRefusal_85 (by decide) ?_
              exact B86_k10 _ _ _ hP hD hS _ (lv_sub hl [0] rfl) hf
            · have hf := if_t c13 hf
              refine lv_iload_n hx hb dX2_settingRefusal_63 rfl (lv_at hl 3 rfl) ?_
              refine lv_aload_n hx hb dX2_settingRefusal_64 rfl (lv_at hl 1 rfl) ?_
              refine va_get (D := D) (ci := 2) (v := .ref (a1 1)) (C := RX2) (T := TX2) (N := 8) hx hb hts iX2 hown hK hP 0 rfl rfl 0 (by decide) (hts (.fieldLink RX2 18 "FilledForOne$Day" "settings" "[I") (by decide +kernel)) (fun _ h9 => h9) rfl dX2_settingRefusal_65 ?_
              refine lv_bipush (v := 7) hx hb dX2_settingRefusal_68 (by decide) ?_
              refine z_ialdc hx hb hK hP 1 rfl (i := 7) (k := 7) (by decide) (Nat.le_of_ble_eq_true rfl) dX2_settingRefusal_70 ?_
              refine lv_icmp_eq (tgt := 85) hx hb dX2_settingRefusal_71 (by decide) (fun c14 => ?_) (fun c14 => ?_)
              · have hf := if_t c14 hf
                refine lv_iconst (v := 0) hx hb dX2_settingRefusal_85 (by decide) ?_
                exact B86_k10 _ _ _ hP hD hS _ (lv_sub hl [0] rfl) hf
              · have hf := if_f c14 hf
                refine lv_aload_n hx hb dX2_settingRefusal_74 rfl (lv_at hl 1 rfl) ?_
                refine va_get (D := D) (ci := 2) (v := .int (m1 0 6)) (C := RX2) (T := TX2) (N := 8) hx hb hts iX2 hown hK hP 0 rfl rfl 6 (by decide) (hts (.fieldLink RX2 53 "FilledForOne$Day" "minute" "I") (by decide +kernel)) (fun _ h9 => h9) rfl dX2_settingRefusal_75 ?_
                refine lv_if_eq (tgt := 85) hx hb dX2_settingRefusal_78 (by decide) (fun c15 => ?_) (fun c15 => ?_)
                · have hf := if_t c15 hf
                  refine lv_iconst (v := 0) hx hb dX2_settingRefusal_85 (by decide) ?_
                  exact B86_k10 _ _ _ hP hD hS _ (lv_sub hl [0] rfl) hf
                · have hf := if_f c15 hf
                  refine lv_iconst (v := 1) hx hb dX2_settingRefusal_81 (by decide) ?_
                  refine lv_goto (tgt := 86) hx hb dX2_settingRefusal_82 (by decide) ?_
                  exact B86_k10 _ _ _ hP hD hS _ (lv_sub hl [0] rfl) hf
          refine lv_if_ne (tgt := 55) hx hb dX2_settingRefusal_40 (by decide) (fun c16 => ?_) (fun c16 => ?_)
          · have hf := if_f c16 hf
            refine lv_iconst (v := 0) hx hb dX2_settingRefusal_55 (by decide) ?_
            exact B56_k8 _ _ _ hP hD hS _ (lv_sub hl [0, 1, 2] rfl) hf
          · have hf := if_t c16 hf
            refine lv_iload_n hx hb dX2_settingRefusal_43 rfl (lv_at hl 2 rfl) ?_
            refine lv_aload_n hx hb dX2_settingRefusal_44 rfl (lv_at hl 0 rfl) ?_
            obtain ⟨r17, q18, hf⟩ := bd_use hf
            refine z_goI (va_runV (As := []) (rest := [.int p2]) ⟨hx, hb, hml, hown, hts⟩ (tX2_highestLevel l D z tt a1 m1  fu r17 q18 _) (cwV 0 hts gX2_settingRefusal_X2_highestLevel rfl rfl rfl (by decide +kernel) ⟨Nat.le_of_ble_eq_true rfl, Nat.le_of_ble_eq_true rfl⟩) (z_preV hK hP hD hS hA hT hN [0, 1, 2, 3, 4, 5, 6, 7, 8, 9, 10, 11, 12, 13, 14] rfl rfl (va_recv hK hP (ci := 2) (q0 := 0) rfl rfl)) rfl rfl hl.1 rfl (lv_room (Nat.le_of_ble_eq_true rfl)) dX2_settingRefusal_45 ⟨Nat.zero_le _, Nat.zero_le _⟩) hP hD hS hA [0, 1, 2, 3, 4, 5, 6, 7, 8, 9, 10, 11, 12, 13, 14] rfl rfl rfl (ws1 := (WDay z a1 m1)) rfl (fun H locs hP hD hS => ?_)
            refine lv_icmp_ge (tgt := 55) hx hb dX2_settingRefusal_48 (by decide) (fun c19 => ?_) (fun c19 => ?_)
            · have hf := if_t c19 hf
              refine lv_iconst (v := 0) hx hb dX2_settingRefusal_55 (by decide) ?_
              exact B56_k8 _ _ _ hP hD hS _ (lv_sub hl [0, 1, 2] rfl) hf
            · have hf := if_f c19 hf
              refine lv_iconst (v := 1) hx hb dX2_settingRefusal_51 (by decide) ?_
              refine lv_goto (tgt := 56) hx hb dX2_settingRefusal_52 (by decide) ?_
              exact B56_k8 _ _ _ hP hD hS _ (lv_sub hl [0, 1, 2] rfl) hf
        · have hf := if_f c6 hf
          refine lv_bipush (v := (-6)) hx hb dX2_settingRefusal_36 (by decide) ?_
          cases hf
          exact ret_i hx hb hr hlocks hK hP hD hS dX2_settingRefusal_38
      · have hf := if_f c4 hf
        refine lv_bipush (v := (-4)) hx hb dX2_settingRefusal_24 (by decide) ?_
        cases hf
        exact ret_i hx hb hr hlocks hK hP hD hS dX2_settingRefusal_26
    · have hf := if_f c2 hf
      refine lv_iconst (v := (-1)) hx hb dX2_settingRefusal_13 (by decide) ?_
      cases hf
      exact ret_i hx hb hr hlocks hK hP hD hS dX2_settingRefusal_14
def pX2_firstReady (fu : Nat) (m1 : Mem) (p1 : Int32) : Option (Option Nat) :=
  zl1 (fun g3 (x1 : Int32) =>
    bd (pX2_kettlesInUse fu m1) fun r5 =>
    if r5 ≤ x1 then
      some none
    else
      ck x1 2 <|
      bd (pX3_isReady fu (m1 (3 + x1.toNatClampNeg)) (m1 0 6) p1) fun r9 =>
      if r9 = 0 then
        lt' (x1 + 1) fun x12 =>
        g3 x12
      else
        ck x1 2 <|
        some (some (x1.toNatClampNeg))) fu 0
set_option maxHeartbeats 4000000 in
set_option maxRecDepth 100000 in
theorem tX2_firstReady (l : Launch) (D : va_G) (z tt : Nat → Nat) (a1 : Nat → Nat) (m1 : Mem) (p1 : Int32) (fu : Nat) (rr : Option Nat) (hf : pX2_firstReady fu m1 p1 = some rr) : MetQ l yX2_firstReady wsX2_firstReady ({ frames := 1, cells := 0, slots := 0, locals := 22 } : Room) D z tt ([.ref (a1 0), .int p1] : List Value) (WDay z a1 m1) (rr.map fun i => a1 (3 + i)) (WDay z a1 m1) := by
  intro sz
  refine Met.ofW (cc := cX2_firstReady) (maxL := 3) (ret := (some (.object "FilledForOne$Kettle"))) (by decide) rfl ?_
  intro p e s m args below meth c s₁ B hml hv
  obtain ⟨rfl, hsz, hP, hK, hD0, hT, hN⟩ := hv
  have hx := B.exec
  have hb := B.bytes
  have hr := B.returns
  have hts := atoms_spec (ws := wsX2_firstReady) B.pre
  have hown : s.vm.findClass RX2 = some m.cls := findClass_of_methodNamed B.named
  have hlocks := B.notSynchronized
  subst hsz
  have hD := hD0.self (sz := s.heap.size)
  generalize hAe : va_A (WDay z a1 m1) s.heap.size = A at hD hT ⊢
  have hA : ∀ q : Nat, s.heap.size ≤ q → A q := fun q h => by rw [← hAe]; exact Or.inr h
  have hS : va_S A s.heap s.heap [] := va_S.rf
  have hl := lv_entry ([.ref (a1 0), .int p1] : List Value) (n := 3) (Nat.le_of_ble_eq_true rfl)
  rw [lg_entry_eq]
  generalize (lg_sl ([.ref (a1 0), .int p1] : List Value) ++ List.replicate (3 - (lg_sl ([.ref (a1 0), .int p1] : List Value)).length) Slot.unset).toArray = ls at hl ⊢
  have hl : lv_has ls 3 [(0, .ref (a1 0)), (1, .int p1)] := hl
  have iX2 : ∀ w ∈ wsX20, w ∈ wsX2_firstReady := by decide +kernel
  unfold pX2_firstReady at hf
  refine lv_iconst (v := 0) hx hb dX2_firstReady_0 (by decide) ?_
  refine lv_istore_n (lv' := [(2, .int 0), (0, .ref (a1 0)), (1, .int p1)]) hx hb dX2_firstReady_1 rfl hl (by decide) rfl (fun ls hl => ?_)
  obtain ⟨F2, eF2, hf⟩ := zl1_use hf
  have L2_F2 : ∀ (n : Nat) (x1 : Int32) (H : Heap) (locs : List Loc), va_P D vwCl (WDay z a1 m1) H → va_D A (WDay z a1 m1) → va_S A s.heap H locs → ∀ (ls : Array Slot), lv_has ls 3 [(0, .ref (a1 0)), (1, .int p1), (2, .int x1)] → zl1 F2 n x1 = some rr → GQ p l e (headSpec wsX2_firstReady ({ frames := 1, cells := 0, slots := 0, locals := 22 } : Room)).room s m ([.ref (a1 0), .int p1] : List Value).toArray below meth c A D z (rr.map fun i => a1 (3 + i)) (WDay z a1 m1) H locs (F0 m 2 ls []) := by
    intro n
    induction n with
    | zero =>
      intro x1 H locs hP hD hS ls hl hf
      exact no_none hf
    | succ n ih4 =>
      intro x1 H locs hP hD hS ls hl hf
      have hf := zl1_s eF2 hf
      refine lv_iload_n hx hb dX2_firstReady_2 rfl (lv_at hl 2 rfl) ?_
      refine lv_aload_n hx hb dX2_firstReady_3 rfl (lv_at hl 0 rfl) ?_
      obtain ⟨r5, q6, hf⟩ := bd_use hf
      refine z_goI (va_runV (As := []) (rest := [.int x1]) ⟨hx, hb, hml, hown, hts⟩ (tX2_kettlesInUse l D z tt a1 m1  fu r5 q6 _) (cwV 0 hts gX2_firstReady_X2_kettlesInUse rfl rfl rfl (by decide +kernel) ⟨Nat.le_of_ble_eq_true rfl, Nat.le_of_ble_eq_true rfl⟩) (z_preV hK hP hD hS hA hT hN [0, 1, 2, 3, 4, 5, 6, 7, 8, 9, 10, 11, 12, 13, 14] rfl rfl (va_recv hK hP (ci := 2) (q0 := 0) rfl rfl)) rfl rfl hl.1 rfl (lv_room (Nat.le_of_ble_eq_true rfl)) dX2_firstReady_4 ⟨Nat.zero_le _, Nat.zero_le _⟩) hP hD hS hA [0, 1, 2, 3, 4, 5, 6, 7, 8, 9, 10, 11, 12, 13, 14] rfl rfl rfl (ws1 := (WDay z a1 m1)) rfl (fun H locs hP hD hS => ?_)
      refine lv_icmp_ge (tgt := 40) hx hb dX2_firstReady_7 (by decide) (fun c7 => ?_) (fun c7 => ?_)
      · have hf := if_t c7 hf
        refine lv_null hx hb dX2_firstReady_40 ?_
        cases hf
        exact ret_q hx hb hr (Or.inl ⟨_, rfl⟩) hlocks hK rfl hP hD hS dX2_firstReady_41
      · have hf := if_f c7 hf
        refine lv_aload_n hx hb dX2_firstReady_10 rfl (lv_at hl 0 rfl) ?_
        refine va_get (D := D) (ci := 2) (v := .ref (a1 14)) (C := RX2) (T := TX2) (N := 8) hx hb hts iX2 hown hK hP 0 rfl rfl 2 (by decide) (hts (.fieldLink RX2 32 "FilledForOne$Day" "kettles" "[LFilledForOne$Kettle;") (by decide +kernel)) (fun _ h9 => h9) rfl dX2_firstReady_11 ?_
        refine lv_iload_n hx hb dX2_firstReady_14 rfl (lv_at hl 2 rfl) ?_
        obtain ⟨h8, hf⟩ := ck_use hf
        refine z_ald hx hb hK hP 14 2 (C := "FilledForOne$Kettle") (g := (fun j => a1 (3 + j))) rfl rfl h8 dX2_firstReady_15 ?_
        refine lv_aload_n hx hb dX2_firstReady_16 rfl (lv_at hl 0 rfl) ?_
        refine va_get (D := D) (ci := 2) (v := .int (m1 0 6)) (C := RX2) (T := TX2) (N := 8) hx hb hts iX2 hown hK hP 0 rfl rfl 6 (by decide) (hts (.fieldLink RX2 53 "FilledForOne$Day" "minute" "I") (by decide +kernel)) (fun _ h9 => h9) rfl dX2_firstReady_17 ?_
        refine lv_iload_n hx hb dX2_firstReady_20 rfl (lv_at hl 1 rfl) ?_
        obtain ⟨r9, q10, hf⟩ := bd_use hf
        refine z_goI (va_runV (As := [.int (m1 0 6), .int p1]) (rest := []) ⟨hx, hb, hml, hown, hts⟩ (tX3_isReady l D z tt (a1 (3 + x1.toNatClampNeg)) (m1 (3 + x1.toNatClampNeg)) (m1 0 6) p1 fu r9 q10 _) (cwV 2 hts gX2_firstReady_X3_isReady rfl rfl rfl (by decide +kernel) ⟨Nat.le_of_ble_eq_true rfl, Nat.le_of_ble_eq_true rfl⟩) (z_preV hK hP hD hS hA hT hN [(3 + x1.toNatClampNeg)] (js1 (WDay_k z a1 m1 (vp_lt h8))) (nd1 _) (va_recv hK hP (ci := 3) (q0 := (3 + x1.toNatClampNeg)) rfl (WDay_k z a1 m1 (vp_lt h8)))) rfl rfl hl.1 rfl (lv_room (Nat.le_of_ble_eq_true rfl)) dX2_firstReady_21 ⟨Nat.zero_le _, Nat.zero_le _⟩) hP hD hS hA [(3 + x1.toNatClampNeg)] (js1 (WDay_k z a1 m1 (vp_lt h8))) (nd1 _) rfl (ws1 := (WDay z a1 m1)) (set_same (WDay_k z a1 m1 (vp_lt h8))) (fun H locs hP hD hS => ?_)
        refine lv_if_eq (tgt := 34) hx hb dX2_firstReady_24 (by decide) (fun c11 => ?_) (fun c11 => ?_)
        · have hf := if_t c11 hf
          obtain ⟨x12, ex12⟩ : ∃ y : Int32, y = x1 + 1 := ⟨_, rfl⟩
          have hf := lt_use ex12 hf
          refine lv_iinc (v := x12) (lv' := [(2, .int x12), (0, .ref (a1 0)), (1, .int p1)]) hx hb dX2_firstReady_34 hl (k := 2) rfl (by rw [ex12]; rfl) (by decide) rfl (fun ls hl => ?_)
          refine lv_goto (tgt := 2) hx hb dX2_firstReady_37 (by decide) ?_
          exact ih4 _ _ _ hP hD hS _ (lv_sub hl [1, 2, 0] rfl) hf
        · have hf := if_f c11 hf
          refine lv_aload_n hx hb dX2_firstReady_27 rfl (lv_at hl 0 rfl) ?_
          refine va_get (D := D) (ci := 2) (v := .ref (a1 14)) (C := RX2) (T := TX2) (N := 8) hx hb hts iX2 hown hK hP 0 rfl rfl 2 (by decide) (hts (.fieldLink RX2 32 "FilledForOne$Day" "kettles" "[LFilledForOne$Kettle;") (by decide +kernel)) (fun _ h9 => h9) rfl dX2_firstReady_28 ?_
          refine lv_iload_n hx hb dX2_firstReady_31 rfl (lv_at hl 2 rfl) ?_
          obtain ⟨h13, hf⟩ := ck_use hf
          refine z_ald hx hb hK hP 14 2 (C := "FilledForOne$Kettle") (g := (fun j => a1 (3 + j))) rfl rfl h13 dX2_firstReady_32 ?_
          cases hf
          exact ret_q hx hb hr (Or.inl ⟨_, rfl⟩) hlocks hK rfl hP hD hS dX2_firstReady_33
  exact L2_F2 fu _ _ _ hP hD hS _ (lv_sub hl [1, 2, 0] rfl) hf
def pX2_serve (fu : Nat) (m1 : Mem) (p1 : Int32) : Option (Int32 × Mem) :=
  ck p1 8 <|
  bd (pX2_firstReady fu m1 (m1 (5 + p1.toNatClampNeg) 3)) fun r2 =>
  oc r2 (
    some (0, m1)) fun i4 =>
  ckk i4 2 <|
    lt' (up2 m1 (3 + i4) 0 ((m1 (3 + i4) 0) - (m1 (5 + p1.toNatClampNeg) 3))) fun y7 =>
    lt' (up2 y7 (5 + p1.toNatClampNeg) 5 2) fun y8 =>
    lt' (up2 y8 (5 + p1.toNatClampNeg) 6 (y8 0 6)) fun y9 =>
    some (1, y9)
set_option maxHeartbeats 4000000 in
set_option maxRecDepth 100000 in
theorem tX2_serve (l : Launch) (D : va_G) (z tt : Nat → Nat) (a1 : Nat → Nat) (m1 : Mem) (p1 : Int32) (fu : Nat) (rr : Int32) (m1' : Mem) (hf : pX2_serve fu m1 p1 = some (rr, m1')) : MetI l yX2_serve wsX2_serve ({ frames := 2, cells := 0, slots := 0, locals := 44 } : Room) D z tt ([.ref (a1 0), .int p1] : List Value) (WDay z a1 m1) rr (WDay z a1 m1') := by
  intro sz
  refine Met.ofW (cc := cX2_serve) (maxL := 4) (ret := (some .boolean)) (by decide) rfl ?_
  intro p e s m args below meth c s₁ B hml hv
  obtain ⟨rfl, hsz, hP, hK, hD0, hT, hN⟩ := hv
  have hx := B.exec
  have hb := B.bytes
  have hr := B.returns
  have hts := atoms_spec (ws := wsX2_serve) B.pre
  have hown : s.vm.findClass RX2 = some m.cls := findClass_of_methodNamed B.named
  have hlocks := B.notSynchronized
  subst hsz
  have hD := hD0.self (sz := s.heap.size)
  generalize hAe : va_A (WDay z a1 m1) s.heap.size = A at hD hT ⊢
  have hA : ∀ q : Nat, s.heap.size ≤ q → A q := fun q h => by rw [← hAe]; exact Or.inr h
  have hS : va_S A s.heap s.heap [] := va_S.rf
  have hl := lv_entry ([.ref (a1 0), .int p1] : List Value) (n := 4) (Nat.le_of_ble_eq_true rfl)
  rw [lg_entry_eq]
  generalize (lg_sl ([.ref (a1 0), .int p1] : List Value) ++ List.replicate (4 - (lg_sl ([.ref (a1 0), .int p1] : List Value)).length) Slot.unset).toArray = ls at hl ⊢
  have hl : lv_has ls 4 [(0, .ref (a1 0)), (1, .int p1)] := hl
  have iX1 : ∀ w ∈ wsX10, w ∈ wsX2_serve := by decide +kernel
  have iX2 : ∀ w ∈ wsX20, w ∈ wsX2_serve := by decide +kernel
  have iX3 : ∀ w ∈ wsX30, w ∈ wsX2_serve := by decide +kernel
  unfold pX2_serve at hf
  refine lv_aload_n hx hb dX2_serve_0 rfl (lv_at hl 0 rfl) ?_
  refine va_get (D := D) (ci := 2) (v := .ref (a1 13)) (C := RX2) (T := TX2) (N := 8) hx hb hts iX2 hown hK hP 0 rfl rfl 1 (by decide) (hts (.fieldLink RX2 25 "FilledForOne$Day" "comers" "[LFilledForOne$Comer;") (by decide +kernel)) (fun _ h9 => h9) rfl dX2_serve_1 ?_
  refine lv_iload_n hx hb dX2_serve_4 rfl (lv_at hl 1 rfl) ?_
  obtain ⟨h1, hf⟩ := ck_use hf
  refine z_ald hx hb hK hP 13 1 (C := "FilledForOne$Comer") (g := (fun j => a1 (5 + j))) rfl rfl h1 dX2_serve_5 ?_
  refine lv_astore_n (lv' := [(2, .ref (a1 (5 + p1.toNatClampNeg))), (0, .ref (a1 0)), (1, .int p1)]) hx hb dX2_serve_6 rfl hl (by decide) rfl (fun ls hl => ?_)
  refine lv_aload_n hx hb dX2_serve_7 rfl (lv_at hl 1 rfl) ?_
  refine lv_aload_n hx hb dX2_serve_8 rfl (lv_at hl 0 rfl) ?_
  refine va_get (D := D) (ci := 1) (v := .int (m1 (5 + p1.toNatClampNeg) 3)) (C := RX1) (T := TX1) (N := 7) hx hb hts iX1 hown hK hP (5 + p1.toNatClampNeg) (WDay_c z a1 m1 (vp_lt h1)) rfl 3 (by decide) (hts (.fieldLink RX2 84 "FilledForOne$Comer" "wants" "I") (by decide +kernel)) (fun _ h9 => h9) rfl dX2_serve_9 ?_
  obtain ⟨r2, q3, hf⟩ := bd_use hf
  refine z_goQ (va_runV (As := [.int (m1 (5 + p1.toNatClampNeg) 3)]) (rest := []) ⟨hx, hb, hml, hown, hts⟩ (tX2_firstReady l D z tt a1 m1 (m1 (5 + p1.toNatClampNeg) 3) fu r2 q3 _) (cwV 1 hts gX2_serve_X2_firstReady rfl rfl rfl (by decide +kernel) ⟨Nat.le_of_ble_eq_true rfl, Nat.le_of_ble_eq_true rfl⟩) (z_preV hK hP hD hS hA hT hN [0, 1, 2, 3, 4, 5, 6, 7, 8, 9, 10, 11, 12, 13, 14] rfl rfl (va_recv hK hP (ci := 2) (q0 := 0) rfl rfl)) rfl rfl hl.1 rfl (lv_room (Nat.le_of_ble_eq_true rfl)) dX2_serve_12 ⟨Nat.zero_le _, Nat.zero_le _⟩) hP hD hS hA [0, 1, 2, 3, 4, 5, 6, 7, 8, 9, 10, 11, 12, 13, 14] rfl rfl rfl (ws1 := (WDay z a1 m1)) rfl (fun H locs hP hD hS => ?_)
  rcases oc_use hf with ⟨e5, hf⟩ | ⟨i4, e5, hf⟩
  · subst e5
    refine lv_astore_nN (lv' := [(3, .null), (2, .ref (a1 (5 + p1.toNatClampNeg))), (0, .ref (a1 0)), (1, .int p1)]) hx hb dX2_serve_15 rfl hl (by decide) rfl (fun ls hl => ?_)
    refine lv_aload_nN hx hb dX2_serve_16 rfl (lv_at hl 0 rfl) ?_
    refine lv_ifnullN (tgt := 46) hx hb dX2_serve_17 (by decide) ?_
    refine lv_aload_nN hx hb dX2_serve_46 rfl (lv_at hl 0 rfl) ?_
    refine lv_ifnullN (tgt := 54) hx hb dX2_serve_47 (by decide) ?_
    refine lv_iconst (v := 0) hx hb dX2_serve_54 (by decide) ?_
    cases hf
    exact ret_z hx hb hr hlocks hK hP hD hS (by decide) dX2_serve_55
  · subst e5
    obtain ⟨h6, hf⟩ := ckk_use hf
    refine lv_astore_n (lv' := [(3, .ref (a1 (3 + i4))), (2, .ref (a1 (5 + p1.toNatClampNeg))), (0, .ref (a1 0)), (1, .int p1)]) hx hb dX2_serve_15 rfl hl (by decide) rfl (fun ls hl => ?_)
    refine lv_aload_n hx hb dX2_serve_16 rfl (lv_at hl 0 rfl) ?_
    refine lv_ifnull hx hb dX2_serve_17 ?_
    refine lv_aload_n hx hb dX2_serve_20 rfl (lv_at hl 0 rfl) ?_
    refine lv_dup hx hb dX2_serve_21 rfl ?_
    refine va_get (D := D) (ci := 3) (v := .int (m1 (3 + i4) 0)) (C := RX3) (T := TX3) (N := 5) hx hb hts iX3 hown hK hP (3 + i4) (WDay_k z a1 m1 h6) rfl 0 (by decide) (hts (.fieldLink RX2 134 "FilledForOne$Kettle" "level" "I") (by decide +kernel)) (fun _ h9 => h9) rfl dX2_serve_22 ?_
    refine lv_aload_n hx hb dX2_serve_25 rfl (lv_at hl 1 rfl) ?_
    refine va_get (D := D) (ci := 1) (v := .int (m1 (5 + p1.toNatClampNeg) 3)) (C := RX1) (T := TX1) (N := 7) hx hb hts iX1 hown hK hP (5 + p1.toNatClampNeg) (WDay_c z a1 m1 (vp_lt h1)) rfl 3 (by decide) (hts (.fieldLink RX2 84 "FilledForOne$Comer" "wants" "I") (by decide +kernel)) (fun _ h9 => h9) rfl dX2_serve_26 ?_
    refine lv_isub hx hb dX2_serve_29 ?_
    refine z_put (ci := 3) (v := .int ((m1 (3 + i4) 0) - (m1 (5 + p1.toNatClampNeg) 3))) (ty := .int) (C := RX3) (T := TX3) (N := 5) hx hb hts iX3 tyX3 tyX3_ok nmX3 hown hK hP hD hS (3 + i4) (WDay_k z a1 m1 h6) rfl 0 (by decide) (hts (.fieldLink RX2 134 "FilledForOne$Kettle" "level" "I") (by decide +kernel)) (fun _ h9 => h9) rfl (by decide +kernel) rfl rfl (Nat.le_of_ble_eq_true rfl) dX2_serve_30 (fun (w9 : Mem) => (WDay z a1 w9)) (up2 m1 (3 + i4) 0 ((m1 (3 + i4) 0) - (m1 (5 + p1.toNatClampNeg) 3))) (WDay_sk z a1 m1 (upd (m1 (3 + i4)) 0 ((m1 (3 + i4) 0) - (m1 (5 + p1.toNatClampNeg) 3))) h6) (fun y7 ey7 H locs hP hD hS => ?_)
    have hf := lt_use ey7 hf
    refine lv_aload_n hx hb dX2_serve_33 rfl (lv_at hl 1 rfl) ?_
    refine lv_iconst (v := 2) hx hb dX2_serve_34 (by decide) ?_
    refine z_put (ci := 1) (v := .int 2) (ty := .int) (C := RX1) (T := TX1) (N := 7) hx hb hts iX1 tyX1 tyX1_ok nmX1 hown hK hP hD hS (5 + p1.toNatClampNeg) (WDay_c z a1 y7 (vp_lt h1)) rfl 5 (by decide) (hts (.fieldLink RX2 63 "FilledForOne$Comer" "state" "I") (by decide +kernel)) (fun _ h9 => h9) rfl (by decide +kernel) rfl rfl (Nat.le_of_ble_eq_true rfl) dX2_serve_35 (fun (w9 : Mem) => (WDay z a1 w9)) (up2 y7 (5 + p1.toNatClampNeg) 5 2) (WDay_sc z a1 y7 (upd (y7 (5 + p1.toNatClampNeg)) 5 2) (vp_lt h1)) (fun y8 ey8 H locs hP hD hS => ?_)
    have hf := lt_use ey8 hf
    refine lv_aload_n hx hb dX2_serve_38 rfl (lv_at hl 1 rfl) ?_
    refine lv_aload_n hx hb dX2_serve_39 rfl (lv_at hl 2 rfl) ?_
    refine va_get (D := D) (ci := 2) (v := .int (y8 0 6)) (C := RX2) (T := TX2) (N := 8) hx hb hts iX2 hown hK hP 0 rfl rfl 6 (by decide) (hts (.fieldLink RX2 53 "FilledForOne$Day" "minute" "I") (by decide +kernel)) (fun _ h9 => h9) rfl dX2_serve_40 ?_
    refine z_put (ci := 1) (v := .int (y8 0 6)) (ty := .int) (C := RX1) (T := TX1) (N := 7) hx hb hts iX1 tyX1 tyX1_ok nmX1 hown hK hP hD hS (5 + p1.toNatClampNeg) (WDay_c z a1 y8 (vp_lt h1)) rfl 6 (by decide) (hts (.fieldLink RX2 137 "FilledForOne$Comer" "servedAt" "I") (by decide +kernel)) (fun _ h9 => h9) rfl (by decide +kernel) rfl rfl (Nat.le_of_ble_eq_true rfl) dX2_serve_43 (fun (w9 : Mem) => (WDay z a1 w9)) (up2 y8 (5 + p1.toNatClampNeg) 6 (y8 0 6)) (WDay_sc z a1 y8 (upd (y8 (5 + p1.toNatClampNeg)) 6 (y8 0 6)) (vp_lt h1)) (fun y9 ey9 H locs hP hD hS => ?_)
    have hf := lt_use ey9 hf
    refine lv_aload_n hx hb dX2_serve_46 rfl (lv_at hl 0 rfl) ?_
    refine lv_ifnull hx hb dX2_serve_47 ?_
    refine lv_iconst (v := 1) hx hb dX2_serve_50 (by decide) ?_
    refine lv_goto (tgt := 55) hx hb dX2_serve_51 (by decide) ?_
    cases hf
    exact ret_z hx hb hr hlocks hK hP hD hS (by decide) dX2_serve_55
def pX2_wantsInLine (fu : Nat) (m1 : Mem) : Option Int32 :=
  zl2 (fun g4 (x1 : Int32) (x2 : Int32) =>
    if (m1 0 4) ≤ x2 then
      some x1
    else
      ck x2 8 <|
      if (m1 (5 + x2.toNatClampNeg) 5) = 1 then
        ck x2 8 <|
        lt' ((x1 + (m1 (5 + x2.toNatClampNeg) 3)) : Int32) fun x11 =>
        lt' (x2 + 1) fun x12 =>
        g4 x11 x12
      else
        lt' (x2 + 1) fun x9 =>
        g4 x1 x9) fu 0 0
set_option maxHeartbeats 4000000 in
set_option maxRecDepth 100000 in
theorem tX2_wantsInLine (l : Launch) (D : va_G) (z tt : Nat → Nat) (a1 : Nat → Nat) (m1 : Mem)  (fu : Nat) (rr : Int32) (hf : pX2_wantsInLine fu m1 = some rr) : MetI l yX2_wantsInLine wsX2_wantsInLine ({ frames := 0, cells := 0, slots := 0, locals := 0 } : Room) D z tt ([.ref (a1 0)] : List Value) (WDay z a1 m1) rr (WDay z a1 m1) := by
  intro sz
  refine Met.ofW (cc := cX2_wantsInLine) (maxL := 3) (ret := (some .int)) (by decide) rfl ?_
  intro p e s m args below meth c s₁ B hml hv
  obtain ⟨rfl, hsz, hP, hK, hD0, hT, hN⟩ := hv
  have hx := B.exec
  have hb := B.bytes
  have hr := B.returns
  have hts := atoms_spec (ws := wsX2_wantsInLine) B.pre
  have hown : s.vm.findClass RX2 = some m.cls := findClass_of_methodNamed B.named
  have hlocks := B.notSynchronized
  subst hsz
  have hD := hD0.self (sz := s.heap.size)
  generalize hAe : va_A (WDay z a1 m1) s.heap.size = A at hD hT ⊢
  have hA : ∀ q : Nat, s.heap.size ≤ q → A q := fun q h => by rw [← hAe]; exact Or.inr h
  have hS : va_S A s.heap s.heap [] := va_S.rf
  have hl := lv_entry ([.ref (a1 0)] : List Value) (n := 3) (Nat.le_of_ble_eq_true rfl)
  rw [lg_entry_eq]
  generalize (lg_sl ([.ref (a1 0)] : List Value) ++ List.replicate (3 - (lg_sl ([.ref (a1 0)] : List Value)).length) Slot.unset).toArray = ls at hl ⊢
  have hl : lv_has ls 3 [(0, .ref (a1 0))] := hl
  have iX1 : ∀ w ∈ wsX10, w ∈ wsX2_wantsInLine := by decide +kernel
  have iX2 : ∀ w ∈ wsX20, w ∈ wsX2_wantsInLine := by decide +kernel
  unfold pX2_wantsInLine at hf
  refine lv_iconst (v := 0) hx hb dX2_wantsInLine_0 (by decide) ?_
  refine lv_istore_n (lv' := [(1, .int 0), (0, .ref (a1 0))]) hx hb dX2_wantsInLine_1 rfl hl (by decide) rfl (fun ls hl => ?_)
  refine lv_iconst (v := 0) hx hb dX2_wantsInLine_2 (by decide) ?_
  refine lv_istore_n (lv' := [(2, .int 0), (1, .int 0), (0, .ref (a1 0))]) hx hb dX2_wantsInLine_3 rfl hl (by decide) rfl (fun ls hl => ?_)
  obtain ⟨F3, eF3, hf⟩ := zl2_use hf
  have L4_F3 : ∀ (n : Nat) (x1 : Int32) (x2 : Int32) (H : Heap) (locs : List Loc), va_P D vwCl (WDay z a1 m1) H → va_D A (WDay z a1 m1) → va_S A s.heap H locs → ∀ (ls : Array Slot), lv_has ls 3 [(0, .ref (a1 0)), (1, .int x1), (2, .int x2)] → zl2 F3 n x1 x2 = some rr → GI p l e (headSpec wsX2_wantsInLine ({ frames := 0, cells := 0, slots := 0, locals := 0 } : Room)).room s m ([.ref (a1 0)] : List Value).toArray below meth c A D z rr (WDay z a1 m1) H locs (F0 m 4 ls []) := by
    intro n
    induction n with
    | zero =>
      intro x1 x2 H locs hP hD hS ls hl hf
      exact no_none hf
    | succ n ih5 =>
      intro x1 x2 H locs hP hD hS ls hl hf
      have hf := zl2_s eF3 hf
      refine lv_iload_n hx hb dX2_wantsInLine_4 rfl (lv_at hl 2 rfl) ?_
      refine lv_aload_n hx hb dX2_wantsInLine_5 rfl (lv_at hl 0 rfl) ?_
      refine va_get (D := D) (ci := 2) (v := .int (m1 0 4)) (C := RX2) (T := TX2) (N := 8) hx hb hts iX2 hown hK hP 0 rfl rfl 4 (by decide) (hts (.fieldLink RX2 46 "FilledForOne$Day" "known" "I") (by decide +kernel)) (fun _ h9 => h9) rfl dX2_wantsInLine_6 ?_
      refine lv_icmp_ge (tgt := 43) hx hb dX2_wantsInLine_9 (by decide) (fun c6 => ?_) (fun c6 => ?_)
      · have hf := if_t c6 hf
        refine lv_iload_n hx hb dX2_wantsInLine_43 rfl (lv_at hl 1 rfl) ?_
        cases hf
        exact ret_i hx hb hr hlocks hK hP hD hS dX2_wantsInLine_44
      · have hf := if_f c6 hf
        refine lv_aload_n hx hb dX2_wantsInLine_12 rfl (lv_at hl 0 rfl) ?_
        refine va_get (D := D) (ci := 2) (v := .ref (a1 13)) (C := RX2) (T := TX2) (N := 8) hx hb hts iX2 hown hK hP 0 rfl rfl 1 (by decide) (hts (.fieldLink RX2 25 "FilledForOne$Day" "comers" "[LFilledForOne$Comer;") (by decide +kernel)) (fun _ h9 => h9) rfl dX2_wantsInLine_13 ?_
        refine lv_iload_n hx hb dX2_wantsInLine_16 rfl (lv_at hl 2 rfl) ?_
        obtain ⟨h7, hf⟩ := ck_use hf
        refine z_ald hx hb hK hP 13 1 (C := "FilledForOne$Comer") (g := (fun j => a1 (5 + j))) rfl rfl h7 dX2_wantsInLine_17 ?_
        refine va_get (D := D) (ci := 1) (v := .int (m1 (5 + x2.toNatClampNeg) 5)) (C := RX1) (T := TX1) (N := 7) hx hb hts iX1 hown hK hP (5 + x2.toNatClampNeg) (WDay_c z a1 m1 (vp_lt h7)) rfl 5 (by decide) (hts (.fieldLink RX2 63 "FilledForOne$Comer" "state" "I") (by decide +kernel)) (fun _ h9 => h9) rfl dX2_wantsInLine_18 ?_
        refine lv_iconst (v := 1) hx hb dX2_wantsInLine_21 (by decide) ?_
        refine lv_icmp_ne (tgt := 37) hx hb dX2_wantsInLine_22 (by decide) (fun c8 => ?_) (fun c8 => ?_)
        · have hf := if_f c8 hf
          obtain ⟨x9, ex9⟩ : ∃ y : Int32, y = x2 + 1 := ⟨_, rfl⟩
          have hf := lt_use ex9 hf
          refine lv_iinc (v := x9) (lv' := [(2, .int x9), (0, .ref (a1 0)), (1, .int x1)]) hx hb dX2_wantsInLine_37 hl (k := 2) rfl (by rw [ex9]; rfl) (by decide) rfl (fun ls hl => ?_)
          refine lv_goto (tgt := 4) hx hb dX2_wantsInLine_40 (by decide) ?_
          exact ih5 _ _ _ _ hP hD hS _ (lv_sub hl [1, 2, 0] rfl) hf
        · have hf := if_t c8 hf
          refine lv_iload_n hx hb dX2_wantsInLine_25 rfl (lv_at hl 1 rfl) ?_
          refine lv_aload_n hx hb dX2_wantsInLine_26 rfl (lv_at hl 0 rfl) ?_
          refine va_get (D := D) (ci := 2) (v := .ref (a1 13)) (C := RX2) (T := TX2) (N := 8) hx hb hts iX2 hown hK hP 0 rfl rfl 1 (by decide) (hts (.fieldLink RX2 25 "FilledForOne$Day" "comers" "[LFilledForOne$Comer;") (by decide +kernel)) (fun _ h9 => h9) rfl dX2_wantsInLine_27 ?_
          refine lv_iload_n hx hb dX2_wantsInLine_30 rfl (lv_at hl 2 rfl) ?_
          obtain ⟨h10, hf⟩ := ck_use hf
          refine z_ald hx hb hK hP 13 1 (C := "FilledForOne$Comer") (g := (fun j => a1 (5 + j))) rfl rfl h10 dX2_wantsInLine_31 ?_
          refine va_get (D := D) (ci := 1) (v := .int (m1 (5 + x2.toNatClampNeg) 3)) (C := RX1) (T := TX1) (N := 7) hx hb hts iX1 hown hK hP (5 + x2.toNatClampNeg) (WDay_c z a1 m1 (vp_lt h10)) rfl 3 (by decide) (hts (.fieldLink RX2 84 "FilledForOne$Comer" "wants" "I") (by decide +kernel)) (fun _ h9 => h9) rfl dX2_wantsInLine_32 ?_
          refine lv_iadd hx hb dX2_wantsInLine_35 ?_
          refine lv_topi (fun x11 ex11 => ?_)
          have hf := lt_use ex11 hf
          refine lv_istore_n (lv' := [(1, .int x11), (0, .ref (a1 0)), (2, .int x2)]) hx hb dX2_wantsInLine_36 rfl hl (by decide) rfl (fun ls hl => ?_)
          obtain ⟨x12, ex12⟩ : ∃ y : Int32, y = x2 + 1 := ⟨_, rfl⟩
          have hf := lt_use ex12 hf
          refine lv_iinc (v := x12) (lv' := [(2, .int x12), (1, .int x11), (0, .ref (a1 0))]) hx hb dX2_wantsInLine_37 hl (k := 2) rfl (by rw [ex12]; rfl) (by decide) rfl (fun ls hl => ?_)
          refine lv_goto (tgt := 4) hx hb dX2_wantsInLine_40 (by decide) ?_
          exact ih5 _ _ _ _ hP hD hS _ (lv_sub hl [2, 1, 0] rfl) hf
  exact L4_F3 fu _ _ _ _ hP hD hS _ (lv_sub hl [2, 1, 0] rfl) hf
