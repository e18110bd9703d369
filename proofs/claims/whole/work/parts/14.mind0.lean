def pX5_take (fu : Nat) (m2 : Mem) (m3 : Mem) : Option Mem :=
  bd (pX2_copy fu m2 m3) fun y1 =>
  some y1
set_option maxHeartbeats 4000000 in
set_option maxRecDepth 100000 in
theorem tX5_take (l : Launch) (D : va_G) (z tt : Nat → Nat) (a1 : Nat) (a2 : Nat → Nat) (a3 : Nat → Nat) (m1 : Mem) (m2 : Mem) (m3 : Mem)  (fu : Nat) (m2' : Mem) (hf : pX5_take fu m2 m3 = some m2') : MetV l yX5_take wsX5_take ({ frames := 3, cells := 0, slots := 0, locals := 65 } : Room) D z tt ([.ref a1, .ref (a3 0)] : List Value) (WMin a1 (a2 0) m1 ++ (WDay z a2 m2 ++ (WDay z a3 m3))) (WMin a1 (a2 0) m1 ++ (WDay z a2 m2' ++ (WDay z a3 m3))) := by
  intro sz
  refine Met.ofW (cc := cX5_take) (maxL := 2) (ret := none) (by decide) rfl ?_
  intro p e s m args below meth c s₁ B hml hv
  obtain ⟨rfl, hsz, hP, hK, hD0, hT, hN⟩ := hv
  have hx := B.exec
  have hb := B.bytes
  have hr := B.returns
  have hts : ∀ w ∈ wsA, w.before ([.ref a1, .ref (a3 0)] : List Value).toArray s = true := fun w h => atoms_spec (ws := wsX5_take) B.pre w (List.mem_cons_of_mem _ h)
  have hown : s.vm.findClass RX5 = some m.cls := findClass_of_methodNamed B.named
  have hlocks := B.notSynchronized
  subst hsz
  have hD := hD0.self (sz := s.heap.size)
  generalize hAe : va_A (WMin a1 (a2 0) m1 ++ (WDay z a2 m2 ++ (WDay z a3 m3))) s.heap.size = A at hD hT ⊢
  have hA : ∀ q : Nat, s.heap.size ≤ q → A q := fun q h => by rw [← hAe]; exact Or.inr h
  have hS : va_S A s.heap s.heap [] := va_S.rf
  have hl := lv_entry ([.ref a1, .ref (a3 0)] : List Value) (n := 2) (Nat.le_of_ble_eq_true rfl)
  rw [lg_entry_eq]
  generalize (lg_sl ([.ref a1, .ref (a3 0)] : List Value) ++ List.replicate (2 - (lg_sl ([.ref a1, .ref (a3 0)] : List Value)).length) Slot.unset).toArray = ls at hl ⊢
  have hl : lv_has ls 2 [(0, .ref a1), (1, .ref (a3 0))] := hl
  unfold pX5_take at hf
  refine lv_aload_n hx hb dX5_take_0 rfl (lv_at hl 0 rfl) ?_
  refine va_get (D := D) (ci := 5) (v := .ref (a2 0)) (C := RX5) (T := TX5) (N := 2) hx hb hts iX5 hown hK hP 0 rfl rfl 0 (by decide) (hts _ aw199) (fun _ h9 => h9) rfl dX5_take_1 ?_
  refine lv_aload_n hx hb dX5_take_4 rfl (lv_at hl 1 rfl) ?_
  obtain ⟨y1, q2, hf⟩ := bd_use hf
  have hfo : Foc (WMin a1 (a2 0) m1 ++ (WDay z a2 m2 ++ (WDay z a3 m3))) (WDay z a2 m2 ++ (WDay z a3 m3)) (WMin a1 (a2 0) m1 ++ (WDay z a2 y1 ++ (WDay z a3 m3))) (WDay z a2 y1 ++ (WDay z a3 m3)) := (foc_r (foc_app foc_all foc_all))
  refine z_goV (ws1 := (WMin a1 (a2 0) m1 ++ (WDay z a2 y1 ++ (WDay z a3 m3)))) (va_runV (As := [.ref (a3 0)]) (rest := []) ⟨hx, hb, hml, hown, hts⟩ (tX2_copy l D z tt a2 a3 m2 m3  fu y1 q2 _) (cwV 1 hts (gV4 aw288 aw289 aw290 aw46 aw291) rfl rfl rfl (by decide +kernel) ⟨Nat.le_of_ble_eq_true rfl, Nat.le_of_ble_eq_true rfl⟩) (z_preV hK hP hD hS hA hT hN hfo (va_recv hK hP (ci := 2) (q0 := 1) rfl rfl)) rfl rfl hl.1 rfl (lv_room (Nat.le_of_ble_eq_true rfl)) dX5_take_5 ⟨Nat.zero_le _, Nat.zero_le _⟩) hP hD hS hA hfo (fun H locs hP hD hS => ?_)
  obtain rfl := so1 hf
  exact ret_v hx hb hr hlocks hK hP hD hS dX5_take_8
def pX5_restOfDay (fu : Nat) (m2 : Mem) (p1 : Int32) : Option (Int32 × Mem) :=
  lt' (up2 m2 0 7 0) fun y1 =>
  bd (pX2_pass fu y1 180) fun y2 =>
  if p1 = 0 then
    bd (pX2_allWaited fu y2) fun r5 =>
    some (r5, y2)
  else
  if p1 = 1 then
    bd (pX2_comersWith fu y2 3) fun r8 =>
    some (r8, y2)
  else
  if p1 = 2 then
    some ((y2 0 7), y2)
  else
  if p1 = 3 then
    bd (pX2_cupsLeft fu y2) fun r12 =>
    some (r12, y2)
  else
  bd (pX2_cost fu y2) fun r14 =>
  some (r14, y2)
set_option maxHeartbeats 4000000 in
set_option maxRecDepth 100000 in
theorem tX5_restOfDay (l : Launch) (D : va_G) (z tt : Nat → Nat) (a1 : Nat) (a2 : Nat → Nat) (m1 : Mem) (m2 : Mem) (p1 : Int32) (fu : Nat) (rr : Int32) (m2' : Mem) (hf : pX5_restOfDay fu m2 p1 = some (rr, m2')) : MetI l yX5_restOfDay wsX5_restOfDay ({ frames := 5, cells := 0, slots := 0, locals := 113 } : Room) D z tt ([.ref a1, .int p1] : List Value) (WMin a1 (a2 0) m1 ++ (WDay z a2 m2)) rr (WMin a1 (a2 0) m1 ++ (WDay z a2 m2')) := by
  intro sz
  refine Met.ofW (cc := cX5_restOfDay) (maxL := 2) (ret := (some .int)) (by decide) rfl ?_
  intro p e s m args below meth c s₁ B hml hv
  obtain ⟨rfl, hsz, hP, hK, hD0, hT, hN⟩ := hv
  have hx := B.exec
  have hb := B.bytes
  have hr := B.returns
  have hts : ∀ w ∈ wsA, w.before ([.ref a1, .int p1] : List Value).toArray s = true := fun w h => atoms_spec (ws := wsX5_restOfDay) B.pre w (List.mem_cons_of_mem _ h)
  have hown : s.vm.findClass RX5 = some m.cls := findClass_of_methodNamed B.named
  have hlocks := B.notSynchronized
  subst hsz
  have hD := hD0.self (sz := s.heap.size)
  generalize hAe : va_A (WMin a1 (a2 0) m1 ++ (WDay z a2 m2)) s.heap.size = A at hD hT ⊢
  have hA : ∀ q : Nat, s.heap.size ≤ q → A q := fun q h => by rw [← hAe]; exact Or.inr h
  have hS : va_S A s.heap s.heap [] := va_S.rf
  have hl := lv_entry ([.ref a1, .int p1] : List Value) (n := 2) (Nat.le_of_ble_eq_true rfl)
  rw [lg_entry_eq]
  generalize (lg_sl ([.ref a1, .int p1] : List Value) ++ List.replicate (2 - (lg_sl ([.ref a1, .int p1] : List Value)).length) Slot.unset).toArray = ls at hl ⊢
  have hl : lv_has ls 2 [(0, .ref a1), (1, .int p1)] := hl
  unfold pX5_restOfDay at hf
  refine lv_aload_n hx hb dX5_restOfDay_0 rfl (lv_at hl 0 rfl) ?_
  refine va_get (D := D) (ci := 5) (v := .ref (a2 0)) (C := RX5) (T := TX5) (N := 2) hx hb hts iX5 hown hK hP 0 rfl rfl 0 (by decide) (hts _ aw199) (fun _ h9 => h9) rfl dX5_restOfDay_1 ?_
  refine lv_iconst (v := 0) hx hb dX5_restOfDay_4 (by decide) ?_
  refine z_put (ci := 2) (v := .int 0) (ty := .int) (C := RX2) (T := TX2) (N := 8) hx hb hts iX2 tyX2 tyX2_ok nmX2 hown hK hP hD hS 1 rfl rfl 7 (by decide) (hts _ aw172) (fun _ h9 => h9) rfl (by decide +kernel) rfl rfl (Nat.le_of_ble_eq_true rfl) dX5_restOfDay_5 (fun (w9 : Mem) => (WMin a1 (a2 0) m1 ++ (WDay z a2 w9))) (up2 m2 0 7 0) rfl (fun y1 ey1 H locs hP hD hS => ?_)
  have hf := lt_use ey1 hf
  refine lv_aload_n hx hb dX5_restOfDay_8 rfl (lv_at hl 0 rfl) ?_
  refine va_get (D := D) (ci := 5) (v := .ref (a2 0)) (C := RX5) (T := TX5) (N := 2) hx hb hts iX5 hown hK hP 0 rfl rfl 0 (by decide) (hts _ aw199) (fun _ h9 => h9) rfl dX5_restOfDay_9 ?_
  refine lv_sipush (v := 180) hx hb dX5_restOfDay_12 (by decide) ?_
  obtain ⟨y2, q3, hf⟩ := bd_use hf
  have hfo : Foc (WMin a1 (a2 0) m1 ++ (WDay z a2 y1)) (WDay z a2 y1) (WMin a1 (a2 0) m1 ++ (WDay z a2 y2)) (WDay z a2 y2) := (foc_r foc_all)
  refine z_goV (ws1 := (WMin a1 (a2 0) m1 ++ (WDay z a2 y2))) (va_runV (As := [.int 180]) (rest := []) ⟨hx, hb, hml, hown, hts⟩ (tX2_pass l D z tt a2 y1 180 fu y2 q3 _) (cwV 1 hts (gV4 aw527 aw439 aw440 aw46 aw441) rfl rfl rfl (by decide +kernel) ⟨Nat.le_of_ble_eq_true rfl, Nat.le_of_ble_eq_true rfl⟩) (z_preV hK hP hD hS hA hT hN hfo (va_recv hK hP (ci := 2) (q0 := 1) rfl rfl)) rfl rfl hl.1 rfl (lv_room (Nat.le_of_ble_eq_true rfl)) dX5_restOfDay_15 ⟨Nat.zero_le _, Nat.zero_le _⟩) hP hD hS hA hfo (fun H locs hP hD hS => ?_)
  refine lv_iload_n hx hb dX5_restOfDay_18 rfl (lv_at hl 1 rfl) ?_
  by_cases c4 : p1 = 0
  · have hf := if_t c4 hf
    refine z_tin (K := 0) hx hb c4 dX5_restOfDay_19 ⟨rfl, by decide, by decide⟩ (tgt := 48) (by decide) ?_
    refine lv_aload_n hx hb dX5_restOfDay_48 rfl (lv_at hl 0 rfl) ?_
    refine va_get (D := D) (ci := 5) (v := .ref (a2 0)) (C := RX5) (T := TX5) (N := 2) hx hb hts iX5 hown hK hP 0 rfl rfl 0 (by decide) (hts _ aw199) (fun _ h9 => h9) rfl dX5_restOfDay_49 ?_
    obtain ⟨r5, q6, hf⟩ := bd_use hf
    have hfo : Foc (WMin a1 (a2 0) m1 ++ (WDay z a2 y2)) (WDay z a2 y2) (WMin a1 (a2 0) m1 ++ (WDay z a2 y2)) (WDay z a2 y2) := (foc_r foc_all)
    refine z_goI (ws1 := (WMin a1 (a2 0) m1 ++ (WDay z a2 y2))) (va_runV (As := []) (rest := []) ⟨hx, hb, hml, hown, hts⟩ (tX2_allWaited l D z tt a2 y2  fu r5 q6 _) (cwV 0 hts (gV4 aw528 aw529 aw530 aw46 aw531) rfl rfl rfl (by decide +kernel) ⟨Nat.le_of_ble_eq_true rfl, Nat.le_of_ble_eq_true rfl⟩) (z_preV hK hP hD hS hA hT hN hfo (va_recv hK hP (ci := 2) (q0 := 1) rfl rfl)) rfl rfl hl.1 rfl (lv_room (Nat.le_of_ble_eq_true rfl)) dX5_restOfDay_52 ⟨Nat.zero_le _, Nat.zero_le _⟩) hP hD hS hA hfo (fun H locs hP hD hS => ?_)
    obtain ⟨rfl, rfl⟩ := so2 hf
    exact ret_i hx hb hr hlocks hK hP hD hS dX5_restOfDay_55
  have hf := if_f c4 hf
  by_cases c7 : p1 = 1
  · have hf := if_t c7 hf
    refine z_tin (K := 1) hx hb c7 dX5_restOfDay_19 ⟨rfl, by decide, by decide⟩ (tgt := 56) (by decide) ?_
    refine lv_aload_n hx hb dX5_restOfDay_56 rfl (lv_at hl 0 rfl) ?_
    refine va_get (D := D) (ci := 5) (v := .ref (a2 0)) (C := RX5) (T := TX5) (N := 2) hx hb hts iX5 hown hK hP 0 rfl rfl 0 (by decide) (hts _ aw199) (fun _ h9 => h9) rfl dX5_restOfDay_57 ?_
    refine lv_iconst (v := 3) hx hb dX5_restOfDay_60 (by decide) ?_
    obtain ⟨r8, q9, hf⟩ := bd_use hf
    have hfo : Foc (WMin a1 (a2 0) m1 ++ (WDay z a2 y2)) (WDay z a2 y2) (WMin a1 (a2 0) m1 ++ (WDay z a2 y2)) (WDay z a2 y2) := (foc_r foc_all)
    refine z_goI (ws1 := (WMin a1 (a2 0) m1 ++ (WDay z a2 y2))) (va_runV (As := [.int 3]) (rest := []) ⟨hx, hb, hml, hown, hts⟩ (tX2_comersWith l D z tt a2 y2 3 fu r8 q9 _) (cwV 1 hts (gV4 aw533 aw427 aw428 aw46 aw429) rfl rfl rfl (by decide +kernel) ⟨Nat.le_of_ble_eq_true rfl, Nat.le_of_ble_eq_true rfl⟩) (z_preV hK hP hD hS hA hT hN hfo (va_recv hK hP (ci := 2) (q0 := 1) rfl rfl)) rfl rfl hl.1 rfl (lv_room (Nat.le_of_ble_eq_true rfl)) dX5_restOfDay_61 ⟨Nat.zero_le _, Nat.zero_le _⟩) hP hD hS hA hfo (fun H locs hP hD hS => ?_)
    obtain ⟨rfl, rfl⟩ := so2 hf
    exact ret_i hx hb hr hlocks hK hP hD hS dX5_restOfDay_64
  have hf := if_f c7 hf
  by_cases c10 : p1 = 2
  · have hf := if_t c10 hf
    refine z_tin (K := 2) hx hb c10 dX5_restOfDay_19 ⟨rfl, by decide, by decide⟩ (tgt := 65) (by decide) ?_
    refine lv_aload_n hx hb dX5_restOfDay_65 rfl (lv_at hl 0 rfl) ?_
    refine va_get (D := D) (ci := 5) (v := .ref (a2 0)) (C := RX5) (T := TX5) (N := 2) hx hb hts iX5 hown hK hP 0 rfl rfl 0 (by decide) (hts _ aw199) (fun _ h9 => h9) rfl dX5_restOfDay_66 ?_
    refine va_get (D := D) (ci := 2) (v := .int (y2 0 7)) (C := RX2) (T := TX2) (N := 8) hx hb hts iX2 hown hK hP 1 rfl rfl 7 (by decide) (hts _ aw172) (fun _ h9 => h9) rfl dX5_restOfDay_69 ?_
    obtain ⟨rfl, rfl⟩ := so2 hf
    exact ret_i hx hb hr hlocks hK hP hD hS dX5_restOfDay_72
  have hf := if_f c10 hf
  by_cases c11 : p1 = 3
  · have hf := if_t c11 hf
    refine z_tin (K := 3) hx hb c11 dX5_restOfDay_19 ⟨rfl, by decide, by decide⟩ (tgt := 73) (by decide) ?_
    refine lv_aload_n hx hb dX5_restOfDay_73 rfl (lv_at hl 0 rfl) ?_
    refine va_get (D := D) (ci := 5) (v := .ref (a2 0)) (C := RX5) (T := TX5) (N := 2) hx hb hts iX5 hown hK hP 0 rfl rfl 0 (by decide) (hts _ aw199) (fun _ h9 => h9) rfl dX5_restOfDay_74 ?_
    obtain ⟨r12, q13, hf⟩ := bd_use hf
    have hfo : Foc (WMin a1 (a2 0) m1 ++ (WDay z a2 y2)) (WDay z a2 y2) (WMin a1 (a2 0) m1 ++ (WDay z a2 y2)) (WDay z a2 y2) := (foc_r foc_all)
    refine z_goI (ws1 := (WMin a1 (a2 0) m1 ++ (WDay z a2 y2))) (va_runV (As := []) (rest := []) ⟨hx, hb, hml, hown, hts⟩ (tX2_cupsLeft l D z tt a2 y2  fu r12 q13 _) (cwV 0 hts (gV4 aw534 aw535 aw536 aw46 aw537) rfl rfl rfl (by decide +kernel) ⟨Nat.le_of_ble_eq_true rfl, Nat.le_of_ble_eq_true rfl⟩) (z_preV hK hP hD hS hA hT hN hfo (va_recv hK hP (ci := 2) (q0 := 1) rfl rfl)) rfl rfl hl.1 rfl (lv_room (Nat.le_of_ble_eq_true rfl)) dX5_restOfDay_77 ⟨Nat.zero_le _, Nat.zero_le _⟩) hP hD hS hA hfo (fun H locs hP hD hS => ?_)
    obtain ⟨rfl, rfl⟩ := so2 hf
    exact ret_i hx hb hr hlocks hK hP hD hS dX5_restOfDay_80
  have hf := if_f c11 hf
  refine lv_tableOut (tgt := 81) hx hb dX5_restOfDay_19 (by have qc4 := lv_neT c4 (show (0 : Int32).toInt = 0 from by decide); have qc7 := lv_neT c7 (show (1 : Int32).toInt = 1 from by decide); have qc10 := lv_neT c10 (show (2 : Int32).toInt = 2 from by decide); have qc11 := lv_neT c11 (show (3 : Int32).toInt = 3 from by decide); omega) (by decide) ?_
  refine lv_aload_n hx hb dX5_restOfDay_81 rfl (lv_at hl 0 rfl) ?_
  refine va_get (D := D) (ci := 5) (v := .ref (a2 0)) (C := RX5) (T := TX5) (N := 2) hx hb hts iX5 hown hK hP 0 rfl rfl 0 (by decide) (hts _ aw199) (fun _ h9 => h9) rfl dX5_restOfDay_82 ?_
  obtain ⟨r14, q15, hf⟩ := bd_use hf
  have hfo : Foc (WMin a1 (a2 0) m1 ++ (WDay z a2 y2)) (WDay z a2 y2) (WMin a1 (a2 0) m1 ++ (WDay z a2 y2)) (WDay z a2 y2) := (foc_r foc_all)
  refine z_goI (ws1 := (WMin a1 (a2 0) m1 ++ (WDay z a2 y2))) (va_runV (As := []) (rest := []) ⟨hx, hb, hml, hown, hts⟩ (tX2_cost l D z tt a2 y2  fu r14 q15 _) (cwV 0 hts (gV4 aw538 aw539 aw540 aw46 aw541) rfl rfl rfl (by decide +kernel) ⟨Nat.le_of_ble_eq_true rfl, Nat.le_of_ble_eq_true rfl⟩) (z_preV hK hP hD hS hA hT hN hfo (va_recv hK hP (ci := 2) (q0 := 1) rfl rfl)) rfl rfl hl.1 rfl (lv_room (Nat.le_of_ble_eq_true rfl)) dX5_restOfDay_85 ⟨Nat.zero_le _, Nat.zero_le _⟩) hP hD hS hA hfo (fun H locs hP hD hS => ?_)
  obtain ⟨rfl, rfl⟩ := so2 hf
  exact ret_i hx hb hr hlocks hK hP hD hS dX5_restOfDay_88
def pX5_servedAt (fu : Nat) (m2 : Mem) (p1 : Int32) : Option (Int32 × Mem) :=
  bd (pX2_pass fu m2 180) fun y1 =>
  ck p1 8 <|
  if (y1 (5 + p1.toNatClampNeg) 5) = 2 then
    some ((y1 (5 + p1.toNatClampNeg) 6), y1)
  else
    some ((-9), y1)
set_option maxHeartbeats 4000000 in
set_option maxRecDepth 100000 in
theorem tX5_servedAt (l : Launch) (D : va_G) (z tt : Nat → Nat) (a1 : Nat) (a2 : Nat → Nat) (m1 : Mem) (m2 : Mem) (p1 : Int32) (fu : Nat) (rr : Int32) (m2' : Mem) (hf : pX5_servedAt fu m2 p1 = some (rr, m2')) : MetI l yX5_servedAt wsX5_servedAt ({ frames := 5, cells := 0, slots := 0, locals := 113 } : Room) D z tt ([.ref a1, .int p1] : List Value) (WMin a1 (a2 0) m1 ++ (WDay z a2 m2)) rr (WMin a1 (a2 0) m1 ++ (WDay z a2 m2')) := by
  intro sz
  refine Met.ofW (cc := cX5_servedAt) (maxL := 3) (ret := (some .int)) (by decide) rfl ?_
  intro p e s m args below meth c s₁ B hml hv
  obtain ⟨rfl, hsz, hP, hK, hD0, hT, hN⟩ := hv
  have hx := B.exec
  have hb := B.bytes
  have hr := B.returns
  have hts : ∀ w ∈ wsA, w.before ([.ref a1, .int p1] : List Value).toArray s = true := fun w h => atoms_spec (ws := wsX5_servedAt) B.pre w (List.mem_cons_of_mem _ h)
  have hown : s.vm.findClass RX5 = some m.cls := findClass_of_methodNamed B.named
  have hlocks := B.notSynchronized
  subst hsz
  have hD := hD0.self (sz := s.heap.size)
  generalize hAe : va_A (WMin a1 (a2 0) m1 ++ (WDay z a2 m2)) s.heap.size = A at hD hT ⊢
  have hA : ∀ q : Nat, s.heap.size ≤ q → A q := fun q h => by rw [← hAe]; exact Or.inr h
  have hS : va_S A s.heap s.heap [] := va_S.rf
  have hl := lv_entry ([.ref a1, .int p1] : List Value) (n := 3) (Nat.le_of_ble_eq_true rfl)
  rw [lg_entry_eq]
  generalize (lg_sl ([.ref a1, .int p1] : List Value) ++ List.replicate (3 - (lg_sl ([.ref a1, .int p1] : List Value)).length) Slot.unset).toArray = ls at hl ⊢
  have hl : lv_has ls 3 [(0, .ref a1), (1, .int p1)] := hl
  unfold pX5_servedAt at hf
  refine lv_aload_n hx hb dX5_servedAt_0 rfl (lv_at hl 0 rfl) ?_
  refine va_get (D := D) (ci := 5) (v := .ref (a2 0)) (C := RX5) (T := TX5) (N := 2) hx hb hts iX5 hown hK hP 0 rfl rfl 0 (by decide) (hts _ aw199) (fun _ h9 => h9) rfl dX5_servedAt_1 ?_
  refine lv_sipush (v := 180) hx hb dX5_servedAt_4 (by decide) ?_
  obtain ⟨y1, q2, hf⟩ := bd_use hf
  have hfo : Foc (WMin a1 (a2 0) m1 ++ (WDay z a2 m2)) (WDay z a2 m2) (WMin a1 (a2 0) m1 ++ (WDay z a2 y1)) (WDay z a2 y1) := (foc_r foc_all)
  refine z_goV (ws1 := (WMin a1 (a2 0) m1 ++ (WDay z a2 y1))) (va_runV (As := [.int 180]) (rest := []) ⟨hx, hb, hml, hown, hts⟩ (tX2_pass l D z tt a2 m2 180 fu y1 q2 _) (cwV 1 hts (gV4 aw527 aw439 aw440 aw46 aw441) rfl rfl rfl (by decide +kernel) ⟨Nat.le_of_ble_eq_true rfl, Nat.le_of_ble_eq_true rfl⟩) (z_preV hK hP hD hS hA hT hN hfo (va_recv hK hP (ci := 2) (q0 := 1) rfl rfl)) rfl rfl hl.1 rfl (lv_room (Nat.le_of_ble_eq_true rfl)) dX5_servedAt_7 ⟨Nat.zero_le _, Nat.zero_le _⟩) hP hD hS hA hfo (fun H locs hP hD hS => ?_)
  refine lv_aload_n hx hb dX5_servedAt_10 rfl (lv_at hl 0 rfl) ?_
  refine va_get (D := D) (ci := 5) (v := .ref (a2 0)) (C := RX5) (T := TX5) (N := 2) hx hb hts iX5 hown hK hP 0 rfl rfl 0 (by decide) (hts _ aw199) (fun _ h9 => h9) rfl dX5_servedAt_11 ?_
  refine va_get (D := D) (ci := 2) (v := .ref (a2 13)) (C := RX2) (T := TX2) (N := 8) hx hb hts iX2 hown hK hP 1 rfl rfl 1 (by decide) (hts _ aw156) (fun _ h9 => h9) rfl dX5_servedAt_14 ?_
  refine lv_iload_n hx hb dX5_servedAt_17 rfl (lv_at hl 1 rfl) ?_
  obtain ⟨h3, hf⟩ := ck_use hf
  refine z_ald hx hb hK hP 14 1 (C := "FilledForOne$Comer") (g := (fun j => a2 (5 + j))) rfl rfl h3 dX5_servedAt_18 ?_
  refine lv_astore_n (lv' := [(2, .ref (a2 (5 + p1.toNatClampNeg))), (0, .ref a1), (1, .int p1)]) hx hb dX5_servedAt_19 rfl hl (by decide) rfl (fun ls hl => ?_)
  refine lv_aload_n hx hb dX5_servedAt_20 rfl (lv_at hl 0 rfl) ?_
  refine va_get (D := D) (ci := 1) (v := .int (y1 (5 + p1.toNatClampNeg) 5)) (C := RX1) (T := TX1) (N := 7) hx hb hts iX1 hown hK hP (1 + (5 + p1.toNatClampNeg)) (w_skip (n := 1) rfl (WDay_c z a2 y1 (vp_lt h3))) rfl 5 (by decide) (hts _ aw104) (fun _ h9 => h9) rfl dX5_servedAt_21 ?_
  refine lv_iconst (v := 2) hx hb dX5_servedAt_24 (by decide) ?_
  refine lv_icmp_ne (tgt := 35) hx hb dX5_servedAt_25 (by decide) (fun c4 => ?_) (fun c4 => ?_)
  · have hf := if_f c4 hf
    refine lv_bipush (v := (-9)) hx hb dX5_servedAt_35 (by decide) ?_
    obtain ⟨rfl, rfl⟩ := so2 hf
    exact ret_i hx hb hr hlocks hK hP hD hS dX5_servedAt_37
  · have hf := if_t c4 hf
    refine lv_aload_n hx hb dX5_servedAt_28 rfl (lv_at hl 0 rfl) ?_
    refine va_get (D := D) (ci := 1) (v := .int (y1 (5 + p1.toNatClampNeg) 6)) (C := RX1) (T := TX1) (N := 7) hx hb hts iX1 hown hK hP (1 + (5 + p1.toNatClampNeg)) (w_skip (n := 1) rfl (WDay_c z a2 y1 (vp_lt h3))) rfl 6 (by decide) (hts _ aw106) (fun _ h9 => h9) rfl dX5_servedAt_29 ?_
    refine lv_goto (tgt := 37) hx hb dX5_servedAt_32 (by decide) ?_
    obtain ⟨rfl, rfl⟩ := so2 hf
    exact ret_i hx hb hr hlocks hK hP hD hS dX5_servedAt_37
def pX5_costAnew (fu : Nat) (m2 : Mem) : Option (Int32 × Mem) :=
  bd (pX2_begin fu m2) fun y1 =>
  zl2 (fun g6 (x3 : Int32) (y4 : Mem) =>
    jn1 (fun (u0 : Unit) =>
      bd (pX2_cost fu y4) fun r9 =>
      some (r9, y4)) fun k8 =>
    if 180 ≤ x3 then
      k8 ()
    else
      bd (pX2_isOver fu y4) fun r12 =>
      if r12 = 0 then
        bd (pX2_passMinute fu y4) fun y15 =>
        lt' (x3 + 1) fun x17 =>
        g6 x17 y15
      else
        k8 ()) fu 0 y1
set_option maxHeartbeats 4000000 in
set_option maxRecDepth 100000 in
theorem tX5_costAnew (l : Launch) (D : va_G) (z tt : Nat → Nat) (a1 : Nat) (a2 : Nat → Nat) (m1 : Mem) (m2 : Mem)  (fu : Nat) (rr : Int32) (m2' : Mem) (hf : pX5_costAnew fu m2 = some (rr, m2')) : MetI l yX5_costAnew wsX5_costAnew ({ frames := 4, cells := 0, slots := 0, locals := 91 } : Room) D z tt ([.ref a1] : List Value) (WMin a1 (a2 0) m1 ++ (WDay z a2 m2)) rr (WMin a1 (a2 0) m1 ++ (WDay z a2 m2')) := by
  intro sz
  refine Met.ofW (cc := cX5_costAnew) (maxL := 2) (ret := (some .int)) (by decide) rfl ?_
  intro p e s m args below meth c s₁ B hml hv
  obtain ⟨rfl, hsz, hP, hK, hD0, hT, hN⟩ := hv
  have hx := B.exec
  have hb := B.bytes
  have hr := B.returns
  have hts : ∀ w ∈ wsA, w.before ([.ref a1] : List Value).toArray s = true := fun w h => atoms_spec (ws := wsX5_costAnew) B.pre w (List.mem_cons_of_mem _ h)
  have hown : s.vm.findClass RX5 = some m.cls := findClass_of_methodNamed B.named
  have hlocks := B.notSynchronized
  subst hsz
  have hD := hD0.self (sz := s.heap.size)
  generalize hAe : va_A (WMin a1 (a2 0) m1 ++ (WDay z a2 m2)) s.heap.size = A at hD hT ⊢
  have hA : ∀ q : Nat, s.heap.size ≤ q → A q := fun q h => by rw [← hAe]; exact Or.inr h
  have hS : va_S A s.heap s.heap [] := va_S.rf
  have hl := lv_entry ([.ref a1] : List Value) (n := 2) (Nat.le_of_ble_eq_true rfl)
  rw [lg_entry_eq]
  generalize (lg_sl ([.ref a1] : List Value) ++ List.replicate (2 - (lg_sl ([.ref a1] : List Value)).length) Slot.unset).toArray = ls at hl ⊢
  have hl : lv_has ls 2 [(0, .ref a1)] := hl
  unfold pX5_costAnew at hf
  refine lv_aload_n hx hb dX5_costAnew_0 rfl (lv_at hl 0 rfl) ?_
  refine va_get (D := D) (ci := 5) (v := .ref (a2 0)) (C := RX5) (T := TX5) (N := 2) hx hb hts iX5 hown hK hP 0 rfl rfl 0 (by decide) (hts _ aw199) (fun _ h9 => h9) rfl dX5_costAnew_1 ?_
  obtain ⟨y1, q2, hf⟩ := bd_use hf
  have hfo : Foc (WMin a1 (a2 0) m1 ++ (WDay z a2 m2)) (WDay z a2 m2) (WMin a1 (a2 0) m1 ++ (WDay z a2 y1)) (WDay z a2 y1) := (foc_r foc_all)
  refine z_goV (ws1 := (WMin a1 (a2 0) m1 ++ (WDay z a2 y1))) (va_runV (As := []) (rest := []) ⟨hx, hb, hml, hown, hts⟩ (tX2_begin l D z tt a2 m2  fu y1 q2 _) (cwV 0 hts (gV4 aw565 aw508 aw509 aw46 aw510) rfl rfl rfl (by decide +kernel) ⟨Nat.le_of_ble_eq_true rfl, Nat.le_of_ble_eq_true rfl⟩) (z_preV hK hP hD hS hA hT hN hfo (va_recv hK hP (ci := 2) (q0 := 1) rfl rfl)) rfl rfl hl.1 rfl (lv_room (Nat.le_of_ble_eq_true rfl)) dX5_costAnew_4 ⟨Nat.zero_le _, Nat.zero_le _⟩) hP hD hS hA hfo (fun H locs hP hD hS => ?_)
  refine lv_iconst (v := 0) hx hb dX5_costAnew_7 (by decide) ?_
  refine lv_istore_n (lv' := [(1, .int 0), (0, .ref a1)]) hx hb dX5_costAnew_8 rfl hl (by decide) rfl (fun ls hl => ?_)
  obtain ⟨F5, eF5, hf⟩ := zl2_use hf
  have L9_F5 : ∀ (n : Nat) (x3 : Int32) (y4 : Mem) (H : Heap) (locs : List Loc), va_P D vwCl (WMin a1 (a2 0) m1 ++ (WDay z a2 y4)) H → va_D A (WMin a1 (a2 0) m1 ++ (WDay z a2 y4)) → va_S A s.heap H locs → ∀ (ls : Array Slot), lv_has ls 2 [(0, .ref a1), (1, .int x3)] → zl2 F5 n x3 y4 = some (rr, m2') → GI p l e (headSpec wsX5_costAnew ({ frames := 4, cells := 0, slots := 0, locals := 91 } : Room)).room s m ([.ref a1] : List Value).toArray below meth c A D z rr (WMin a1 (a2 0) m1 ++ (WDay z a2 m2')) H locs (F0 m 9 ls []) := by
    intro n
    induction n with
    | zero =>
      intro x3 y4 H locs hP hD hS ls hl hf
      exact no_none hf
    | succ n ih7 =>
      intro x3 y4 H locs hP hD hS ls hl hf
      have hf := zl2_s eF5 hf
      refine lv_iload_n hx hb dX5_costAnew_9 rfl (lv_at hl 1 rfl) ?_
      refine lv_sipush (v := 180) hx hb dX5_costAnew_10 (by decide) ?_
      obtain ⟨k8, ek8, hf⟩ := jn1_use hf
      have B39_k8 : ∀ (u0 : Unit) (H : Heap) (locs : List Loc), va_P D vwCl (WMin a1 (a2 0) m1 ++ (WDay z a2 y4)) H → va_D A (WMin a1 (a2 0) m1 ++ (WDay z a2 y4)) → va_S A s.heap H locs → ∀ (ls : Array Slot), lv_has ls 2 [(0, .ref a1)] → k8 u0 = some (rr, m2') → GI p l e (headSpec wsX5_costAnew ({ frames := 4, cells := 0, slots := 0, locals := 91 } : Room)).room s m ([.ref a1] : List Value).toArray below meth c A D z rr (WMin a1 (a2 0) m1 ++ (WDay z a2 m2')) H locs (F0 m 39 ls []) := by
        intro u0 H locs hP hD hS ls hl hf
        have hf := jn1_ap ek8 hf
        refine lv_aload_n hx hb dX5_costAnew_39 rfl (lv_at hl 0 rfl) ?_
        refine va_get (D := D) (ci := 5) (v := .ref (a2 0)) (C := RX5) (T := TX5) (N := 2) hx hb hts iX5 hown hK hP 0 rfl rfl 0 (by decide) (hts _ aw199) (fun _ h9 => h9) rfl dX5_costAnew_40 ?_
        obtain ⟨r9, q10, hf⟩ := bd_use hf
        have hfo : Foc (WMin a1 (a2 0) m1 ++ (WDay z a2 y4)) (WDay z a2 y4) (WMin a1 (a2 0) m1 ++ (WDay z a2 y4)) (WDay z a2 y4) := (foc_r foc_all)
        refine z_goI (ws1 := (WMin a1 (a2 0) m1 ++ (WDay z a2 y4))) (va_runV (As := []) (rest := []) ⟨hx, hb, hml, hown, hts⟩ (tX2_cost l D z tt a2 y4  fu r9 q10 _) (cwV 0 hts (gV4 aw538 aw539 aw540 aw46 aw541) rfl rfl rfl (by decide +kernel) ⟨Nat.le_of_ble_eq_true rfl, Nat.le_of_ble_eq_true rfl⟩) (z_preV hK hP hD hS hA hT hN hfo (va_recv hK hP (ci := 2) (q0 := 1) rfl rfl)) rfl rfl hl.1 rfl (lv_room (Nat.le_of_ble_eq_true rfl)) dX5_costAnew_43 ⟨Nat.zero_le _, Nat.zero_le _⟩) hP hD hS hA hfo (fun H locs hP hD hS => ?_)
        obtain ⟨rfl, rfl⟩ := so2 hf
        exact ret_i hx hb hr hlocks hK hP hD hS dX5_costAnew_46
      refine lv_icmp_ge (tgt := 39) hx hb dX5_costAnew_13 (by decide) (fun c11 => ?_) (fun c11 => ?_)
      · have hf := if_t c11 hf
        exact B39_k8 _ _ _ hP hD hS _ (lv_sub hl [0] rfl) hf
      · have hf := if_f c11 hf
        refine lv_aload_n hx hb dX5_costAnew_16 rfl (lv_at hl 0 rfl) ?_
        refine va_get (D := D) (ci := 5) (v := .ref (a2 0)) (C := RX5) (T := TX5) (N := 2) hx hb hts iX5 hown hK hP 0 rfl rfl 0 (by decide) (hts _ aw199) (fun _ h9 => h9) rfl dX5_costAnew_17 ?_
        obtain ⟨r12, q13, hf⟩ := bd_use hf
        have hfo : Foc (WMin a1 (a2 0) m1 ++ (WDay z a2 y4)) (WDay z a2 y4) (WMin a1 (a2 0) m1 ++ (WDay z a2 y4)) (WDay z a2 y4) := (foc_r foc_all)
        refine z_goI (ws1 := (WMin a1 (a2 0) m1 ++ (WDay z a2 y4))) (va_runV (As := []) (rest := []) ⟨hx, hb, hml, hown, hts⟩ (tX2_isOver l D z tt a2 y4  fu r12 q13 _) (cwV 0 hts (gV4 aw566 aw423 aw424 aw46 aw425) rfl rfl rfl (by decide +kernel) ⟨Nat.le_of_ble_eq_true rfl, Nat.le_of_ble_eq_true rfl⟩) (z_preV hK hP hD hS hA hT hN hfo (va_recv hK hP (ci := 2) (q0 := 1) rfl rfl)) rfl rfl hl.1 rfl (lv_room (Nat.le_of_ble_eq_true rfl)) dX5_costAnew_20 ⟨Nat.zero_le _, Nat.zero_le _⟩) hP hD hS hA hfo (fun H locs hP hD hS => ?_)
        refine lv_if_ne (tgt := 39) hx hb dX5_costAnew_23 (by decide) (fun c14 => ?_) (fun c14 => ?_)
        · have hf := if_f c14 hf
          exact B39_k8 _ _ _ hP hD hS _ (lv_sub hl [0] rfl) hf
        · have hf := if_t c14 hf
          refine lv_aload_n hx hb dX5_costAnew_26 rfl (lv_at hl 0 rfl) ?_
          refine va_get (D := D) (ci := 5) (v := .ref (a2 0)) (C := RX5) (T := TX5) (N := 2) hx hb hts iX5 hown hK hP 0 rfl rfl 0 (by decide) (hts _ aw199) (fun _ h9 => h9) rfl dX5_costAnew_27 ?_
          obtain ⟨y15, q16, hf⟩ := bd_use hf
          have hfo : Foc (WMin a1 (a2 0) m1 ++ (WDay z a2 y4)) (WDay z a2 y4) (WMin a1 (a2 0) m1 ++ (WDay z a2 y15)) (WDay z a2 y15) := (foc_r foc_all)
          refine z_goV (ws1 := (WMin a1 (a2 0) m1 ++ (WDay z a2 y15))) (va_runV (As := []) (rest := []) ⟨hx, hb, hml, hown, hts⟩ (tX2_passMinute l D z tt a2 y4  fu y15 q16 _) (cwV 0 hts (gV4 aw567 aw444 aw445 aw46 aw446) rfl rfl rfl (by decide +kernel) ⟨Nat.le_of_ble_eq_true rfl, Nat.le_of_ble_eq_true rfl⟩) (z_preV hK hP hD hS hA hT hN hfo (va_recv hK hP (ci := 2) (q0 := 1) rfl rfl)) rfl rfl hl.1 rfl (lv_room (Nat.le_of_ble_eq_true rfl)) dX5_costAnew_30 ⟨Nat.zero_le _, Nat.zero_le _⟩) hP hD hS hA hfo (fun H locs hP hD hS => ?_)
          obtain ⟨x17, ex17⟩ : ∃ y : Int32, y = x3 + 1 := ⟨_, rfl⟩
          have hf := lt_use ex17 hf
          refine lv_iinc (v := x17) (lv' := [(1, .int x17), (0, .ref a1)]) hx hb dX5_costAnew_33 hl (k := 1) rfl (by rw [ex17]; rfl) (by decide) rfl (fun ls hl => ?_)
          refine lv_goto (tgt := 9) hx hb dX5_costAnew_36 (by decide) ?_
          exact ih7 _ _ _ _ hP hD hS _ (lv_sub hl [1, 0] rfl) hf
  exact L9_F5 fu _ _ _ _ hP hD hS _ (lv_sub hl [1, 0] rfl) hf
def pX5_bestKind (fu : Nat) (m2 : Mem) (p1 : Int32) (p2 : Int32) : Option (Int32 × Mem) :=
  ck p1 8 <|
  lt' ((m2 (5 + p1.toNatClampNeg) 0) : Int32) fun x2 =>
  zl4 (fun g8 (x3 : Int32) (x4 : Int32) (x5 : Int32) (y6 : Mem) =>
    if 7 ≤ x5 then
      lt' (up2 y6 (5 + p1.toNatClampNeg) 0 x2) fun y11 =>
      some (x3, y11)
    else
      lt' (up2 y6 (5 + p1.toNatClampNeg) 0 x5) fun y12 =>
      bd2 (pX5_costAnew fu y12) fun r13 y14 =>
      jn1 (fun (x16 : Int32) =>
        if x4 ≤ x16 then
          lt' (x5 + 1) fun x19 =>
          g8 x3 x4 x19 y14
        else
          lt' (x5 + 1) fun x20 =>
          g8 x5 x16 x20 y14) fun k17 =>
      if p2 = 0 then
        k17 r13
      else
        if (y14 (5 + p1.toNatClampNeg) 5) = 2 then
          bd (pX1_waited fu (y14 (5 + p1.toNatClampNeg))) fun r23 =>
          k17 r23
        else
          k17 99) fu 0 2147483647 0 m2
set_option maxHeartbeats 4000000 in
set_option maxRecDepth 100000 in
theorem tX5_bestKind (l : Launch) (D : va_G) (z tt : Nat → Nat) (a1 : Nat) (a2 : Nat → Nat) (m1 : Mem) (m2 : Mem) (p1 : Int32) (p2 : Int32) (fu : Nat) (rr : Int32) (m2' : Mem) (hf : pX5_bestKind fu m2 p1 p2 = some (rr, m2')) : MetI l yX5_bestKind wsX5_bestKind ({ frames := 5, cells := 0, slots := 0, locals := 112 } : Room) D z tt ([.ref a1, .int p1, .int p2] : List Value) (WMin a1 (a2 0) m1 ++ (WDay z a2 m2)) rr (WMin a1 (a2 0) m1 ++ (WDay z a2 m2')) := by
  intro sz
  refine Met.ofW (cc := cX5_bestKind) (maxL := 9) (ret := (some .int)) (by decide) rfl ?_
  intro p e s m args below meth c s₁ B hml hv
  obtain ⟨rfl, hsz, hP, hK, hD0, hT, hN⟩ := hv
  have hx := B.exec
  have hb := B.bytes
  have hr := B.returns
  have hts : ∀ w ∈ wsA, w.before ([.ref a1, .int p1, .int p2] : List Value).toArray s = true := fun w h => atoms_spec (ws := wsX5_bestKind) B.pre w (List.mem_cons_of_mem _ h)
  have hown : s.vm.findClass RX5 = some m.cls := findClass_of_methodNamed B.named
  have hlocks := B.notSynchronized
  subst hsz
  have hD := hD0.self (sz := s.heap.size)
  generalize hAe : va_A (WMin a1 (a2 0) m1 ++ (WDay z a2 m2)) s.heap.size = A at hD hT ⊢
  have hA : ∀ q : Nat, s.heap.size ≤ q → A q := fun q h => by rw [← hAe]; exact Or.inr h
  have hS : va_S A s.heap s.heap [] := va_S.rf
  have hl := lv_entry ([.ref a1, .int p1, .int p2] : List Value) (n := 9) (Nat.le_of_ble_eq_true rfl)
  rw [lg_entry_eq]
  generalize (lg_sl ([.ref a1, .int p1, .int p2] : List Value) ++ List.replicate (9 - (lg_sl ([.ref a1, .int p1, .int p2] : List Value)).length) Slot.unset).toArray = ls at hl ⊢
  have hl : lv_has ls 9 [(0, .ref a1), (1, .int p1), (2, .int p2)] := hl
  unfold pX5_bestKind at hf
  refine lv_aload_n hx hb dX5_bestKind_0 rfl (lv_at hl 0 rfl) ?_
  refine va_get (D := D) (ci := 5) (v := .ref (a2 0)) (C := RX5) (T := TX5) (N := 2) hx hb hts iX5 hown hK hP 0 rfl rfl 0 (by decide) (hts _ aw199) (fun _ h9 => h9) rfl dX5_bestKind_1 ?_
  refine va_get (D := D) (ci := 2) (v := .ref (a2 13)) (C := RX2) (T := TX2) (N := 8) hx hb hts iX2 hown hK hP 1 rfl rfl 1 (by decide) (hts _ aw156) (fun _ h9 => h9) rfl dX5_bestKind_4 ?_
  refine lv_iload_n hx hb dX5_bestKind_7 rfl (lv_at hl 1 rfl) ?_
  obtain ⟨h1, hf⟩ := ck_use hf
  refine z_ald hx hb hK hP 14 1 (C := "FilledForOne$Comer") (g := (fun j => a2 (5 + j))) rfl rfl h1 dX5_bestKind_8 ?_
  refine lv_astore_n (lv' := [(3, .ref (a2 (5 + p1.toNatClampNeg))), (0, .ref a1), (1, .int p1), (2, .int p2)]) hx hb dX5_bestKind_9 rfl hl (by decide) rfl (fun ls hl => ?_)
  refine lv_aload_n hx hb dX5_bestKind_10 rfl (lv_at hl 0 rfl) ?_
  refine va_get (D := D) (ci := 1) (v := .int (m2 (5 + p1.toNatClampNeg) 0)) (C := RX1) (T := TX1) (N := 7) hx hb hts iX1 hown hK hP (1 + (5 + p1.toNatClampNeg)) (w_skip (n := 1) rfl (WDay_c z a2 m2 (vp_lt h1))) rfl 0 (by decide) (hts _ aw87) (fun _ h9 => h9) rfl dX5_bestKind_11 ?_
  refine lv_topi (fun x2 ex2 => ?_)
  have hf := lt_use ex2 hf
  refine lv_istore (lv' := [(4, .int x2), (3, .ref (a2 (5 + p1.toNatClampNeg))), (0, .ref a1), (1, .int p1), (2, .int p2)]) hx hb dX5_bestKind_14 hl (by decide) rfl (fun ls hl => ?_)
  refine lv_iconst (v := 0) hx hb dX5_bestKind_16 (by decide) ?_
  refine lv_istore (lv' := [(5, .int 0), (4, .int x2), (3, .ref (a2 (5 + p1.toNatClampNeg))), (0, .ref a1), (1, .int p1), (2, .int p2)]) hx hb dX5_bestKind_17 hl (by decide) rfl (fun ls hl => ?_)
  refine lv_ldc (v := 2147483647) hx hb hown (hts _ aw560) dX5_bestKind_19 ?_
  refine lv_istore (lv' := [(6, .int 2147483647), (5, .int 0), (4, .int x2), (3, .ref (a2 (5 + p1.toNatClampNeg))), (0, .ref a1), (1, .int p1), (2, .int p2)]) hx hb dX5_bestKind_21 hl (by decide) rfl (fun ls hl => ?_)
  refine lv_iconst (v := 0) hx hb dX5_bestKind_23 (by decide) ?_
  refine lv_istore (lv' := [(7, .int 0), (6, .int 2147483647), (5, .int 0), (4, .int x2), (3, .ref (a2 (5 + p1.toNatClampNeg))), (0, .ref a1), (1, .int p1), (2, .int p2)]) hx hb dX5_bestKind_24 hl (by decide) rfl (fun ls hl => ?_)
  obtain ⟨F7, eF7, hf⟩ := zl4_use hf
  have L26_F7 : ∀ (n : Nat) (x3 : Int32) (x4 : Int32) (x5 : Int32) (y6 : Mem) (H : Heap) (locs : List Loc), va_P D vwCl (WMin a1 (a2 0) m1 ++ (WDay z a2 y6)) H → va_D A (WMin a1 (a2 0) m1 ++ (WDay z a2 y6)) → va_S A s.heap H locs → ∀ (ls : Array Slot), lv_has ls 9 [(0, .ref a1), (2, .int p2), (3, .ref (a2 (5 + p1.toNatClampNeg))), (4, .int x2), (5, .int x3), (6, .int x4), (7, .int x5)] → zl4 F7 n x3 x4 x5 y6 = some (rr, m2') → GI p l e (headSpec wsX5_bestKind ({ frames := 5, cells := 0, slots := 0, locals := 112 } : Room)).room s m ([.ref a1, .int p1, .int p2] : List Value).toArray below meth c A D z rr (WMin a1 (a2 0) m1 ++ (WDay z a2 m2')) H locs (F0 m 26 ls []) := by
    intro n
    induction n with
    | zero =>
      intro x3 x4 x5 y6 H locs hP hD hS ls hl hf
      exact no_none hf
    | succ n ih9 =>
      intro x3 x4 x5 y6 H locs hP hD hS ls hl hf
      have hf := zl4_s eF7 hf
      refine lv_iload hx hb dX5_bestKind_26 (lv_at hl 6 rfl) ?_
      refine lv_bipush (v := 7) hx hb dX5_bestKind_28 (by decide) ?_
      refine lv_icmp_ge (tgt := 89) hx hb dX5_bestKind_30 (by decide) (fun c10 => ?_) (fun c10 => ?_)
      · have hf := if_t c10 hf
        refine lv_aload_n hx hb dX5_bestKind_89 rfl (lv_at hl 2 rfl) ?_
        refine lv_iload hx hb dX5_bestKind_90 (lv_at hl 3 rfl) ?_
        refine z_put (ci := 1) (v := .int x2) (ty := .int) (C := RX1) (T := TX1) (N := 7) hx hb hts iX1 tyX1 tyX1_ok nmX1 hown hK hP hD hS (1 + (5 + p1.toNatClampNeg)) (w_skip (n := 1) rfl (WDay_c z a2 y6 (vp_lt h1))) rfl 0 (by decide) (hts _ aw87) (fun _ h9 => h9) rfl (by decide +kernel) rfl rfl (Nat.le_of_ble_eq_true rfl) dX5_bestKind_92 (fun (w9 : Mem) => (WMin a1 (a2 0) m1 ++ (WDay z a2 w9))) (up2 y6 (5 + p1.toNatClampNeg) 0 x2) (s_skip (n := 1) rfl (WDay_sc z a2 y6 (upd (y6 (5 + p1.toNatClampNeg)) 0 x2) (vp_lt h1))) (fun y11 ey11 H locs hP hD hS => ?_)
        have hf := lt_use ey11 hf
        refine lv_iload hx hb dX5_bestKind_95 (lv_at hl 4 rfl) ?_
        obtain ⟨rfl, rfl⟩ := so2 hf
        exact ret_i hx hb hr hlocks hK hP hD hS dX5_bestKind_97
      · have hf := if_f c10 hf
        refine lv_aload_n hx hb dX5_bestKind_33 rfl (lv_at hl 2 rfl) ?_
        refine lv_iload hx hb dX5_bestKind_34 (lv_at hl 6 rfl) ?_
        refine z_put (ci := 1) (v := .int x5) (ty := .int) (C := RX1) (T := TX1) (N := 7) hx hb hts iX1 tyX1 tyX1_ok nmX1 hown hK hP hD hS (1 + (5 + p1.toNatClampNeg)) (w_skip (n := 1) rfl (WDay_c z a2 y6 (vp_lt h1))) rfl 0 (by decide) (hts _ aw87) (fun _ h9 => h9) rfl (by decide +kernel) rfl rfl (Nat.le_of_ble_eq_true rfl) dX5_bestKind_36 (fun (w9 : Mem) => (WMin a1 (a2 0) m1 ++ (WDay z a2 w9))) (up2 y6 (5 + p1.toNatClampNeg) 0 x5) (s_skip (n := 1) rfl (WDay_sc z a2 y6 (upd (y6 (5 + p1.toNatClampNeg)) 0 x5) (vp_lt h1))) (fun y12 ey12 H locs hP hD hS => ?_)
        have hf := lt_use ey12 hf
        refine lv_aload_n hx hb dX5_bestKind_39 rfl (lv_at hl 0 rfl) ?_
        obtain ⟨r13, y14, q15, hf⟩ := bd2_use hf
        have hfo : Foc (WMin a1 (a2 0) m1 ++ (WDay z a2 y12)) (WMin a1 (a2 0) m1 ++ (WDay z a2 y12)) (WMin a1 (a2 0) m1 ++ (WDay z a2 y14)) (WMin a1 (a2 0) m1 ++ (WDay z a2 y14)) := (foc_app foc_all foc_all)
        refine z_goI (ws1 := (WMin a1 (a2 0) m1 ++ (WDay z a2 y14))) (va_runV (As := []) (rest := []) ⟨hx, hb, hml, hown, hts⟩ (tX5_costAnew l D z tt a1 a2 m1 y12  fu r13 y14 q15 _) (cwV 0 hts (gV4 aw561 aw562 aw563 aw49 aw564) rfl rfl rfl (by decide +kernel) ⟨Nat.le_of_ble_eq_true rfl, Nat.le_of_ble_eq_true rfl⟩) (z_preV hK hP hD hS hA hT hN hfo (va_recv hK hP (ci := 5) (q0 := 0) rfl rfl)) rfl rfl hl.1 rfl (lv_room (Nat.le_of_ble_eq_true rfl)) dX5_bestKind_40 ⟨Nat.zero_le _, Nat.zero_le _⟩) hP hD hS hA hfo (fun H locs hP hD hS => ?_)
        refine lv_istore (lv' := [(8, .int r13), (0, .ref a1), (2, .int p2), (3, .ref (a2 (5 + p1.toNatClampNeg))), (4, .int x2), (5, .int x3), (6, .int x4), (7, .int x5)]) hx hb dX5_bestKind_43 hl (by decide) rfl (fun ls hl => ?_)
        refine lv_iload_n hx hb dX5_bestKind_45 rfl (lv_at hl 2 rfl) ?_
        obtain ⟨k17, ek17, hf⟩ := jn1_use hf
        have B68_k17 : ∀ (x16 : Int32) (H : Heap) (locs : List Loc), va_P D vwCl (WMin a1 (a2 0) m1 ++ (WDay z a2 y14)) H → va_D A (WMin a1 (a2 0) m1 ++ (WDay z a2 y14)) → va_S A s.heap H locs → ∀ (ls : Array Slot), lv_has ls 9 [(0, .ref a1), (2, .int p2), (3, .ref (a2 (5 + p1.toNatClampNeg))), (4, .int x2), (5, .int x3), (6, .int x4), (7, .int x5), (8, .int x16)] → k17 x16 = some (rr, m2') → GI p l e (headSpec wsX5_bestKind ({ frames := 5, cells := 0, slots := 0, locals := 112 } : Room)).room s m ([.ref a1, .int p1, .int p2] : List Value).toArray below meth c A D z rr (WMin a1 (a2 0) m1 ++ (WDay z a2 m2')) H locs (F0 m 68 ls []) := by
          intro x16 H locs hP hD hS ls hl hf
          have hf := jn1_ap ek17 hf
          refine lv_iload hx hb dX5_bestKind_68 (lv_at hl 7 rfl) ?_
          refine lv_iload hx hb dX5_bestKind_70 (lv_at hl 5 rfl) ?_
          refine lv_icmp_ge (tgt := 83) hx hb dX5_bestKind_72 (by decide) (fun c18 => ?_) (fun c18 => ?_)
          · have hf := if_t c18 hf
            obtain ⟨x19, ex19⟩ : ∃ y : Int32, y = x5 + 1 := ⟨_, rfl⟩
            have hf := lt_use ex19 hf
            refine lv_iinc (v := x19) (lv' := [(7, .int x19), (0, .ref a1), (2, .int p2), (3, .ref (a2 (5 + p1.toNatClampNeg))), (4, .int x2), (5, .int x3), (6, .int x4), (8, .int x16)]) hx hb dX5_bestKind_83 hl (k := 6) rfl (by rw [ex19]; rfl) (by decide) rfl (fun ls hl => ?_)
            refine lv_goto (tgt := 26) hx hb dX5_bestKind_86 (by decide) ?_
            exact ih9 _ _ _ _ _ _ hP hD hS _ (lv_sub hl [1, 2, 3, 4, 5, 6, 0] rfl) hf
          · have hf := if_f c18 hf
            refine lv_iload hx hb dX5_bestKind_75 (lv_at hl 7 rfl) ?_
            refine lv_istore (lv' := [(6, .int x16), (0, .ref a1), (2, .int p2), (3, .ref (a2 (5 + p1.toNatClampNeg))), (4, .int x2), (5, .int x3), (7, .int x5), (8, .int x16)]) hx hb dX5_bestKind_77 hl (by decide) rfl (fun ls hl => ?_)
            refine lv_iload hx hb dX5_bestKind_79 (lv_at hl 6 rfl) ?_
            refine lv_istore (lv' := [(5, .int x5), (6, .int x16), (0, .ref a1), (2, .int p2), (3, .ref (a2 (5 + p1.toNatClampNeg))), (4, .int x2), (7, .int x5), (8, .int x16)]) hx hb dX5_bestKind_81 hl (by decide) rfl (fun ls hl => ?_)
            obtain ⟨x20, ex20⟩ : ∃ y : Int32, y = x5 + 1 := ⟨_, rfl⟩
            have hf := lt_use ex20 hf
            refine lv_iinc (v := x20) (lv' := [(7, .int x20), (5, .int x5), (6, .int x16), (0, .ref a1), (2, .int p2), (3, .ref (a2 (5 + p1.toNatClampNeg))), (4, .int x2), (8, .int x16)]) hx hb dX5_bestKind_83 hl (k := 6) rfl (by rw [ex20]; rfl) (by decide) rfl (fun ls hl => ?_)
            refine lv_goto (tgt := 26) hx hb dX5_bestKind_86 (by decide) ?_
            exact ih9 _ _ _ _ _ _ hP hD hS _ (lv_sub hl [3, 4, 5, 6, 1, 2, 0] rfl) hf
        refine lv_if_eq (tgt := 68) hx hb dX5_bestKind_46 (by decide) (fun c21 => ?_) (fun c21 => ?_)
        · have hf := if_t c21 hf
          exact B68_k17 _ _ _ hP hD hS _ (lv_sub hl [1, 2, 3, 4, 5, 6, 7, 0] rfl) hf
        · have hf := if_f c21 hf
          refine lv_aload_n hx hb dX5_bestKind_49 rfl (lv_at hl 3 rfl) ?_
          refine va_get (D := D) (ci := 1) (v := .int (y14 (5 + p1.toNatClampNeg) 5)) (C := RX1) (T := TX1) (N := 7) hx hb hts iX1 hown hK hP (1 + (5 + p1.toNatClampNeg)) (w_skip (n := 1) rfl (WDay_c z a2 y14 (vp_lt h1))) rfl 5 (by decide) (hts _ aw104) (fun _ h9 => h9) rfl dX5_bestKind_50 ?_
          refine lv_iconst (v := 2) hx hb dX5_bestKind_53 (by decide) ?_
          refine lv_icmp_ne (tgt := 64) hx hb dX5_bestKind_54 (by decide) (fun c22 => ?_) (fun c22 => ?_)
          · have hf := if_f c22 hf
            refine lv_bipush (v := 99) hx hb dX5_bestKind_64 (by decide) ?_
            refine lv_istore (lv' := [(8, .int 99), (0, .ref a1), (2, .int p2), (3, .ref (a2 (5 + p1.toNatClampNeg))), (4, .int x2), (5, .int x3), (6, .int x4), (7, .int x5)]) hx hb dX5_bestKind_66 hl (by decide) rfl (fun ls hl => ?_)
            exact B68_k17 _ _ _ hP hD hS _ (lv_sub hl [1, 2, 3, 4, 5, 6, 7, 0] rfl) hf
          · have hf := if_t c22 hf
            refine lv_aload_n hx hb dX5_bestKind_57 rfl (lv_at hl 3 rfl) ?_
            obtain ⟨r23, q24, hf⟩ := bd_use hf
            have hfo : Foc (WMin a1 (a2 0) m1 ++ (WDay z a2 y14)) (WCom (a2 (5 + p1.toNatClampNeg)) (y14 (5 + p1.toNatClampNeg))) (WMin a1 (a2 0) m1 ++ (WDay z a2 y14)) (WCom (a2 (5 + p1.toNatClampNeg)) (y14 (5 + p1.toNatClampNeg))) := (foc_r (foc_els (WDay_c z a2 y14 (vp_lt h1))))
            refine z_goI (ws1 := (WMin a1 (a2 0) m1 ++ (WDay z a2 y14))) (va_runV (As := []) (rest := []) ⟨hx, hb, hml, hown, hts⟩ (tX1_waited l D z tt (a2 (5 + p1.toNatClampNeg)) (y14 (5 + p1.toNatClampNeg))  fu r23 q24 _) (cwV 0 hts (gV4 aw568 aw394 aw395 aw47 aw396) rfl rfl rfl (by decide +kernel) ⟨Nat.le_of_ble_eq_true rfl, Nat.le_of_ble_eq_true rfl⟩) (z_preV hK hP hD hS hA hT hN hfo (va_recv hK hP (ci := 1) (q0 := (1 + (5 + p1.toNatClampNeg))) rfl (w_skip (n := 1) rfl (WDay_c z a2 y14 (vp_lt h1))))) rfl rfl hl.1 rfl (lv_room (Nat.le_of_ble_eq_true rfl)) dX5_bestKind_58 ⟨Nat.zero_le _, Nat.zero_le _⟩) hP hD hS hA hfo (fun H locs hP hD hS => ?_)
            refine lv_goto (tgt := 66) hx hb dX5_bestKind_61 (by decide) ?_
            refine lv_istore (lv' := [(8, .int r23), (0, .ref a1), (2, .int p2), (3, .ref (a2 (5 + p1.toNatClampNeg))), (4, .int x2), (5, .int x3), (6, .int x4), (7, .int x5)]) hx hb dX5_bestKind_66 hl (by decide) rfl (fun ls hl => ?_)
            exact B68_k17 _ _ _ hP hD hS _ (lv_sub hl [1, 2, 3, 4, 5, 6, 7, 0] rfl) hf
  exact L26_F7 fu _ _ _ _ _ _ hP hD hS _ (lv_sub hl [5, 7, 4, 3, 2, 1, 0] rfl) hf
def pX5_playRounds (fu : Nat) (m2 : Mem) : Option (Int32 × Mem) :=
  zl3 (fun g5 (x1 : Int32) (x2 : Int32) (y3 : Mem) =>
    if x1 = 0 then
      some (x2, y3)
    else
      if 20 ≤ x2 then
        some (x2, y3)
      else
        zl3 (fun g13 (x9 : Int32) (x10 : Int32) (y11 : Mem) =>
          if (y11 0 4) ≤ x10 then
            lt' (x2 + 1) fun x16 =>
            g5 x9 x16 y11
          else
            bd2 (pX5_bestKind fu y11 x10 1) fun r17 y18 =>
            jn1 (fun (x20 : Int32) =>
              ck x10 8 <|
              lt' (up2 y18 (5 + x10.toNatClampNeg) 0 r17) fun y23 =>
              lt' (x10 + 1) fun x24 =>
              g13 x20 x24 y23) fun k21 =>
            if x9 = 0 then
              ck x10 8 <|
              if r17 = (y18 (5 + x10.toNatClampNeg) 0) then
                k21 0
              else
                k21 1
            else
              k21 1) fu 0 0 y3) fu 1 0 m2
set_option maxHeartbeats 4000000 in
set_option maxRecDepth 100000 in
theorem tX5_playRounds (l : Launch) (D : va_G) (z tt : Nat → Nat) (a1 : Nat) (a2 : Nat → Nat) (m1 : Mem) (m2 : Mem)  (fu : Nat) (rr : Int32) (m2' : Mem) (hf : pX5_playRounds fu m2 = some (rr, m2')) : MetI l yX5_playRounds wsX5_playRounds ({ frames := 6, cells := 0, slots := 0, locals := 140 } : Room) D z tt ([.ref a1] : List Value) (WMin a1 (a2 0) m1 ++ (WDay z a2 m2)) rr (WMin a1 (a2 0) m1 ++ (WDay z a2 m2')) := by
  intro sz
  refine Met.ofW (cc := cX5_playRounds) (maxL := 5) (ret := (some .int)) (by decide) rfl ?_
  intro p e s m args below meth c s₁ B hml hv
  obtain ⟨rfl, hsz, hP, hK, hD0, hT, hN⟩ := hv
  have hx := B.exec
  have hb := B.bytes
  have hr := B.returns
  have hts : ∀ w ∈ wsA, w.before ([.ref a1] : List Value).toArray s = true := fun w h => atoms_spec (ws := wsX5_playRounds) B.pre w (List.mem_cons_of_mem _ h)
  have hown : s.vm.findClass RX5 = some m.cls := findClass_of_methodNamed B.named
  have hlocks := B.notSynchronized
  subst hsz
  have hD := hD0.self (sz := s.heap.size)
  generalize hAe : va_A (WMin a1 (a2 0) m1 ++ (WDay z a2 m2)) s.heap.size = A at hD hT ⊢
  have hA : ∀ q : Nat, s.heap.size ≤ q → A q := fun q h => by rw [← hAe]; exact Or.inr h
  have hS : va_S A s.heap s.heap [] := va_S.rf
  have hl := lv_entry ([.ref a1] : List Value) (n := 5) (Nat.le_of_ble_eq_true rfl)
  rw [lg_entry_eq]
  generalize (lg_sl ([.ref a1] : List Value) ++ List.replicate (5 - (lg_sl ([.ref a1] : List Value)).length) Slot.unset).toArray = ls at hl ⊢
  have hl : lv_has ls 5 [(0, .ref a1)] := hl
  unfold pX5_playRounds at hf
  refine lv_iconst (v := 1) hx hb dX5_playRounds_0 (by decide) ?_
  refine lv_istore_n (lv' := [(1, .int 1), (0, .ref a1)]) hx hb dX5_playRounds_1 rfl hl (by decide) rfl (fun ls hl => ?_)
  refine lv_iconst (v := 0) hx hb dX5_playRounds_2 (by decide) ?_
  refine lv_istore_n (lv' := [(2, .int 0), (1, .int 1), (0, .ref a1)]) hx hb dX5_playRounds_3 rfl hl (by decide) rfl (fun ls hl => ?_)
  obtain ⟨F4, eF4, hf⟩ := zl3_use hf
  have L4_F4 : ∀ (n : Nat) (x1 : Int32) (x2 : Int32) (y3 : Mem) (H : Heap) (locs : List Loc), va_P D vwCl (WMin a1 (a2 0) m1 ++ (WDay z a2 y3)) H → va_D A (WMin a1 (a2 0) m1 ++ (WDay z a2 y3)) → va_S A s.heap H locs → ∀ (ls : Array Slot), lv_has ls 5 [(0, .ref a1), (1, .int x1), (2, .int x2)] → zl3 F4 n x1 x2 y3 = some (rr, m2') → GI p l e (headSpec wsX5_playRounds ({ frames := 6, cells := 0, slots := 0, locals := 140 } : Room)).room s m ([.ref a1] : List Value).toArray below meth c A D z rr (WMin a1 (a2 0) m1 ++ (WDay z a2 m2')) H locs (F0 m 4 ls []) := by
    intro n
    induction n with
    | zero =>
      intro x1 x2 y3 H locs hP hD hS ls hl hf
      exact no_none hf
    | succ n ih6 =>
      intro x1 x2 y3 H locs hP hD hS ls hl hf
      have hf := zl3_s eF4 hf
      refine lv_iload_n hx hb dX5_playRounds_4 rfl (lv_at hl 1 rfl) ?_
      refine lv_if_eq (tgt := 90) hx hb dX5_playRounds_5 (by decide) (fun c7 => ?_) (fun c7 => ?_)
      · have hf := if_t c7 hf
        refine lv_iload_n hx hb dX5_playRounds_90 rfl (lv_at hl 2 rfl) ?_
        obtain ⟨rfl, rfl⟩ := so2 hf
        exact ret_i hx hb hr hlocks hK hP hD hS dX5_playRounds_91
      · have hf := if_f c7 hf
        refine lv_iload_n hx hb dX5_playRounds_8 rfl (lv_at hl 2 rfl) ?_
        refine lv_bipush (v := 20) hx hb dX5_playRounds_9 (by decide) ?_
        refine lv_icmp_ge (tgt := 90) hx hb dX5_playRounds_11 (by decide) (fun c8 => ?_) (fun c8 => ?_)
        · have hf := if_t c8 hf
          refine lv_iload_n hx hb dX5_playRounds_90 rfl (lv_at hl 2 rfl) ?_
          obtain ⟨rfl, rfl⟩ := so2 hf
          exact ret_i hx hb hr hlocks hK hP hD hS dX5_playRounds_91
        · have hf := if_f c8 hf
          refine lv_iconst (v := 0) hx hb dX5_playRounds_14 (by decide) ?_
          refine lv_istore_n (lv' := [(1, .int 0), (0, .ref a1), (2, .int x2)]) hx hb dX5_playRounds_15 rfl hl (by decide) rfl (fun ls hl => ?_)
          refine lv_iconst (v := 0) hx hb dX5_playRounds_16 (by decide) ?_
          refine lv_istore_n (lv' := [(3, .int 0), (1, .int 0), (0, .ref a1), (2, .int x2)]) hx hb dX5_playRounds_17 rfl hl (by decide) rfl (fun ls hl => ?_)
          obtain ⟨F12, eF12, hf⟩ := zl3_use hf
          have L18_F12 : ∀ (n : Nat) (x9 : Int32) (x10 : Int32) (y11 : Mem) (H : Heap) (locs : List Loc), va_P D vwCl (WMin a1 (a2 0) m1 ++ (WDay z a2 y11)) H → va_D A (WMin a1 (a2 0) m1 ++ (WDay z a2 y11)) → va_S A s.heap H locs → ∀ (ls : Array Slot), lv_has ls 5 [(0, .ref a1), (1, .int x9), (2, .int x2), (3, .int x10)] → zl3 F12 n x9 x10 y11 = some (rr, m2') → GI p l e (headSpec wsX5_playRounds ({ frames := 6, cells := 0, slots := 0, locals := 140 } : Room)).room s m ([.ref a1] : List Value).toArray below meth c A D z rr (WMin a1 (a2 0) m1 ++ (WDay z a2 m2')) H locs (F0 m 18 ls []) := by
            intro n
            induction n with
            | zero =>
              intro x9 x10 y11 H locs hP hD hS ls hl hf
              exact no_none hf
            | succ n ih14 =>
              intro x9 x10 y11 H locs hP hD hS ls hl hf
              have hf := zl3_s eF12 hf
              refine lv_iload_n hx hb dX5_playRounds_18 rfl (lv_at hl 3 rfl) ?_
              refine lv_aload_n hx hb dX5_playRounds_19 rfl (lv_at hl 0 rfl) ?_
              refine va_get (D := D) (ci := 5) (v := .ref (a2 0)) (C := RX5) (T := TX5) (N := 2) hx hb hts iX5 hown hK hP 0 rfl rfl 0 (by decide) (hts _ aw199) (fun _ h9 => h9) rfl dX5_playRounds_20 ?_
              refine va_get (D := D) (ci := 2) (v := .int (y11 0 4)) (C := RX2) (T := TX2) (N := 8) hx hb hts iX2 hown hK hP 1 rfl rfl 4 (by decide) (hts _ aw166) (fun _ h9 => h9) rfl dX5_playRounds_23 ?_
              refine lv_icmp_ge (tgt := 84) hx hb dX5_playRounds_26 (by decide) (fun c15 => ?_) (fun c15 => ?_)
              · have hf := if_t c15 hf
                obtain ⟨x16, ex16⟩ : ∃ y : Int32, y = x2 + 1 := ⟨_, rfl⟩
                have hf := lt_use ex16 hf
                refine lv_iinc (v := x16) (lv' := [(2, .int x16), (0, .ref a1), (1, .int x9), (3, .int x10)]) hx hb dX5_playRounds_84 hl (k := 2) rfl (by rw [ex16]; rfl) (by decide) rfl (fun ls hl => ?_)
                refine lv_goto (tgt := 4) hx hb dX5_playRounds_87 (by decide) ?_
                exact ih6 _ _ _ _ _ hP hD hS _ (lv_sub hl [1, 2, 0] rfl) hf
              · have hf := if_f c15 hf
                refine lv_aload_n hx hb dX5_playRounds_29 rfl (lv_at hl 0 rfl) ?_
                refine lv_iload_n hx hb dX5_playRounds_30 rfl (lv_at hl 3 rfl) ?_
                refine lv_iconst (v := 1) hx hb dX5_playRounds_31 (by decide) ?_
                obtain ⟨r17, y18, q19, hf⟩ := bd2_use hf
                have hfo : Foc (WMin a1 (a2 0) m1 ++ (WDay z a2 y11)) (WMin a1 (a2 0) m1 ++ (WDay z a2 y11)) (WMin a1 (a2 0) m1 ++ (WDay z a2 y18)) (WMin a1 (a2 0) m1 ++ (WDay z a2 y18)) := (foc_app foc_all foc_all)
                refine z_goI (ws1 := (WMin a1 (a2 0) m1 ++ (WDay z a2 y18))) (va_runV (As := [.int x10, .int 1]) (rest := []) ⟨hx, hb, hml, hown, hts⟩ (tX5_bestKind l D z tt a1 a2 m1 y11 x10 1 fu r17 y18 q19 _) (cwV 2 hts (gV4 aw578 aw557 aw558 aw49 aw559) rfl rfl rfl (by decide +kernel) ⟨Nat.le_of_ble_eq_true rfl, Nat.le_of_ble_eq_true rfl⟩) (z_preV hK hP hD hS hA hT hN hfo (va_recv hK hP (ci := 5) (q0 := 0) rfl rfl)) rfl rfl hl.1 rfl (lv_room (Nat.le_of_ble_eq_true rfl)) dX5_playRounds_32 ⟨Nat.zero_le _, Nat.zero_le _⟩) hP hD hS hA hfo (fun H locs hP hD hS => ?_)
                refine lv_istore (lv' := [(4, .int r17), (0, .ref a1), (1, .int x9), (2, .int x2), (3, .int x10)]) hx hb dX5_playRounds_35 hl (by decide) rfl (fun ls hl => ?_)
                refine lv_iload_n hx hb dX5_playRounds_37 rfl (lv_at hl 2 rfl) ?_
                obtain ⟨k21, ek21, hf⟩ := jn1_use hf
                have B63_k21 : ∀ (x20 : Int32) (H : Heap) (locs : List Loc), va_P D vwCl (WMin a1 (a2 0) m1 ++ (WDay z a2 y18)) H → va_D A (WMin a1 (a2 0) m1 ++ (WDay z a2 y18)) → va_S A s.heap H locs → ∀ (ls : Array Slot), lv_has ls 5 [(0, .ref a1), (2, .int x2), (3, .int x10), (4, .int r17)] → k21 x20 = some (rr, m2') → GI p l e (headSpec wsX5_playRounds ({ frames := 6, cells := 0, slots := 0, locals := 140 } : Room)).room s m ([.ref a1] : List Value).toArray below meth c A D z rr (WMin a1 (a2 0) m1 ++ (WDay z a2 m2')) H locs (F0 m 63 ls [.int x20]) := by
                  intro x20 H locs hP hD hS ls hl hf
                  have hf := jn1_ap ek21 hf
                  refine lv_istore_n (lv' := [(1, .int x20), (0, .ref a1), (2, .int x2), (3, .int x10), (4, .int r17)]) hx hb dX5_playRounds_63 rfl hl (by decide) rfl (fun ls hl => ?_)
                  refine lv_aload_n hx hb dX5_playRounds_64 rfl (lv_at hl 1 rfl) ?_
                  refine va_get (D := D) (ci := 5) (v := .ref (a2 0)) (C := RX5) (T := TX5) (N := 2) hx hb hts iX5 hown hK hP 0 rfl rfl 0 (by decide) (hts _ aw199) (fun _ h9 => h9) rfl dX5_playRounds_65 ?_
                  refine va_get (D := D) (ci := 2) (v := .ref (a2 13)) (C := RX2) (T := TX2) (N := 8) hx hb hts iX2 hown hK hP 1 rfl rfl 1 (by decide) (hts _ aw156) (fun _ h9 => h9) rfl dX5_playRounds_68 ?_
                  refine lv_iload_n hx hb dX5_playRounds_71 rfl (lv_at hl 3 rfl) ?_
                  obtain ⟨h22, hf⟩ := ck_use hf
                  refine z_ald hx hb hK hP 14 1 (C := "FilledForOne$Comer") (g := (fun j => a2 (5 + j))) rfl rfl h22 dX5_playRounds_72 ?_
                  refine lv_iload hx hb dX5_playRounds_73 (lv_at hl 4 rfl) ?_
                  refine z_put (ci := 1) (v := .int r17) (ty := .int) (C := RX1) (T := TX1) (N := 7) hx hb hts iX1 tyX1 tyX1_ok nmX1 hown hK hP hD hS (1 + (5 + x10.toNatClampNeg)) (w_skip (n := 1) rfl (WDay_c z a2 y18 (vp_lt h22))) rfl 0 (by decide) (hts _ aw87) (fun _ h9 => h9) rfl (by decide +kernel) rfl rfl (Nat.le_of_ble_eq_true rfl) dX5_playRounds_75 (fun (w9 : Mem) => (WMin a1 (a2 0) m1 ++ (WDay z a2 w9))) (up2 y18 (5 + x10.toNatClampNeg) 0 r17) (s_skip (n := 1) rfl (WDay_sc z a2 y18 (upd (y18 (5 + x10.toNatClampNeg)) 0 r17) (vp_lt h22))) (fun y23 ey23 H locs hP hD hS => ?_)
                  have hf := lt_use ey23 hf
                  obtain ⟨x24, ex24⟩ : ∃ y : Int32, y = x10 + 1 := ⟨_, rfl⟩
                  have hf := lt_use ex24 hf
                  refine lv_iinc (v := x24) (lv' := [(3, .int x24), (1, .int x20), (0, .ref a1), (2, .int x2), (4, .int r17)]) hx hb dX5_playRounds_78 hl (k := 3) rfl (by rw [ex24]; rfl) (by decide) rfl (fun ls hl => ?_)
                  refine lv_goto (tgt := 18) hx hb dX5_playRounds_81 (by decide) ?_
                  exact ih14 _ _ _ _ _ hP hD hS _ (lv_sub hl [2, 1, 3, 0] rfl) hf
                refine lv_if_ne (tgt := 58) hx hb dX5_playRounds_38 (by decide) (fun c25 => ?_) (fun c25 => ?_)
                · have hf := if_f c25 hf
                  refine lv_iconst (v := 1) hx hb dX5_playRounds_58 (by decide) ?_
                  refine lv_goto (tgt := 63) hx hb dX5_playRounds_59 (by decide) ?_
                  exact B63_k21 _ _ _ hP hD hS _ (lv_sub hl [1, 3, 4, 0] rfl) hf
                · have hf := if_t c25 hf
                  refine lv_iload hx hb dX5_playRounds_41 (lv_at hl 0 rfl) ?_
                  refine lv_aload_n hx hb dX5_playRounds_43 rfl (lv_at hl 1 rfl) ?_
                  refine va_get (D := D) (ci := 5) (v := .ref (a2 0)) (C := RX5) (T := TX5) (N := 2) hx hb hts iX5 hown hK hP 0 rfl rfl 0 (by decide) (hts _ aw199) (fun _ h9 => h9) rfl dX5_playRounds_44 ?_
                  refine va_get (D := D) (ci := 2) (v := .ref (a2 13)) (C := RX2) (T := TX2) (N := 8) hx hb hts iX2 hown hK hP 1 rfl rfl 1 (by decide) (hts _ aw156) (fun _ h9 => h9) rfl dX5_playRounds_47 ?_
                  refine lv_iload_n hx hb dX5_playRounds_50 rfl (lv_at hl 4 rfl) ?_
                  obtain ⟨h26, hf⟩ := ck_use hf
                  refine z_ald hx hb hK hP 14 1 (C := "FilledForOne$Comer") (g := (fun j => a2 (5 + j))) rfl rfl h26 dX5_playRounds_51 ?_
                  refine va_get (D := D) (ci := 1) (v := .int (y18 (5 + x10.toNatClampNeg) 0)) (C := RX1) (T := TX1) (N := 7) hx hb hts iX1 hown hK hP (1 + (5 + x10.toNatClampNeg)) (w_skip (n := 1) rfl (WDay_c z a2 y18 (vp_lt h26))) rfl 0 (by decide) (hts _ aw87) (fun _ h9 => h9) rfl dX5_playRounds_52 ?_
                  refine lv_icmp_eq (tgt := 62) hx hb dX5_playRounds_55 (by decide) (fun c27 => ?_) (fun c27 => ?_)
                  · have hf := if_t c27 hf
                    refine lv_iconst (v := 0) hx hb dX5_playRounds_62 (by decide) ?_
                    exact B63_k21 _ _ _ hP hD hS _ (lv_sub hl [1, 3, 4, 0] rfl) hf
                  · have hf := if_f c27 hf
                    refine lv_iconst (v := 1) hx hb dX5_playRounds_58 (by decide) ?_
                    refine lv_goto (tgt := 63) hx hb dX5_playRounds_59 (by decide) ?_
                    exact B63_k21 _ _ _ hP hD hS _ (lv_sub hl [1, 3, 4, 0] rfl) hf
          exact L18_F12 fu _ _ _ _ _ hP hD hS _ (lv_sub hl [2, 1, 3, 0] rfl) hf
  exact L4_F4 fu _ _ _ _ _ hP hD hS _ (lv_sub hl [2, 1, 0] rfl) hf
def pX5_kindDigits (fu : Nat) (m2 : Mem) : Option Int32 :=
  lt' (((m2 0 4) - 1) : Int32) fun x1 =>
  zl2 (fun g5 (x2 : Int32) (x3 : Int32) =>
    if x3 < 0 then
      some x2
    else
      ck x3 8 <|
      lt' (((x2 * 10) + (m2 (5 + x3.toNatClampNeg) 0)) : Int32) fun x9 =>
      lt' (x3 + (-1)) fun x10 =>
      g5 x9 x10) fu 0 x1
set_option maxHeartbeats 4000000 in
set_option maxRecDepth 100000 in
theorem tX5_kindDigits (l : Launch) (D : va_G) (z tt : Nat → Nat) (a1 : Nat) (a2 : Nat → Nat) (m1 : Mem) (m2 : Mem)  (fu : Nat) (rr : Int32) (hf : pX5_kindDigits fu m2 = some rr) : MetI l yX5_kindDigits wsX5_kindDigits ({ frames := 0, cells := 0, slots := 0, locals := 0 } : Room) D z tt ([.ref a1] : List Value) (WMin a1 (a2 0) m1 ++ (WDay z a2 m2)) rr (WMin a1 (a2 0) m1 ++ (WDay z a2 m2)) := by
  intro sz
  refine Met.ofW (cc := cX5_kindDigits) (maxL := 3) (ret := (some .int)) (by decide) rfl ?_
  intro p e s m args below meth c s₁ B hml hv
  obtain ⟨rfl, hsz, hP, hK, hD0, hT, hN⟩ := hv
  have hx := B.exec
  have hb := B.bytes
  have hr := B.returns
  have hts : ∀ w ∈ wsA, w.before ([.ref a1] : List Value).toArray s = true := fun w h => atoms_spec (ws := wsX5_kindDigits) B.pre w (List.mem_cons_of_mem _ h)
  have hown : s.vm.findClass RX5 = some m.cls := findClass_of_methodNamed B.named
  have hlocks := B.notSynchronized
  subst hsz
  have hD := hD0.self (sz := s.heap.size)
  generalize hAe : va_A (WMin a1 (a2 0) m1 ++ (WDay z a2 m2)) s.heap.size = A at hD hT ⊢
  have hA : ∀ q : Nat, s.heap.size ≤ q → A q := fun q h => by rw [← hAe]; exact Or.inr h
  have hS : va_S A s.heap s.heap [] := va_S.rf
  have hl := lv_entry ([.ref a1] : List Value) (n := 3) (Nat.le_of_ble_eq_true rfl)
  rw [lg_entry_eq]
  generalize (lg_sl ([.ref a1] : List Value) ++ List.replicate (3 - (lg_sl ([.ref a1] : List Value)).length) Slot.unset).toArray = ls at hl ⊢
  have hl : lv_has ls 3 [(0, .ref a1)] := hl
  unfold pX5_kindDigits at hf
  refine lv_iconst (v := 0) hx hb dX5_kindDigits_0 (by decide) ?_
  refine lv_istore_n (lv' := [(1, .int 0), (0, .ref a1)]) hx hb dX5_kindDigits_1 rfl hl (by decide) rfl (fun ls hl => ?_)
  refine lv_aload_n hx hb dX5_kindDigits_2 rfl (lv_at hl 1 rfl) ?_
  refine va_get (D := D) (ci := 5) (v := .ref (a2 0)) (C := RX5) (T := TX5) (N := 2) hx hb hts iX5 hown hK hP 0 rfl rfl 0 (by decide) (hts _ aw199) (fun _ h9 => h9) rfl dX5_kindDigits_3 ?_
  refine va_get (D := D) (ci := 2) (v := .int (m2 0 4)) (C := RX2) (T := TX2) (N := 8) hx hb hts iX2 hown hK hP 1 rfl rfl 4 (by decide) (hts _ aw166) (fun _ h9 => h9) rfl dX5_kindDigits_6 ?_
  refine lv_iconst (v := 1) hx hb dX5_kindDigits_9 (by decide) ?_
  refine lv_isub hx hb dX5_kindDigits_10 ?_
  refine lv_topi (fun x1 ex1 => ?_)
  have hf := lt_use ex1 hf
  refine lv_istore_n (lv' := [(2, .int x1), (1, .int 0), (0, .ref a1)]) hx hb dX5_kindDigits_11 rfl hl (by decide) rfl (fun ls hl => ?_)
  obtain ⟨F4, eF4, hf⟩ := zl2_use hf
  have L12_F4 : ∀ (n : Nat) (x2 : Int32) (x3 : Int32) (H : Heap) (locs : List Loc), va_P D vwCl (WMin a1 (a2 0) m1 ++ (WDay z a2 m2)) H → va_D A (WMin a1 (a2 0) m1 ++ (WDay z a2 m2)) → va_S A s.heap H locs → ∀ (ls : Array Slot), lv_has ls 3 [(0, .ref a1), (1, .int x2), (2, .int x3)] → zl2 F4 n x2 x3 = some rr → GI p l e (headSpec wsX5_kindDigits ({ frames := 0, cells := 0, slots := 0, locals := 0 } : Room)).room s m ([.ref a1] : List Value).toArray below meth c A D z rr (WMin a1 (a2 0) m1 ++ (WDay z a2 m2)) H locs (F0 m 12 ls []) := by
    intro n
    induction n with
    | zero =>
      intro x2 x3 H locs hP hD hS ls hl hf
      exact no_none hf
    | succ n ih6 =>
      intro x2 x3 H locs hP hD hS ls hl hf
      have hf := zl2_s eF4 hf
      refine lv_iload_n hx hb dX5_kindDigits_12 rfl (lv_at hl 2 rfl) ?_
      refine lv_if_lt (tgt := 40) hx hb dX5_kindDigits_13 (by decide) (fun c7 => ?_) (fun c7 => ?_)
      · have hf := if_t c7 hf
        refine lv_iload_n hx hb dX5_kindDigits_40 rfl (lv_at hl 1 rfl) ?_
        obtain rfl := so1 hf
        exact ret_i hx hb hr hlocks hK hP hD hS dX5_kindDigits_41
      · have hf := if_f c7 hf
        refine lv_iload_n hx hb dX5_kindDigits_16 rfl (lv_at hl 1 rfl) ?_
        refine lv_bipush (v := 10) hx hb dX5_kindDigits_17 (by decide) ?_
        refine lv_imul hx hb dX5_kindDigits_19 ?_
        refine lv_aload_n hx hb dX5_kindDigits_20 rfl (lv_at hl 0 rfl) ?_
        refine va_get (D := D) (ci := 5) (v := .ref (a2 0)) (C := RX5) (T := TX5) (N := 2) hx hb hts iX5 hown hK hP 0 rfl rfl 0 (by decide) (hts _ aw199) (fun _ h9 => h9) rfl dX5_kindDigits_21 ?_
        refine va_get (D := D) (ci := 2) (v := .ref (a2 13)) (C := RX2) (T := TX2) (N := 8) hx hb hts iX2 hown hK hP 1 rfl rfl 1 (by decide) (hts _ aw156) (fun _ h9 => h9) rfl dX5_kindDigits_24 ?_
        refine lv_iload_n hx hb dX5_kindDigits_27 rfl (lv_at hl 2 rfl) ?_
        obtain ⟨h8, hf⟩ := ck_use hf
        refine z_ald hx hb hK hP 14 1 (C := "FilledForOne$Comer") (g := (fun j => a2 (5 + j))) rfl rfl h8 dX5_kindDigits_28 ?_
        refine va_get (D := D) (ci := 1) (v := .int (m2 (5 + x3.toNatClampNeg) 0)) (C := RX1) (T := TX1) (N := 7) hx hb hts iX1 hown hK hP (1 + (5 + x3.toNatClampNeg)) (w_skip (n := 1) rfl (WDay_c z a2 m2 (vp_lt h8))) rfl 0 (by decide) (hts _ aw87) (fun _ h9 => h9) rfl dX5_kindDigits_29 ?_
        refine lv_iadd hx hb dX5_kindDigits_32 ?_
        refine lv_topi (fun x9 ex9 => ?_)
        have hf := lt_use ex9 hf
        refine lv_istore_n (lv' := [(1, .int x9), (0, .ref a1), (2, .int x3)]) hx hb dX5_kindDigits_33 rfl hl (by decide) rfl (fun ls hl => ?_)
        obtain ⟨x10, ex10⟩ : ∃ y : Int32, y = x3 + (-1) := ⟨_, rfl⟩
        have hf := lt_use ex10 hf
        refine lv_iinc (v := x10) (lv' := [(2, .int x10), (1, .int x9), (0, .ref a1)]) hx hb dX5_kindDigits_34 hl (k := 2) rfl (by rw [ex10]; rfl) (by decide) rfl (fun ls hl => ?_)
        refine lv_goto (tgt := 12) hx hb dX5_kindDigits_37 (by decide) ?_
        exact ih6 _ _ _ _ hP hD hS _ (lv_sub hl [2, 1, 0] rfl) hf
  exact L12_F4 fu _ _ _ _ hP hD hS _ (lv_sub hl [2, 1, 0] rfl) hf
def pX5_lostByKinds (fu : Nat) (m2 : Mem) : Option (Int32 × Mem) :=
  bd2 (pX5_costAnew fu m2) fun r1 y2 =>
  zl3 (fun g8 (x4 : Int32) (x5 : Int32) (y6 : Mem) =>
    if 7 ≤ x5 then
      some ((r1 - x4), y6)
    else
      zl2 (fun g14 (x11 : Int32) (y12 : Mem) =>
        if (y12 0 4) ≤ x11 then
          bd2 (pX5_costAnew fu y12) fun r17 y18 =>
          lt' ((imin x4 r17) : Int32) fun x20 =>
          lt' (x5 + 1) fun x21 =>
          g8 x20 x21 y18
        else
          ck x11 8 <|
          lt' (up2 y12 (5 + x11.toNatClampNeg) 0 x5) fun y23 =>
          lt' (x11 + 1) fun x24 =>
          g14 x24 y23) fu 0 y6) fu 2147483647 0 y2
set_option maxHeartbeats 4000000 in
set_option maxRecDepth 100000 in
theorem tX5_lostByKinds (l : Launch) (D : va_G) (z tt : Nat → Nat) (a1 : Nat) (a2 : Nat → Nat) (m1 : Mem) (m2 : Mem)  (fu : Nat) (rr : Int32) (m2' : Mem) (hf : pX5_lostByKinds fu m2 = some (rr, m2')) : MetI l yX5_lostByKinds wsX5_lostByKinds ({ frames := 5, cells := 0, slots := 0, locals := 112 } : Room) D z tt ([.ref a1] : List Value) (WMin a1 (a2 0) m1 ++ (WDay z a2 m2)) rr (WMin a1 (a2 0) m1 ++ (WDay z a2 m2')) := by
  intro sz
  refine Met.ofW (cc := cX5_lostByKinds) (maxL := 5) (ret := (some .int)) (by decide) rfl ?_
  intro p e s m args below meth c s₁ B hml hv
  obtain ⟨rfl, hsz, hP, hK, hD0, hT, hN⟩ := hv
  have hx := B.exec
  have hb := B.bytes
  have hr := B.returns
  have hts : ∀ w ∈ wsA, w.before ([.ref a1] : List Value).toArray s = true := fun w h => atoms_spec (ws := wsX5_lostByKinds) B.pre w (List.mem_cons_of_mem _ h)
  have hown : s.vm.findClass RX5 = some m.cls := findClass_of_methodNamed B.named
  have hlocks := B.notSynchronized
  subst hsz
  have hD := hD0.self (sz := s.heap.size)
  generalize hAe : va_A (WMin a1 (a2 0) m1 ++ (WDay z a2 m2)) s.heap.size = A at hD hT ⊢
  have hA : ∀ q : Nat, s.heap.size ≤ q → A q := fun q h => by rw [← hAe]; exact Or.inr h
  have hS : va_S A s.heap s.heap [] := va_S.rf
  have hl := lv_entry ([.ref a1] : List Value) (n := 5) (Nat.le_of_ble_eq_true rfl)
  rw [lg_entry_eq]
  generalize (lg_sl ([.ref a1] : List Value) ++ List.replicate (5 - (lg_sl ([.ref a1] : List Value)).length) Slot.unset).toArray = ls at hl ⊢
  have hl : lv_has ls 5 [(0, .ref a1)] := hl
  unfold pX5_lostByKinds at hf
  refine lv_aload_n hx hb dX5_lostByKinds_0 rfl (lv_at hl 0 rfl) ?_
  obtain ⟨r1, y2, q3, hf⟩ := bd2_use hf
  have hfo : Foc (WMin a1 (a2 0) m1 ++ (WDay z a2 m2)) (WMin a1 (a2 0) m1 ++ (WDay z a2 m2)) (WMin a1 (a2 0) m1 ++ (WDay z a2 y2)) (WMin a1 (a2 0) m1 ++ (WDay z a2 y2)) := (foc_app foc_all foc_all)
  refine z_goI (ws1 := (WMin a1 (a2 0) m1 ++ (WDay z a2 y2))) (va_runV (As := []) (rest := []) ⟨hx, hb, hml, hown, hts⟩ (tX5_costAnew l D z tt a1 a2 m1 m2  fu r1 y2 q3 _) (cwV 0 hts (gV4 aw561 aw562 aw563 aw49 aw564) rfl rfl rfl (by decide +kernel) ⟨Nat.le_of_ble_eq_true rfl, Nat.le_of_ble_eq_true rfl⟩) (z_preV hK hP hD hS hA hT hN hfo (va_recv hK hP (ci := 5) (q0 := 0) rfl rfl)) rfl rfl hl.1 rfl (lv_room (Nat.le_of_ble_eq_true rfl)) dX5_lostByKinds_1 ⟨Nat.zero_le _, Nat.zero_le _⟩) hP hD hS hA hfo (fun H locs hP hD hS => ?_)
  refine lv_istore_n (lv' := [(1, .int r1), (0, .ref a1)]) hx hb dX5_lostByKinds_4 rfl hl (by decide) rfl (fun ls hl => ?_)
  refine lv_ldc (v := 2147483647) hx hb hown (hts _ aw560) dX5_lostByKinds_5 ?_
  refine lv_istore_n (lv' := [(2, .int 2147483647), (1, .int r1), (0, .ref a1)]) hx hb dX5_lostByKinds_7 rfl hl (by decide) rfl (fun ls hl => ?_)
  refine lv_iconst (v := 0) hx hb dX5_lostByKinds_8 (by decide) ?_
  refine lv_istore_n (lv' := [(3, .int 0), (2, .int 2147483647), (1, .int r1), (0, .ref a1)]) hx hb dX5_lostByKinds_9 rfl hl (by decide) rfl (fun ls hl => ?_)
  obtain ⟨F7, eF7, hf⟩ := zl3_use hf
  have L10_F7 : ∀ (n : Nat) (x4 : Int32) (x5 : Int32) (y6 : Mem) (H : Heap) (locs : List Loc), va_P D vwCl (WMin a1 (a2 0) m1 ++ (WDay z a2 y6)) H → va_D A (WMin a1 (a2 0) m1 ++ (WDay z a2 y6)) → va_S A s.heap H locs → ∀ (ls : Array Slot), lv_has ls 5 [(0, .ref a1), (1, .int r1), (2, .int x4), (3, .int x5)] → zl3 F7 n x4 x5 y6 = some (rr, m2') → GI p l e (headSpec wsX5_lostByKinds ({ frames := 5, cells := 0, slots := 0, locals := 112 } : Room)).room s m ([.ref a1] : List Value).toArray below meth c A D z rr (WMin a1 (a2 0) m1 ++ (WDay z a2 m2')) H locs (F0 m 10 ls []) := by
    intro n
    induction n with
    | zero =>
      intro x4 x5 y6 H locs hP hD hS ls hl hf
      exact no_none hf
    | succ n ih9 =>
      intro x4 x5 y6 H locs hP hD hS ls hl hf
      have hf := zl3_s eF7 hf
      refine lv_iload_n hx hb dX5_lostByKinds_10 rfl (lv_at hl 3 rfl) ?_
      refine lv_bipush (v := 7) hx hb dX5_lostByKinds_11 (by decide) ?_
      refine lv_icmp_ge (tgt := 66) hx hb dX5_lostByKinds_13 (by decide) (fun c10 => ?_) (fun c10 => ?_)
      · have hf := if_t c10 hf
        refine lv_iload_n hx hb dX5_lostByKinds_66 rfl (lv_at hl 1 rfl) ?_
        refine lv_iload_n hx hb dX5_lostByKinds_67 rfl (lv_at hl 2 rfl) ?_
        refine lv_isub hx hb dX5_lostByKinds_68 ?_
        obtain ⟨rfl, rfl⟩ := so2 hf
        exact ret_i hx hb hr hlocks hK hP hD hS dX5_lostByKinds_69
      · have hf := if_f c10 hf
        refine lv_iconst (v := 0) hx hb dX5_lostByKinds_16 (by decide) ?_
        refine lv_istore (lv' := [(4, .int 0), (0, .ref a1), (1, .int r1), (2, .int x4), (3, .int x5)]) hx hb dX5_lostByKinds_17 hl (by decide) rfl (fun ls hl => ?_)
        obtain ⟨F13, eF13, hf⟩ := zl2_use hf
        have L19_F13 : ∀ (n : Nat) (x11 : Int32) (y12 : Mem) (H : Heap) (locs : List Loc), va_P D vwCl (WMin a1 (a2 0) m1 ++ (WDay z a2 y12)) H → va_D A (WMin a1 (a2 0) m1 ++ (WDay z a2 y12)) → va_S A s.heap H locs → ∀ (ls : Array Slot), lv_has ls 5 [(0, .ref a1), (1, .int r1), (2, .int x4), (3, .int x5), (4, .int x11)] → zl2 F13 n x11 y12 = some (rr, m2') → GI p l e (headSpec wsX5_lostByKinds ({ frames := 5, cells := 0, slots := 0, locals := 112 } : Room)).room s m ([.ref a1] : List Value).toArray below meth c A D z rr (WMin a1 (a2 0) m1 ++ (WDay z a2 m2')) H locs (F0 m 19 ls []) := by
          intro n
          induction n with
          | zero =>
            intro x11 y12 H locs hP hD hS ls hl hf
            exact no_none hf
          | succ n ih15 =>
            intro x11 y12 H locs hP hD hS ls hl hf
            have hf := zl2_s eF13 hf
            refine lv_iload hx hb dX5_lostByKinds_19 (lv_at hl 4 rfl) ?_
            refine lv_aload_n hx hb dX5_lostByKinds_21 rfl (lv_at hl 0 rfl) ?_
            refine va_get (D := D) (ci := 5) (v := .ref (a2 0)) (C := RX5) (T := TX5) (N := 2) hx hb hts iX5 hown hK hP 0 rfl rfl 0 (by decide) (hts _ aw199) (fun _ h9 => h9) rfl dX5_lostByKinds_22 ?_
            refine va_get (D := D) (ci := 2) (v := .int (y12 0 4)) (C := RX2) (T := TX2) (N := 8) hx hb hts iX2 hown hK hP 1 rfl rfl 4 (by decide) (hts _ aw166) (fun _ h9 => h9) rfl dX5_lostByKinds_25 ?_
            refine lv_icmp_ge (tgt := 51) hx hb dX5_lostByKinds_28 (by decide) (fun c16 => ?_) (fun c16 => ?_)
            · have hf := if_t c16 hf
              refine lv_iload_n hx hb dX5_lostByKinds_51 rfl (lv_at hl 2 rfl) ?_
              refine lv_aload_n hx hb dX5_lostByKinds_52 rfl (lv_at hl 0 rfl) ?_
              obtain ⟨r17, y18, q19, hf⟩ := bd2_use hf
              have hfo : Foc (WMin a1 (a2 0) m1 ++ (WDay z a2 y12)) (WMin a1 (a2 0) m1 ++ (WDay z a2 y12)) (WMin a1 (a2 0) m1 ++ (WDay z a2 y18)) (WMin a1 (a2 0) m1 ++ (WDay z a2 y18)) := (foc_app foc_all foc_all)
              refine z_goI (ws1 := (WMin a1 (a2 0) m1 ++ (WDay z a2 y18))) (va_runV (As := []) (rest := [.int x4]) ⟨hx, hb, hml, hown, hts⟩ (tX5_costAnew l D z tt a1 a2 m1 y12  fu r17 y18 q19 _) (cwV 0 hts (gV4 aw561 aw562 aw563 aw49 aw564) rfl rfl rfl (by decide +kernel) ⟨Nat.le_of_ble_eq_true rfl, Nat.le_of_ble_eq_true rfl⟩) (z_preV hK hP hD hS hA hT hN hfo (va_recv hK hP (ci := 5) (q0 := 0) rfl rfl)) rfl rfl hl.1 rfl (lv_room (Nat.le_of_ble_eq_true rfl)) dX5_lostByKinds_53 ⟨Nat.zero_le _, Nat.zero_le _⟩) hP hD hS hA hfo (fun H locs hP hD hS => ?_)
              refine z_min hx hb (by rw [hml]; exact hl.1.symm) hown (hts _ aw588) (hts _ aw387) (hts _ aw54) (hts _ aw388) (Nat.le_of_ble_eq_true rfl) (Nat.le_of_ble_eq_true rfl) dX5_lostByKinds_56 (Nat.zero_le _) (Nat.zero_le _) ?_
              refine lv_topi (fun x20 ex20 => ?_)
              have hf := lt_use ex20 hf
              refine lv_istore_n (lv' := [(2, .int x20), (0, .ref a1), (1, .int r1), (3, .int x5), (4, .int x11)]) hx hb dX5_lostByKinds_59 rfl hl (by decide) rfl (fun ls hl => ?_)
              obtain ⟨x21, ex21⟩ : ∃ y : Int32, y = x5 + 1 := ⟨_, rfl⟩
              have hf := lt_use ex21 hf
              refine lv_iinc (v := x21) (lv' := [(3, .int x21), (2, .int x20), (0, .ref a1), (1, .int r1), (4, .int x11)]) hx hb dX5_lostByKinds_60 hl (k := 3) rfl (by rw [ex21]; rfl) (by decide) rfl (fun ls hl => ?_)
              refine lv_goto (tgt := 10) hx hb dX5_lostByKinds_63 (by decide) ?_
              exact ih9 _ _ _ _ _ hP hD hS _ (lv_sub hl [2, 3, 1, 0] rfl) hf
            · have hf := if_f c16 hf
              refine lv_aload_n hx hb dX5_lostByKinds_31 rfl (lv_at hl 0 rfl) ?_
              refine va_get (D := D) (ci := 5) (v := .ref (a2 0)) (C := RX5) (T := TX5) (N := 2) hx hb hts iX5 hown hK hP 0 rfl rfl 0 (by decide) (hts _ aw199) (fun _ h9 => h9) rfl dX5_lostByKinds_32 ?_
              refine va_get (D := D) (ci := 2) (v := .ref (a2 13)) (C := RX2) (T := TX2) (N := 8) hx hb hts iX2 hown hK hP 1 rfl rfl 1 (by decide) (hts _ aw156) (fun _ h9 => h9) rfl dX5_lostByKinds_35 ?_
              refine lv_iload hx hb dX5_lostByKinds_38 (lv_at hl 4 rfl) ?_
              obtain ⟨h22, hf⟩ := ck_use hf
              refine z_ald hx hb hK hP 14 1 (C := "FilledForOne$Comer") (g := (fun j => a2 (5 + j))) rfl rfl h22 dX5_lostByKinds_40 ?_
              refine lv_iload_n hx hb dX5_lostByKinds_41 rfl (lv_at hl 3 rfl) ?_
              refine z_put (ci := 1) (v := .int x5) (ty := .int) (C := RX1) (T := TX1) (N := 7) hx hb hts iX1 tyX1 tyX1_ok nmX1 hown hK hP hD hS (1 + (5 + x11.toNatClampNeg)) (w_skip (n := 1) rfl (WDay_c z a2 y12 (vp_lt h22))) rfl 0 (by decide) (hts _ aw87) (fun _ h9 => h9) rfl (by decide +kernel) rfl rfl (Nat.le_of_ble_eq_true rfl) dX5_lostByKinds_42 (fun (w9 : Mem) => (WMin a1 (a2 0) m1 ++ (WDay z a2 w9))) (up2 y12 (5 + x11.toNatClampNeg) 0 x5) (s_skip (n := 1) rfl (WDay_sc z a2 y12 (upd (y12 (5 + x11.toNatClampNeg)) 0 x5) (vp_lt h22))) (fun y23 ey23 H locs hP hD hS => ?_)
              have hf := lt_use ey23 hf
              obtain ⟨x24, ex24⟩ : ∃ y : Int32, y = x11 + 1 := ⟨_, rfl⟩
              have hf := lt_use ex24 hf
              refine lv_iinc (v := x24) (lv' := [(4, .int x24), (0, .ref a1), (1, .int r1), (2, .int x4), (3, .int x5)]) hx hb dX5_lostByKinds_45 hl (k := 4) rfl (by rw [ex24]; rfl) (by decide) rfl (fun ls hl => ?_)
              refine lv_goto (tgt := 19) hx hb dX5_lostByKinds_48 (by decide) ?_
              exact ih15 _ _ _ _ hP hD hS _ (lv_sub hl [1, 2, 3, 4, 0] rfl) hf
        exact L19_F13 fu _ _ _ _ hP hD hS _ (lv_sub hl [1, 2, 3, 4, 0] rfl) hf
  exact L10_F7 fu _ _ _ _ _ hP hD hS _ (lv_sub hl [3, 2, 1, 0] rfl) hf
def pX5_bestMark (fu : Nat) (m2 : Mem) (p1 : Int32) : Option (Int32 × Mem) :=
  zl4 (fun g6 (x1 : Int32) (x2 : Int32) (x3 : Int32) (y4 : Mem) =>
    if (y4 1 0) < x3 then
      if p1 = 0 then
        some (x2, y4)
      else
        some (x1, y4)
    else
      lt' (up2 y4 1 6 x3) fun y10 =>
      bd2 (pX5_costAnew fu y10) fun r11 y12 =>
      if x2 ≤ r11 then
        lt' (x3 + 1) fun x15 =>
        g6 x1 x2 x15 y12
      else
        lt' (x3 + 1) fun x16 =>
        g6 x3 r11 x16 y12) fu 0 2147483647 0 m2
set_option maxHeartbeats 4000000 in
set_option maxRecDepth 100000 in
theorem tX5_bestMark (l : Launch) (D : va_G) (z tt : Nat → Nat) (a1 : Nat) (a2 : Nat → Nat) (m1 : Mem) (m2 : Mem) (p1 : Int32) (fu : Nat) (rr : Int32) (m2' : Mem) (hf : pX5_bestMark fu m2 p1 = some (rr, m2')) : MetI l yX5_bestMark wsX5_bestMark ({ frames := 5, cells := 0, slots := 0, locals := 112 } : Room) D z tt ([.ref a1, .int p1] : List Value) (WMin a1 (a2 0) m1 ++ (WDay z a2 m2)) rr (WMin a1 (a2 0) m1 ++ (WDay z a2 m2')) := by
  intro sz
  refine Met.ofW (cc := cX5_bestMark) (maxL := 6) (ret := (some .int)) (by decide) rfl ?_
  intro p e s m args below meth c s₁ B hml hv
  obtain ⟨rfl, hsz, hP, hK, hD0, hT, hN⟩ := hv
  have hx := B.exec
  have hb := B.bytes
  have hr := B.returns
  have hts : ∀ w ∈ wsA, w.before ([.ref a1, .int p1] : List Value).toArray s = true := fun w h => atoms_spec (ws := wsX5_bestMark) B.pre w (List.mem_cons_of_mem _ h)
  have hown : s.vm.findClass RX5 = some m.cls := findClass_of_methodNamed B.named
  have hlocks := B.notSynchronized
  subst hsz
  have hD := hD0.self (sz := s.heap.size)
  generalize hAe : va_A (WMin a1 (a2 0) m1 ++ (WDay z a2 m2)) s.heap.size = A at hD hT ⊢
  have hA : ∀ q : Nat, s.heap.size ≤ q → A q := fun q h => by rw [← hAe]; exact Or.inr h
  have hS : va_S A s.heap s.heap [] := va_S.rf
  have hl := lv_entry ([.ref a1, .int p1] : List Value) (n := 6) (Nat.le_of_ble_eq_true rfl)
  rw [lg_entry_eq]
  generalize (lg_sl ([.ref a1, .int p1] : List Value) ++ List.replicate (6 - (lg_sl ([.ref a1, .int p1] : List Value)).length) Slot.unset).toArray = ls at hl ⊢
  have hl : lv_has ls 6 [(0, .ref a1), (1, .int p1)] := hl
  unfold pX5_bestMark at hf
  refine lv_iconst (v := 0) hx hb dX5_bestMark_0 (by decide) ?_
  refine lv_istore_n (lv' := [(2, .int 0), (0, .ref a1), (1, .int p1)]) hx hb dX5_bestMark_1 rfl hl (by decide) rfl (fun ls hl => ?_)
  refine lv_ldc (v := 2147483647) hx hb hown (hts _ aw560) dX5_bestMark_2 ?_
  refine lv_istore_n (lv' := [(3, .int 2147483647), (2, .int 0), (0, .ref a1), (1, .int p1)]) hx hb dX5_bestMark_4 rfl hl (by decide) rfl (fun ls hl => ?_)
  refine lv_iconst (v := 0) hx hb dX5_bestMark_5 (by decide) ?_
  refine lv_istore (lv' := [(4, .int 0), (3, .int 2147483647), (2, .int 0), (0, .ref a1), (1, .int p1)]) hx hb dX5_bestMark_6 hl (by decide) rfl (fun ls hl => ?_)
  obtain ⟨F5, eF5, hf⟩ := zl4_use hf
  have L8_F5 : ∀ (n : Nat) (x1 : Int32) (x2 : Int32) (x3 : Int32) (y4 : Mem) (H : Heap) (locs : List Loc), va_P D vwCl (WMin a1 (a2 0) m1 ++ (WDay z a2 y4)) H → va_D A (WMin a1 (a2 0) m1 ++ (WDay z a2 y4)) → va_S A s.heap H locs → ∀ (ls : Array Slot), lv_has ls 6 [(0, .ref a1), (1, .int p1), (2, .int x1), (3, .int x2), (4, .int x3)] → zl4 F5 n x1 x2 x3 y4 = some (rr, m2') → GI p l e (headSpec wsX5_bestMark ({ frames := 5, cells := 0, slots := 0, locals := 112 } : Room)).room s m ([.ref a1, .int p1] : List Value).toArray below meth c A D z rr (WMin a1 (a2 0) m1 ++ (WDay z a2 m2')) H locs (F0 m 8 ls []) := by
    intro n
    induction n with
    | zero =>
      intro x1 x2 x3 y4 H locs hP hD hS ls hl hf
      exact no_none hf
    | succ n ih7 =>
      intro x1 x2 x3 y4 H locs hP hD hS ls hl hf
      have hf := zl4_s eF5 hf
      refine lv_iload hx hb dX5_bestMark_8 (lv_at hl 4 rfl) ?_
      refine lv_aload_n hx hb dX5_bestMark_10 rfl (lv_at hl 0 rfl) ?_
      refine va_get (D := D) (ci := 5) (v := .ref (a2 0)) (C := RX5) (T := TX5) (N := 2) hx hb hts iX5 hown hK hP 0 rfl rfl 0 (by decide) (hts _ aw199) (fun _ h9 => h9) rfl dX5_bestMark_11 ?_
      refine va_get (D := D) (ci := 2) (v := .ref (a2 1)) (C := RX2) (T := TX2) (N := 8) hx hb hts iX2 hown hK hP 1 rfl rfl 0 (by decide) (hts _ aw152) (fun _ h9 => h9) rfl dX5_bestMark_14 ?_
      refine lv_iconst (v := 0) hx hb dX5_bestMark_17 (by decide) ?_
      refine z_ialdc hx hb hK hP 2 rfl (i := 0) (k := 0) (by decide) (Nat.le_of_ble_eq_true rfl) dX5_bestMark_18 ?_
      refine lv_icmp_gt (tgt := 58) hx hb dX5_bestMark_19 (by decide) (fun c8 => ?_) (fun c8 => ?_)
      · have hf := if_t c8 hf
        refine lv_iload_n hx hb dX5_bestMark_58 rfl (lv_at hl 1 rfl) ?_
        refine lv_if_eq (tgt := 66) hx hb dX5_bestMark_59 (by decide) (fun c9 => ?_) (fun c9 => ?_)
        · have hf := if_t c9 hf
          refine lv_iload_n hx hb dX5_bestMark_66 rfl (lv_at hl 3 rfl) ?_
          obtain ⟨rfl, rfl⟩ := so2 hf
          exact ret_i hx hb hr hlocks hK hP hD hS dX5_bestMark_67
        · have hf := if_f c9 hf
          refine lv_iload_n hx hb dX5_bestMark_62 rfl (lv_at hl 2 rfl) ?_
          refine lv_goto (tgt := 67) hx hb dX5_bestMark_63 (by decide) ?_
          obtain ⟨rfl, rfl⟩ := so2 hf
          exact ret_i hx hb hr hlocks hK hP hD hS dX5_bestMark_67
      · have hf := if_f c8 hf
        refine lv_aload_n hx hb dX5_bestMark_22 rfl (lv_at hl 0 rfl) ?_
        refine va_get (D := D) (ci := 5) (v := .ref (a2 0)) (C := RX5) (T := TX5) (N := 2) hx hb hts iX5 hown hK hP 0 rfl rfl 0 (by decide) (hts _ aw199) (fun _ h9 => h9) rfl dX5_bestMark_23 ?_
        refine va_get (D := D) (ci := 2) (v := .ref (a2 1)) (C := RX2) (T := TX2) (N := 8) hx hb hts iX2 hown hK hP 1 rfl rfl 0 (by decide) (hts _ aw152) (fun _ h9 => h9) rfl dX5_bestMark_26 ?_
        refine lv_bipush (v := 6) hx hb dX5_bestMark_29 (by decide) ?_
        refine lv_iload hx hb dX5_bestMark_31 (lv_at hl 4 rfl) ?_
        refine z_iastc hx hb hK hP hD hS 2 rfl (i := 6) (k := 6) (by decide) (Nat.le_of_ble_eq_true rfl) dX5_bestMark_33 (fun (w9 : Mem) => (WMin a1 (a2 0) m1 ++ (WDay z a2 w9))) (up2 y4 1 6 x3) rfl (fun y10 ey10 H locs hP hD hS => ?_)
        have hf := lt_use ey10 hf
        refine lv_aload_n hx hb dX5_bestMark_34 rfl (lv_at hl 0 rfl) ?_
        obtain ⟨r11, y12, q13, hf⟩ := bd2_use hf
        have hfo : Foc (WMin a1 (a2 0) m1 ++ (WDay z a2 y10)) (WMin a1 (a2 0) m1 ++ (WDay z a2 y10)) (WMin a1 (a2 0) m1 ++ (WDay z a2 y12)) (WMin a1 (a2 0) m1 ++ (WDay z a2 y12)) := (foc_app foc_all foc_all)
        refine z_goI (ws1 := (WMin a1 (a2 0) m1 ++ (WDay z a2 y12))) (va_runV (As := []) (rest := []) ⟨hx, hb, hml, hown, hts⟩ (tX5_costAnew l D z tt a1 a2 m1 y10  fu r11 y12 q13 _) (cwV 0 hts (gV4 aw561 aw562 aw563 aw49 aw564) rfl rfl rfl (by decide +kernel) ⟨Nat.le_of_ble_eq_true rfl, Nat.le_of_ble_eq_true rfl⟩) (z_preV hK hP hD hS hA hT hN hfo (va_recv hK hP (ci := 5) (q0 := 0) rfl rfl)) rfl rfl hl.1 rfl (lv_room (Nat.le_of_ble_eq_true rfl)) dX5_bestMark_35 ⟨Nat.zero_le _, Nat.zero_le _⟩) hP hD hS hA hfo (fun H locs hP hD hS => ?_)
        refine lv_istore (lv' := [(5, .int r11), (0, .ref a1), (1, .int p1), (2, .int x1), (3, .int x2), (4, .int x3)]) hx hb dX5_bestMark_38 hl (by decide) rfl (fun ls hl => ?_)
        refine lv_iload hx hb dX5_bestMark_40 (lv_at hl 0 rfl) ?_
        refine lv_iload_n hx hb dX5_bestMark_42 rfl (lv_at hl 4 rfl) ?_
        refine lv_icmp_ge (tgt := 52) hx hb dX5_bestMark_43 (by decide) (fun c14 => ?_) (fun c14 => ?_)
        · have hf := if_t c14 hf
          obtain ⟨x15, ex15⟩ : ∃ y : Int32, y = x3 + 1 := ⟨_, rfl⟩
          have hf := lt_use ex15 hf
          refine lv_iinc (v := x15) (lv' := [(4, .int x15), (5, .int r11), (0, .ref a1), (1, .int p1), (2, .int x1), (3, .int x2)]) hx hb dX5_bestMark_52 hl (k := 5) rfl (by rw [ex15]; rfl) (by decide) rfl (fun ls hl => ?_)
          refine lv_goto (tgt := 8) hx hb dX5_bestMark_55 (by decide) ?_
          exact ih7 _ _ _ _ _ _ hP hD hS _ (lv_sub hl [2, 3, 4, 5, 0] rfl) hf
        · have hf := if_f c14 hf
          refine lv_iload hx hb dX5_bestMark_46 (lv_at hl 0 rfl) ?_
          refine lv_istore_n (lv' := [(3, .int r11), (5, .int r11), (0, .ref a1), (1, .int p1), (2, .int x1), (4, .int x3)]) hx hb dX5_bestMark_48 rfl hl (by decide) rfl (fun ls hl => ?_)
          refine lv_iload hx hb dX5_bestMark_49 (lv_at hl 5 rfl) ?_
          refine lv_istore_n (lv' := [(2, .int x3), (3, .int r11), (5, .int r11), (0, .ref a1), (1, .int p1), (4, .int x3)]) hx hb dX5_bestMark_51 rfl hl (by decide) rfl (fun ls hl => ?_)
          obtain ⟨x16, ex16⟩ : ∃ y : Int32, y = x3 + 1 := ⟨_, rfl⟩
          have hf := lt_use ex16 hf
          refine lv_iinc (v := x16) (lv' := [(4, .int x16), (2, .int x3), (3, .int r11), (5, .int r11), (0, .ref a1), (1, .int p1)]) hx hb dX5_bestMark_52 hl (k := 5) rfl (by rw [ex16]; rfl) (by decide) rfl (fun ls hl => ?_)
          refine lv_goto (tgt := 8) hx hb dX5_bestMark_55 (by decide) ?_
          exact ih7 _ _ _ _ _ _ hP hD hS _ (lv_sub hl [4, 5, 1, 2, 0] rfl) hf
  exact L8_F5 fu _ _ _ _ _ _ hP hD hS _ (lv_sub hl [3, 4, 2, 1, 0] rfl) hf
def pX5_savedBySecond (fu : Nat) (m2 : Mem) : Option (Int32 × Mem) :=
  lt' (up2 m2 1 7 1) fun y1 =>
  bd2 (pX5_costAnew fu y1) fun r2 y3 =>
  lt' (up2 y3 1 7 2) fun y5 =>
  bd2 (pX5_costAnew fu y5) fun r6 y7 =>
  some ((r2 - r6), y7)
set_option maxHeartbeats 4000000 in
set_option maxRecDepth 100000 in
theorem tX5_savedBySecond (l : Launch) (D : va_G) (z tt : Nat → Nat) (a1 : Nat) (a2 : Nat → Nat) (m1 : Mem) (m2 : Mem)  (fu : Nat) (rr : Int32) (m2' : Mem) (hf : pX5_savedBySecond fu m2 = some (rr, m2')) : MetI l yX5_savedBySecond wsX5_savedBySecond ({ frames := 5, cells := 0, slots := 0, locals := 112 } : Room) D z tt ([.ref a1] : List Value) (WMin a1 (a2 0) m1 ++ (WDay z a2 m2)) rr (WMin a1 (a2 0) m1 ++ (WDay z a2 m2')) := by
  intro sz
  refine Met.ofW (cc := cX5_savedBySecond) (maxL := 2) (ret := (some .int)) (by decide) rfl ?_
  intro p e s m args below meth c s₁ B hml hv
  obtain ⟨rfl, hsz, hP, hK, hD0, hT, hN⟩ := hv
  have hx := B.exec
  have hb := B.bytes
  have hr := B.returns
  have hts : ∀ w ∈ wsA, w.before ([.ref a1] : List Value).toArray s = true := fun w h => atoms_spec (ws := wsX5_savedBySecond) B.pre w (List.mem_cons_of_mem _ h)
  have hown : s.vm.findClass RX5 = some m.cls := findClass_of_methodNamed B.named
  have hlocks := B.notSynchronized
  subst hsz
  have hD := hD0.self (sz := s.heap.size)
  generalize hAe : va_A (WMin a1 (a2 0) m1 ++ (WDay z a2 m2)) s.heap.size = A at hD hT ⊢
  have hA : ∀ q : Nat, s.heap.size ≤ q → A q := fun q h => by rw [← hAe]; exact Or.inr h
  have hS : va_S A s.heap s.heap [] := va_S.rf
  have hl := lv_entry ([.ref a1] : List Value) (n := 2) (Nat.le_of_ble_eq_true rfl)
  rw [lg_entry_eq]
  generalize (lg_sl ([.ref a1] : List Value) ++ List.replicate (2 - (lg_sl ([.ref a1] : List Value)).length) Slot.unset).toArray = ls at hl ⊢
  have hl : lv_has ls 2 [(0, .ref a1)] := hl
  unfold pX5_savedBySecond at hf
  refine lv_aload_n hx hb dX5_savedBySecond_0 rfl (lv_at hl 0 rfl) ?_
  refine va_get (D := D) (ci := 5) (v := .ref (a2 0)) (C := RX5) (T := TX5) (N := 2) hx hb hts iX5 hown hK hP 0 rfl rfl 0 (by decide) (hts _ aw199) (fun _ h9 => h9) rfl dX5_savedBySecond_1 ?_
  refine va_get (D := D) (ci := 2) (v := .ref (a2 1)) (C := RX2) (T := TX2) (N := 8) hx hb hts iX2 hown hK hP 1 rfl rfl 0 (by decide) (hts _ aw152) (fun _ h9 => h9) rfl dX5_savedBySecond_4 ?_
  refine lv_bipush (v := 7) hx hb dX5_savedBySecond_7 (by decide) ?_
  refine lv_iconst (v := 1) hx hb dX5_savedBySecond_9 (by decide) ?_
  refine z_iastc hx hb hK hP hD hS 2 rfl (i := 7) (k := 7) (by decide) (Nat.le_of_ble_eq_true rfl) dX5_savedBySecond_10 (fun (w9 : Mem) => (WMin a1 (a2 0) m1 ++ (WDay z a2 w9))) (up2 m2 1 7 1) rfl (fun y1 ey1 H locs hP hD hS => ?_)
  have hf := lt_use ey1 hf
  refine lv_aload_n hx hb dX5_savedBySecond_11 rfl (lv_at hl 0 rfl) ?_
  obtain ⟨r2, y3, q4, hf⟩ := bd2_use hf
  have hfo : Foc (WMin a1 (a2 0) m1 ++ (WDay z a2 y1)) (WMin a1 (a2 0) m1 ++ (WDay z a2 y1)) (WMin a1 (a2 0) m1 ++ (WDay z a2 y3)) (WMin a1 (a2 0) m1 ++ (WDay z a2 y3)) := (foc_app foc_all foc_all)
  refine z_goI (ws1 := (WMin a1 (a2 0) m1 ++ (WDay z a2 y3))) (va_runV (As := []) (rest := []) ⟨hx, hb, hml, hown, hts⟩ (tX5_costAnew l D z tt a1 a2 m1 y1  fu r2 y3 q4 _) (cwV 0 hts (gV4 aw561 aw562 aw563 aw49 aw564) rfl rfl rfl (by decide +kernel) ⟨Nat.le_of_ble_eq_true rfl, Nat.le_of_ble_eq_true rfl⟩) (z_preV hK hP hD hS hA hT hN hfo (va_recv hK hP (ci := 5) (q0 := 0) rfl rfl)) rfl rfl hl.1 rfl (lv_room (Nat.le_of_ble_eq_true rfl)) dX5_savedBySecond_12 ⟨Nat.zero_le _, Nat.zero_le _⟩) hP hD hS hA hfo (fun H locs hP hD hS => ?_)
  refine lv_istore_n (lv' := [(1, .int r2), (0, .ref a1)]) hx hb dX5_savedBySecond_15 rfl hl (by decide) rfl (fun ls hl => ?_)
  refine lv_aload_n hx hb dX5_savedBySecond_16 rfl (lv_at hl 1 rfl) ?_
  refine va_get (D := D) (ci := 5) (v := .ref (a2 0)) (C := RX5) (T := TX5) (N := 2) hx hb hts iX5 hown hK hP 0 rfl rfl 0 (by decide) (hts _ aw199) (fun _ h9 => h9) rfl dX5_savedBySecond_17 ?_
  refine va_get (D := D) (ci := 2) (v := .ref (a2 1)) (C := RX2) (T := TX2) (N := 8) hx hb hts iX2 hown hK hP 1 rfl rfl 0 (by decide) (hts _ aw152) (fun _ h9 => h9) rfl dX5_savedBySecond_20 ?_
  refine lv_bipush (v := 7) hx hb dX5_savedBySecond_23 (by decide) ?_
  refine lv_iconst (v := 2) hx hb dX5_savedBySecond_25 (by decide) ?_
  refine z_iastc hx hb hK hP hD hS 2 rfl (i := 7) (k := 7) (by decide) (Nat.le_of_ble_eq_true rfl) dX5_savedBySecond_26 (fun (w9 : Mem) => (WMin a1 (a2 0) m1 ++ (WDay z a2 w9))) (up2 y3 1 7 2) rfl (fun y5 ey5 H locs hP hD hS => ?_)
  have hf := lt_use ey5 hf
  refine lv_iload_n hx hb dX5_savedBySecond_27 rfl (lv_at hl 0 rfl) ?_
  refine lv_aload_n hx hb dX5_savedBySecond_28 rfl (lv_at hl 1 rfl) ?_
  obtain ⟨r6, y7, q8, hf⟩ := bd2_use hf
  have hfo : Foc (WMin a1 (a2 0) m1 ++ (WDay z a2 y5)) (WMin a1 (a2 0) m1 ++ (WDay z a2 y5)) (WMin a1 (a2 0) m1 ++ (WDay z a2 y7)) (WMin a1 (a2 0) m1 ++ (WDay z a2 y7)) := (foc_app foc_all foc_all)
  refine z_goI (ws1 := (WMin a1 (a2 0) m1 ++ (WDay z a2 y7))) (va_runV (As := []) (rest := [.int r2]) ⟨hx, hb, hml, hown, hts⟩ (tX5_costAnew l D z tt a1 a2 m1 y5  fu r6 y7 q8 _) (cwV 0 hts (gV4 aw561 aw562 aw563 aw49 aw564) rfl rfl rfl (by decide +kernel) ⟨Nat.le_of_ble_eq_true rfl, Nat.le_of_ble_eq_true rfl⟩) (z_preV hK hP hD hS hA hT hN hfo (va_recv hK hP (ci := 5) (q0 := 0) rfl rfl)) rfl rfl hl.1 rfl (lv_room (Nat.le_of_ble_eq_true rfl)) dX5_savedBySecond_29 ⟨Nat.zero_le _, Nat.zero_le _⟩) hP hD hS hA hfo (fun H locs hP hD hS => ?_)
  refine lv_isub hx hb dX5_savedBySecond_32 ?_
  obtain ⟨rfl, rfl⟩ := so2 hf
  exact ret_i hx hb hr hlocks hK hP hD hS dX5_savedBySecond_33
def pX5_comerToFollow (fu : Nat) (m2 : Mem) (m3 : Mem) : Option (Int32 × Mem) :=
  zl4 (fun g6 (x1 : Int32) (x2 : Int32) (x3 : Int32) (y4 : Mem) =>
    if (m3 0 4) ≤ x3 then
      some (x1, y4)
    else
      ck x3 8 <|
      zl2 (fun g13 (x10 : Int32) (y11 : Mem) =>
        if (y11 0 4) ≤ x10 then
          bd2 (pX5_costAnew fu y11) fun r16 y17 =>
          if x2 ≤ r16 then
            lt' (x3 + 1) fun x20 =>
            g6 x1 x2 x20 y17
          else
            lt' (x3 + 1) fun x21 =>
            g6 x3 r16 x21 y17
        else
          ck x10 8 <|
          bd (pX1_become fu (y11 (5 + x10.toNatClampNeg)) (m3 (5 + x3.toNatClampNeg) 0) (m3 (5 + x3.toNatClampNeg) 1)) fun y23 =>
          lt' (va_up y11 (5 + x10.toNatClampNeg) y23) fun y25 =>
          lt' (x10 + 1) fun x26 =>
          g13 x26 y25) fu 0 y4) fu (-9) 2147483647 0 m2
set_option maxHeartbeats 4000000 in
set_option maxRecDepth 100000 in
theorem tX5_comerToFollow (l : Launch) (D : va_G) (z tt : Nat → Nat) (a1 : Nat) (a2 : Nat → Nat) (a3 : Nat → Nat) (m1 : Mem) (m2 : Mem) (m3 : Mem)  (fu : Nat) (rr : Int32) (m2' : Mem) (hf : pX5_comerToFollow fu m2 m3 = some (rr, m2')) : MetI l yX5_comerToFollow wsX5_comerToFollow ({ frames := 5, cells := 0, slots := 0, locals := 112 } : Room) D z tt ([.ref a1, .ref (a3 0)] : List Value) (WMin a1 (a2 0) m1 ++ (WDay z a2 m2 ++ (WDay z a3 m3))) rr (WMin a1 (a2 0) m1 ++ (WDay z a2 m2' ++ (WDay z a3 m3))) := by
  intro sz
  refine Met.ofW (cc := cX5_comerToFollow) (maxL := 7) (ret := (some .int)) (by decide) rfl ?_
  intro p e s m args below meth c s₁ B hml hv
  obtain ⟨rfl, hsz, hP, hK, hD0, hT, hN⟩ := hv
  have hx := B.exec
  have hb := B.bytes
  have hr := B.returns
  have hts : ∀ w ∈ wsA, w.before ([.ref a1, .ref (a3 0)] : List Value).toArray s = true := fun w h => atoms_spec (ws := wsX5_comerToFollow) B.pre w (List.mem_cons_of_mem _ h)
  have hown : s.vm.findClass RX5 = some m.cls := findClass_of_methodNamed B.named
  have hlocks := B.notSynchronized
  subst hsz
  have hD := hD0.self (sz := s.heap.size)
  generalize hAe : va_A (WMin a1 (a2 0) m1 ++ (WDay z a2 m2 ++ (WDay z a3 m3))) s.heap.size = A at hD hT ⊢
  have hA : ∀ q : Nat, s.heap.size ≤ q → A q := fun q h => by rw [← hAe]; exact Or.inr h
  have hS : va_S A s.heap s.heap [] := va_S.rf
  have hl := lv_entry ([.ref a1, .ref (a3 0)] : List Value) (n := 7) (Nat.le_of_ble_eq_true rfl)
  rw [lg_entry_eq]
  generalize (lg_sl ([.ref a1, .ref (a3 0)] : List Value) ++ List.replicate (7 - (lg_sl ([.ref a1, .ref (a3 0)] : List Value)).length) Slot.unset).toArray = ls at hl ⊢
  have hl : lv_has ls 7 [(0, .ref a1), (1, .ref (a3 0))] := hl
  unfold pX5_comerToFollow at hf
  refine lv_bipush (v := (-9)) hx hb dX5_comerToFollow_0 (by decide) ?_
  refine lv_istore_n (lv' := [(2, .int (-9)), (0, .ref a1), (1, .ref (a3 0))]) hx hb dX5_comerToFollow_2 rfl hl (by decide) rfl (fun ls hl => ?_)
  refine lv_ldc (v := 2147483647) hx hb hown (hts _ aw560) dX5_comerToFollow_3 ?_
  refine lv_istore_n (lv' := [(3, .int 2147483647), (2, .int (-9)), (0, .ref a1), (1, .ref (a3 0))]) hx hb dX5_comerToFollow_5 rfl hl (by decide) rfl (fun ls hl => ?_)
  refine lv_iconst (v := 0) hx hb dX5_comerToFollow_6 (by decide) ?_
  refine lv_istore (lv' := [(4, .int 0), (3, .int 2147483647), (2, .int (-9)), (0, .ref a1), (1, .ref (a3 0))]) hx hb dX5_comerToFollow_7 hl (by decide) rfl (fun ls hl => ?_)
  obtain ⟨F5, eF5, hf⟩ := zl4_use hf
  have L9_F5 : ∀ (n : Nat) (x1 : Int32) (x2 : Int32) (x3 : Int32) (y4 : Mem) (H : Heap) (locs : List Loc), va_P D vwCl (WMin a1 (a2 0) m1 ++ (WDay z a2 y4 ++ (WDay z a3 m3))) H → va_D A (WMin a1 (a2 0) m1 ++ (WDay z a2 y4 ++ (WDay z a3 m3))) → va_S A s.heap H locs → ∀ (ls : Array Slot), lv_has ls 7 [(0, .ref a1), (1, .ref (a3 0)), (2, .int x1), (3, .int x2), (4, .int x3)] → zl4 F5 n x1 x2 x3 y4 = some (rr, m2') → GI p l e (headSpec wsX5_comerToFollow ({ frames := 5, cells := 0, slots := 0, locals := 112 } : Room)).room s m ([.ref a1, .ref (a3 0)] : List Value).toArray below meth c A D z rr (WMin a1 (a2 0) m1 ++ (WDay z a2 m2' ++ (WDay z a3 m3))) H locs (F0 m 9 ls []) := by
    intro n
    induction n with
    | zero =>
      intro x1 x2 x3 y4 H locs hP hD hS ls hl hf
      exact no_none hf
    | succ n ih7 =>
      intro x1 x2 x3 y4 H locs hP hD hS ls hl hf
      have hf := zl4_s eF5 hf
      refine lv_iload hx hb dX5_comerToFollow_9 (lv_at hl 4 rfl) ?_
      refine lv_aload_n hx hb dX5_comerToFollow_11 rfl (lv_at hl 1 rfl) ?_
      refine va_get (D := D) (ci := 2) (v := .int (m3 0 4)) (C := RX2) (T := TX2) (N := 8) hx hb hts iX2 hown hK hP 16 rfl rfl 4 (by decide) (hts _ aw166) (fun _ h9 => h9) rfl dX5_comerToFollow_12 ?_
      refine lv_icmp_ge (tgt := 95) hx hb dX5_comerToFollow_15 (by decide) (fun c8 => ?_) (fun c8 => ?_)
      · have hf := if_t c8 hf
        refine lv_iload_n hx hb dX5_comerToFollow_95 rfl (lv_at hl 2 rfl) ?_
        obtain ⟨rfl, rfl⟩ := so2 hf
        exact ret_i hx hb hr hlocks hK hP hD hS dX5_comerToFollow_96
      · have hf := if_f c8 hf
        refine lv_aload_n hx hb dX5_comerToFollow_18 rfl (lv_at hl 1 rfl) ?_
        refine va_get (D := D) (ci := 2) (v := .ref (a3 13)) (C := RX2) (T := TX2) (N := 8) hx hb hts iX2 hown hK hP 16 rfl rfl 1 (by decide) (hts _ aw156) (fun _ h9 => h9) rfl dX5_comerToFollow_19 ?_
        refine lv_iload hx hb dX5_comerToFollow_22 (lv_at hl 4 rfl) ?_
        obtain ⟨h9, hf⟩ := ck_use hf
        refine z_ald hx hb hK hP 29 1 (C := "FilledForOne$Comer") (g := (fun j => a3 (5 + j))) rfl rfl h9 dX5_comerToFollow_24 ?_
        refine lv_astore (lv' := [(5, .ref (a3 (5 + x3.toNatClampNeg))), (0, .ref a1), (1, .ref (a3 0)), (2, .int x1), (3, .int x2), (4, .int x3)]) hx hb dX5_comerToFollow_25 hl (by decide) rfl (fun ls hl => ?_)
        refine lv_iconst (v := 0) hx hb dX5_comerToFollow_27 (by decide) ?_
        refine lv_istore (lv' := [(6, .int 0), (5, .ref (a3 (5 + x3.toNatClampNeg))), (0, .ref a1), (1, .ref (a3 0)), (2, .int x1), (3, .int x2), (4, .int x3)]) hx hb dX5_comerToFollow_28 hl (by decide) rfl (fun ls hl => ?_)
        obtain ⟨F12, eF12, hf⟩ := zl2_use hf
        have L30_F12 : ∀ (n : Nat) (x10 : Int32) (y11 : Mem) (H : Heap) (locs : List Loc), va_P D vwCl (WMin a1 (a2 0) m1 ++ (WDay z a2 y11 ++ (WDay z a3 m3))) H → va_D A (WMin a1 (a2 0) m1 ++ (WDay z a2 y11 ++ (WDay z a3 m3))) → va_S A s.heap H locs → ∀ (ls : Array Slot), lv_has ls 7 [(0, .ref a1), (1, .ref (a3 0)), (2, .int x1), (3, .int x2), (4, .int x3), (5, .ref (a3 (5 + x3.toNatClampNeg))), (6, .int x10)] → zl2 F12 n x10 y11 = some (rr, m2') → GI p l e (headSpec wsX5_comerToFollow ({ frames := 5, cells := 0, slots := 0, locals := 112 } : Room)).room s m ([.ref a1, .ref (a3 0)] : List Value).toArray below meth c A D z rr (WMin a1 (a2 0) m1 ++ (WDay z a2 m2' ++ (WDay z a3 m3))) H locs (F0 m 30 ls []) := by
          intro n
          induction n with
          | zero =>
            intro x10 y11 H locs hP hD hS ls hl hf
            exact no_none hf
          | succ n ih14 =>
            intro x10 y11 H locs hP hD hS ls hl hf
            have hf := zl2_s eF12 hf
            refine lv_iload hx hb dX5_comerToFollow_30 (lv_at hl 6 rfl) ?_
            refine lv_aload_n hx hb dX5_comerToFollow_32 rfl (lv_at hl 0 rfl) ?_
            refine va_get (D := D) (ci := 5) (v := .ref (a2 0)) (C := RX5) (T := TX5) (N := 2) hx hb hts iX5 hown hK hP 0 rfl rfl 0 (by decide) (hts _ aw199) (fun _ h9 => h9) rfl dX5_comerToFollow_33 ?_
            refine va_get (D := D) (ci := 2) (v := .int (y11 0 4)) (C := RX2) (T := TX2) (N := 8) hx hb hts iX2 hown hK hP 1 rfl rfl 4 (by decide) (hts _ aw166) (fun _ h9 => h9) rfl dX5_comerToFollow_36 ?_
            refine lv_icmp_ge (tgt := 71) hx hb dX5_comerToFollow_39 (by decide) (fun c15 => ?_) (fun c15 => ?_)
            · have hf := if_t c15 hf
              refine lv_aload_n hx hb dX5_comerToFollow_71 rfl (lv_at hl 0 rfl) ?_
              obtain ⟨r16, y17, q18, hf⟩ := bd2_use hf
              have hfo : Foc (WMin a1 (a2 0) m1 ++ (WDay z a2 y11 ++ (WDay z a3 m3))) (WMin a1 (a2 0) m1 ++ (WDay z a2 y11)) (WMin a1 (a2 0) m1 ++ (WDay z a2 y17 ++ (WDay z a3 m3))) (WMin a1 (a2 0) m1 ++ (WDay z a2 y17)) := (foc_app foc_all (foc_l foc_all))
              refine z_goI (ws1 := (WMin a1 (a2 0) m1 ++ (WDay z a2 y17 ++ (WDay z a3 m3)))) (va_runV (As := []) (rest := []) ⟨hx, hb, hml, hown, hts⟩ (tX5_costAnew l D z tt a1 a2 m1 y11  fu r16 y17 q18 _) (cwV 0 hts (gV4 aw561 aw562 aw563 aw49 aw564) rfl rfl rfl (by decide +kernel) ⟨Nat.le_of_ble_eq_true rfl, Nat.le_of_ble_eq_true rfl⟩) (z_preV hK hP hD hS hA hT hN hfo (va_recv hK hP (ci := 5) (q0 := 0) rfl rfl)) rfl rfl hl.1 rfl (lv_room (Nat.le_of_ble_eq_true rfl)) dX5_comerToFollow_72 ⟨Nat.zero_le _, Nat.zero_le _⟩) hP hD hS hA hfo (fun H locs hP hD hS => ?_)
              refine lv_istore (lv' := [(6, .int r16), (0, .ref a1), (1, .ref (a3 0)), (2, .int x1), (3, .int x2), (4, .int x3), (5, .ref (a3 (5 + x3.toNatClampNeg)))]) hx hb dX5_comerToFollow_75 hl (by decide) rfl (fun ls hl => ?_)
              refine lv_iload hx hb dX5_comerToFollow_77 (lv_at hl 0 rfl) ?_
              refine lv_iload_n hx hb dX5_comerToFollow_79 rfl (lv_at hl 4 rfl) ?_
              refine lv_icmp_ge (tgt := 89) hx hb dX5_comerToFollow_80 (by decide) (fun c19 => ?_) (fun c19 => ?_)
              · have hf := if_t c19 hf
                obtain ⟨x20, ex20⟩ : ∃ y : Int32, y = x3 + 1 := ⟨_, rfl⟩
                have hf := lt_use ex20 hf
                refine lv_iinc (v := x20) (lv' := [(4, .int x20), (6, .int r16), (0, .ref a1), (1, .ref (a3 0)), (2, .int x1), (3, .int x2), (5, .ref (a3 (5 + x3.toNatClampNeg)))]) hx hb dX5_comerToFollow_89 hl (k := 5) rfl (by rw [ex20]; rfl) (by decide) rfl (fun ls hl => ?_)
                refine lv_goto (tgt := 9) hx hb dX5_comerToFollow_92 (by decide) ?_
                exact ih7 _ _ _ _ _ _ hP hD hS _ (lv_sub hl [2, 3, 4, 5, 0] rfl) hf
              · have hf := if_f c19 hf
                refine lv_iload hx hb dX5_comerToFollow_83 (lv_at hl 0 rfl) ?_
                refine lv_istore_n (lv' := [(3, .int r16), (6, .int r16), (0, .ref a1), (1, .ref (a3 0)), (2, .int x1), (4, .int x3), (5, .ref (a3 (5 + x3.toNatClampNeg)))]) hx hb dX5_comerToFollow_85 rfl hl (by decide) rfl (fun ls hl => ?_)
                refine lv_iload hx hb dX5_comerToFollow_86 (lv_at hl 5 rfl) ?_
                refine lv_istore_n (lv' := [(2, .int x3), (3, .int r16), (6, .int r16), (0, .ref a1), (1, .ref (a3 0)), (4, .int x3), (5, .ref (a3 (5 + x3.toNatClampNeg)))]) hx hb dX5_comerToFollow_88 rfl hl (by decide) rfl (fun ls hl => ?_)
                obtain ⟨x21, ex21⟩ : ∃ y : Int32, y = x3 + 1 := ⟨_, rfl⟩
                have hf := lt_use ex21 hf
                refine lv_iinc (v := x21) (lv' := [(4, .int x21), (2, .int x3), (3, .int r16), (6, .int r16), (0, .ref a1), (1, .ref (a3 0)), (5, .ref (a3 (5 + x3.toNatClampNeg)))]) hx hb dX5_comerToFollow_89 hl (k := 5) rfl (by rw [ex21]; rfl) (by decide) rfl (fun ls hl => ?_)
                refine lv_goto (tgt := 9) hx hb dX5_comerToFollow_92 (by decide) ?_
                exact ih7 _ _ _ _ _ _ hP hD hS _ (lv_sub hl [4, 5, 1, 2, 0] rfl) hf
            · have hf := if_f c15 hf
              refine lv_aload_n hx hb dX5_comerToFollow_42 rfl (lv_at hl 0 rfl) ?_
              refine va_get (D := D) (ci := 5) (v := .ref (a2 0)) (C := RX5) (T := TX5) (N := 2) hx hb hts iX5 hown hK hP 0 rfl rfl 0 (by decide) (hts _ aw199) (fun _ h9 => h9) rfl dX5_comerToFollow_43 ?_
              refine va_get (D := D) (ci := 2) (v := .ref (a2 13)) (C := RX2) (T := TX2) (N := 8) hx hb hts iX2 hown hK hP 1 rfl rfl 1 (by decide) (hts _ aw156) (fun _ h9 => h9) rfl dX5_comerToFollow_46 ?_
              refine lv_iload hx hb dX5_comerToFollow_49 (lv_at hl 6 rfl) ?_
              obtain ⟨h22, hf⟩ := ck_use hf
              refine z_ald hx hb hK hP 14 1 (C := "FilledForOne$Comer") (g := (fun j => a2 (5 + j))) rfl rfl h22 dX5_comerToFollow_51 ?_
              refine lv_aload hx hb dX5_comerToFollow_52 (lv_at hl 5 rfl) ?_
              refine va_get (D := D) (ci := 1) (v := .int (m3 (5 + x3.toNatClampNeg) 0)) (C := RX1) (T := TX1) (N := 7) hx hb hts iX1 hown hK hP (1 + (15 + (5 + x3.toNatClampNeg))) (w_skip (n := 1) rfl (w_skip (n := 15) rfl (WDay_c z a3 m3 (vp_lt h9)))) rfl 0 (by decide) (hts _ aw87) (fun _ h9 => h9) rfl dX5_comerToFollow_54 ?_
              refine lv_aload hx hb dX5_comerToFollow_57 (lv_at hl 5 rfl) ?_
              refine va_get (D := D) (ci := 1) (v := .int (m3 (5 + x3.toNatClampNeg) 1)) (C := RX1) (T := TX1) (N := 7) hx hb hts iX1 hown hK hP (1 + (15 + (5 + x3.toNatClampNeg))) (w_skip (n := 1) rfl (w_skip (n := 15) rfl (WDay_c z a3 m3 (vp_lt h9)))) rfl 1 (by decide) (hts _ aw91) (fun _ h9 => h9) rfl dX5_comerToFollow_59 ?_
              obtain ⟨y23, q24, hf⟩ := bd_use hf
              obtain ⟨y25, ey25⟩ : ∃ w : Mem, w = va_up y11 (5 + x10.toNatClampNeg) y23 := ⟨_, rfl⟩
              have hf := lt_use ey25 hf
              have hfo : Foc (WMin a1 (a2 0) m1 ++ (WDay z a2 y11 ++ (WDay z a3 m3))) (WCom (a2 (5 + x10.toNatClampNeg)) (y11 (5 + x10.toNatClampNeg))) (WMin a1 (a2 0) m1 ++ (WDay z a2 y25 ++ (WDay z a3 m3))) (WCom (a2 (5 + x10.toNatClampNeg)) y23) := (foc_r (foc_l (foc_el (WDay_c z a2 y11 (vp_lt h22)) (by rw [ey25]; exact WDay_sc z a2 y11 y23 (vp_lt h22)))))
              refine z_goV (ws1 := (WMin a1 (a2 0) m1 ++ (WDay z a2 y25 ++ (WDay z a3 m3)))) (va_runV (As := [.int (m3 (5 + x3.toNatClampNeg) 0), .int (m3 (5 + x3.toNatClampNeg) 1)]) (rest := []) ⟨hx, hb, hml, hown, hts⟩ (tX1_become l D z tt (a2 (5 + x10.toNatClampNeg)) (y11 (5 + x10.toNatClampNeg)) (m3 (5 + x3.toNatClampNeg) 0) (m3 (5 + x3.toNatClampNeg) 1) fu y23 q24 _) (cwV 2 hts (gV4 aw681 aw300 aw301 aw47 aw302) rfl rfl rfl (by decide +kernel) ⟨Nat.le_of_ble_eq_true rfl, Nat.le_of_ble_eq_true rfl⟩) (z_preV hK hP hD hS hA hT hN hfo (va_recv hK hP (ci := 1) (q0 := (1 + (5 + x10.toNatClampNeg))) rfl (w_skip (n := 1) rfl (w_beg (WDay_c z a2 y11 (vp_lt h22)))))) rfl rfl hl.1 rfl (lv_room (Nat.le_of_ble_eq_true rfl)) dX5_comerToFollow_62 ⟨Nat.zero_le _, Nat.zero_le _⟩) hP hD hS hA hfo (fun H locs hP hD hS => ?_)
              obtain ⟨x26, ex26⟩ : ∃ y : Int32, y = x10 + 1 := ⟨_, rfl⟩
              have hf := lt_use ex26 hf
              refine lv_iinc (v := x26) (lv' := [(6, .int x26), (0, .ref a1), (1, .ref (a3 0)), (2, .int x1), (3, .int x2), (4, .int x3), (5, .ref (a3 (5 + x3.toNatClampNeg)))]) hx hb dX5_comerToFollow_65 hl (k := 6) rfl (by rw [ex26]; rfl) (by decide) rfl (fun ls hl => ?_)
              refine lv_goto (tgt := 30) hx hb dX5_comerToFollow_68 (by decide) ?_
              exact ih14 _ _ _ _ hP hD hS _ (lv_sub hl [1, 2, 3, 4, 5, 6, 0] rfl) hf
        exact L30_F12 fu _ _ _ _ hP hD hS _ (lv_sub hl [2, 3, 4, 5, 6, 1, 0] rfl) hf
  exact L9_F5 fu _ _ _ _ _ _ hP hD hS _ (lv_sub hl [3, 4, 2, 1, 0] rfl) hf
def pX5_firstOtherLevel (fu : Nat) (m2 : Mem) (m3 : Rw) (p2 : Int32) : Option (Int32 × Mem) :=
  zl2 (fun g4 (x1 : Int32) (y2 : Mem) =>
    if p2 ≤ x1 then
      some ((-9), y2)
    else
      if 12 ≤ x1 then
        some ((-9), y2)
      else
        bd (pX2_pass fu y2 1) fun y8 =>
        ck x1 12 <|
        if (y8 (3 + 0) 0) = (m3 x1.toNatClampNeg) then
          lt' (x1 + 1) fun x12 =>
          g4 x12 y8
        else
          some (x1, y8)) fu 0 m2
set_option maxHeartbeats 4000000 in
set_option maxRecDepth 100000 in
theorem tX5_firstOtherLevel (l : Launch) (D : va_G) (z tt : Nat → Nat) (a1 : Nat) (a2 : Nat → Nat) (a3 : Nat) (m1 : Mem) (m2 : Mem) (m3 : Rw) (p2 : Int32) (fu : Nat) (rr : Int32) (m2' : Mem) (hf : pX5_firstOtherLevel fu m2 m3 p2 = some (rr, m2')) : MetI l yX5_firstOtherLevel wsX5_firstOtherLevel ({ frames := 5, cells := 0, slots := 0, locals := 113 } : Room) D z tt ([.ref a1, .ref a3, .int p2] : List Value) (WMin a1 (a2 0) m1 ++ (WDay z a2 m2 ++ (WRow z a3 12 m3))) rr (WMin a1 (a2 0) m1 ++ (WDay z a2 m2' ++ (WRow z a3 12 m3))) := by
  intro sz
  refine Met.ofW (cc := cX5_firstOtherLevel) (maxL := 4) (ret := (some .int)) (by decide) rfl ?_
  intro p e s m args below meth c s₁ B hml hv
  obtain ⟨rfl, hsz, hP, hK, hD0, hT, hN⟩ := hv
  have hx := B.exec
  have hb := B.bytes
  have hr := B.returns
  have hts : ∀ w ∈ wsA, w.before ([.ref a1, .ref a3, .int p2] : List Value).toArray s = true := fun w h => atoms_spec (ws := wsX5_firstOtherLevel) B.pre w (List.mem_cons_of_mem _ h)
  have hown : s.vm.findClass RX5 = some m.cls := findClass_of_methodNamed B.named
  have hlocks := B.notSynchronized
  subst hsz
  have hD := hD0.self (sz := s.heap.size)
  generalize hAe : va_A (WMin a1 (a2 0) m1 ++ (WDay z a2 m2 ++ (WRow z a3 12 m3))) s.heap.size = A at hD hT ⊢
  have hA : ∀ q : Nat, s.heap.size ≤ q → A q := fun q h => by rw [← hAe]; exact Or.inr h
  have hS : va_S A s.heap s.heap [] := va_S.rf
  have hl := lv_entry ([.ref a1, .ref a3, .int p2] : List Value) (n := 4) (Nat.le_of_ble_eq_true rfl)
  rw [lg_entry_eq]
  generalize (lg_sl ([.ref a1, .ref a3, .int p2] : List Value) ++ List.replicate (4 - (lg_sl ([.ref a1, .ref a3, .int p2] : List Value)).length) Slot.unset).toArray = ls at hl ⊢
  have hl : lv_has ls 4 [(0, .ref a1), (1, .ref a3), (2, .int p2)] := hl
  unfold pX5_firstOtherLevel at hf
  refine lv_iconst (v := 0) hx hb dX5_firstOtherLevel_0 (by decide) ?_
  refine lv_istore_n (lv' := [(3, .int 0), (0, .ref a1), (1, .ref a3), (2, .int p2)]) hx hb dX5_firstOtherLevel_1 rfl hl (by decide) rfl (fun ls hl => ?_)
  obtain ⟨F3, eF3, hf⟩ := zl2_use hf
  have L2_F3 : ∀ (n : Nat) (x1 : Int32) (y2 : Mem) (H : Heap) (locs : List Loc), va_P D vwCl (WMin a1 (a2 0) m1 ++ (WDay z a2 y2 ++ (WRow z a3 12 m3))) H → va_D A (WMin a1 (a2 0) m1 ++ (WDay z a2 y2 ++ (WRow z a3 12 m3))) → va_S A s.heap H locs → ∀ (ls : Array Slot), lv_has ls 4 [(0, .ref a1), (1, .ref a3), (2, .int p2), (3, .int x1)] → zl2 F3 n x1 y2 = some (rr, m2') → GI p l e (headSpec wsX5_firstOtherLevel ({ frames := 5, cells := 0, slots := 0, locals := 113 } : Room)).room s m ([.ref a1, .ref a3, .int p2] : List Value).toArray below meth c A D z rr (WMin a1 (a2 0) m1 ++ (WDay z a2 m2' ++ (WRow z a3 12 m3))) H locs (F0 m 2 ls []) := by
    intro n
    induction n with
    | zero =>
      intro x1 y2 H locs hP hD hS ls hl hf
      exact no_none hf
    | succ n ih5 =>
      intro x1 y2 H locs hP hD hS ls hl hf
      have hf := zl2_s eF3 hf
      refine lv_iload_n hx hb dX5_firstOtherLevel_2 rfl (lv_at hl 3 rfl) ?_
      refine lv_iload_n hx hb dX5_firstOtherLevel_3 rfl (lv_at hl 2 rfl) ?_
      refine lv_icmp_ge (tgt := 47) hx hb dX5_firstOtherLevel_4 (by decide) (fun c6 => ?_) (fun c6 => ?_)
      · have hf := if_t c6 hf
        refine lv_bipush (v := (-9)) hx hb dX5_firstOtherLevel_47 (by decide) ?_
        obtain ⟨rfl, rfl⟩ := so2 hf
        exact ret_i hx hb hr hlocks hK hP hD hS dX5_firstOtherLevel_49
      · have hf := if_f c6 hf
        refine lv_iload_n hx hb dX5_firstOtherLevel_7 rfl (lv_at hl 3 rfl) ?_
        refine lv_aload_n hx hb dX5_firstOtherLevel_8 rfl (lv_at hl 1 rfl) ?_
        refine z_alen hx hb hK hP 16 0 rfl rfl (v := 12) rfl dX5_firstOtherLevel_9 ?_
        refine lv_icmp_ge (tgt := 47) hx hb dX5_firstOtherLevel_10 (by decide) (fun c7 => ?_) (fun c7 => ?_)
        · have hf := if_t c7 hf
          refine lv_bipush (v := (-9)) hx hb dX5_firstOtherLevel_47 (by decide) ?_
          obtain ⟨rfl, rfl⟩ := so2 hf
          exact ret_i hx hb hr hlocks hK hP hD hS dX5_firstOtherLevel_49
        · have hf := if_f c7 hf
          refine lv_aload_n hx hb dX5_firstOtherLevel_13 rfl (lv_at hl 0 rfl) ?_
          refine va_get (D := D) (ci := 5) (v := .ref (a2 0)) (C := RX5) (T := TX5) (N := 2) hx hb hts iX5 hown hK hP 0 rfl rfl 0 (by decide) (hts _ aw199) (fun _ h9 => h9) rfl dX5_firstOtherLevel_14 ?_
          refine lv_iconst (v := 1) hx hb dX5_firstOtherLevel_17 (by decide) ?_
          obtain ⟨y8, q9, hf⟩ := bd_use hf
          have hfo : Foc (WMin a1 (a2 0) m1 ++ (WDay z a2 y2 ++ (WRow z a3 12 m3))) (WDay z a2 y2) (WMin a1 (a2 0) m1 ++ (WDay z a2 y8 ++ (WRow z a3 12 m3))) (WDay z a2 y8) := (foc_r (foc_l foc_all))
          refine z_goV (ws1 := (WMin a1 (a2 0) m1 ++ (WDay z a2 y8 ++ (WRow z a3 12 m3)))) (va_runV (As := [.int 1]) (rest := []) ⟨hx, hb, hml, hown, hts⟩ (tX2_pass l D z tt a2 y2 1 fu y8 q9 _) (cwV 1 hts (gV4 aw527 aw439 aw440 aw46 aw441) rfl rfl rfl (by decide +kernel) ⟨Nat.le_of_ble_eq_true rfl, Nat.le_of_ble_eq_true rfl⟩) (z_preV hK hP hD hS hA hT hN hfo (va_recv hK hP (ci := 2) (q0 := 1) rfl rfl)) rfl rfl hl.1 rfl (lv_room (Nat.le_of_ble_eq_true rfl)) dX5_firstOtherLevel_18 ⟨Nat.zero_le _, Nat.zero_le _⟩) hP hD hS hA hfo (fun H locs hP hD hS => ?_)
          refine lv_aload_n hx hb dX5_firstOtherLevel_21 rfl (lv_at hl 0 rfl) ?_
          refine va_get (D := D) (ci := 5) (v := .ref (a2 0)) (C := RX5) (T := TX5) (N := 2) hx hb hts iX5 hown hK hP 0 rfl rfl 0 (by decide) (hts _ aw199) (fun _ h9 => h9) rfl dX5_firstOtherLevel_22 ?_
          refine va_get (D := D) (ci := 2) (v := .ref (a2 14)) (C := RX2) (T := TX2) (N := 8) hx hb hts iX2 hown hK hP 1 rfl rfl 2 (by decide) (hts _ aw161) (fun _ h9 => h9) rfl dX5_firstOtherLevel_25 ?_
          refine lv_iconst (v := 0) hx hb dX5_firstOtherLevel_28 (by decide) ?_
          refine z_aldc hx hb hK hP 15 2 (C := "FilledForOne$Kettle") (g := (fun j => a2 (3 + j))) rfl rfl (i := 0) (k := 0) (by decide) (Nat.le_of_ble_eq_true rfl) dX5_firstOtherLevel_29 ?_
          refine va_get (D := D) (ci := 3) (v := .int (y8 (3 + 0) 0)) (C := RX3) (T := TX3) (N := 5) hx hb hts iX3 hown hK hP (1 + (3 + 0)) (w_skip (n := 1) rfl (w_beg (WDay_k z a2 y8 (Nat.le_of_ble_eq_true rfl)))) rfl 0 (by decide) (hts _ aw132) (fun _ h9 => h9) rfl dX5_firstOtherLevel_30 ?_
          refine lv_aload_n hx hb dX5_firstOtherLevel_33 rfl (lv_at hl 1 rfl) ?_
          refine lv_iload_n hx hb dX5_firstOtherLevel_34 rfl (lv_at hl 3 rfl) ?_
          obtain ⟨h10, hf⟩ := ck_use hf
          refine z_iald hx hb hK hP 16 rfl h10 dX5_firstOtherLevel_35 ?_
          refine lv_icmp_eq (tgt := 41) hx hb dX5_firstOtherLevel_36 (by decide) (fun c11 => ?_) (fun c11 => ?_)
          · have hf := if_t c11 hf
            obtain ⟨x12, ex12⟩ : ∃ y : Int32, y = x1 + 1 := ⟨_, rfl⟩
            have hf := lt_use ex12 hf
            refine lv_iinc (v := x12) (lv' := [(3, .int x12), (0, .ref a1), (1, .ref a3), (2, .int p2)]) hx hb dX5_firstOtherLevel_41 hl (k := 3) rfl (by rw [ex12]; rfl) (by decide) rfl (fun ls hl => ?_)
            refine lv_goto (tgt := 2) hx hb dX5_firstOtherLevel_44 (by decide) ?_
            exact ih5 _ _ _ _ hP hD hS _ (lv_sub hl [1, 2, 3, 0] rfl) hf
          · have hf := if_f c11 hf
            refine lv_iload_n hx hb dX5_firstOtherLevel_39 rfl (lv_at hl 3 rfl) ?_
            obtain ⟨rfl, rfl⟩ := so2 hf
            exact ret_i hx hb hr hlocks hK hP hD hS dX5_firstOtherLevel_40
  exact L2_F3 fu _ _ _ _ hP hD hS _ (lv_sub hl [1, 2, 3, 0] rfl) hf
def pX5_draw (fu : Nat) (m1 : Mem) (p1 : Int32) : Option (Int32 × Mem) :=
  lt' (up2 m1 0 1 (((m1 0 1) * 1103515245) + 12345)) fun y1 =>
  if p1 ≤ 0 then
    some (0, y1)
  else
    ckn p1 <|
    some (((((y1 0 1) &&& 2147483647) / 65536) - (((y1 0 1) &&& 2147483647) / 65536) / p1 * p1), y1)
set_option maxHeartbeats 4000000 in
set_option maxRecDepth 100000 in
theorem tX5_draw (l : Launch) (D : va_G) (z tt : Nat → Nat) (dd : Nat) (a1 : Nat) (m1 : Mem) (p1 : Int32) (fu : Nat) (rr : Int32) (m1' : Mem) (hf : pX5_draw fu m1 p1 = some (rr, m1')) : MetI l yX5_draw wsX5_draw ({ frames := 0, cells := 0, slots := 0, locals := 0 } : Room) D z tt ([.ref a1, .int p1] : List Value) (WMin a1 dd m1) rr (WMin a1 dd m1') := by
  intro sz
  refine Met.ofW (cc := cX5_draw) (maxL := 2) (ret := (some .int)) (by decide) rfl ?_
  intro p e s m args below meth c s₁ B hml hv
  obtain ⟨rfl, hsz, hP, hK, hD0, hT, hN⟩ := hv
  have hx := B.exec
  have hb := B.bytes
  have hr := B.returns
  have hts : ∀ w ∈ wsA, w.before ([.ref a1, .int p1] : List Value).toArray s = true := fun w h => atoms_spec (ws := wsX5_draw) B.pre w (List.mem_cons_of_mem _ h)
  have hown : s.vm.findClass RX5 = some m.cls := findClass_of_methodNamed B.named
  have hlocks := B.notSynchronized
  subst hsz
  have hD := hD0.self (sz := s.heap.size)
  generalize hAe : va_A (WMin a1 dd m1) s.heap.size = A at hD hT ⊢
  have hA : ∀ q : Nat, s.heap.size ≤ q → A q := fun q h => by rw [← hAe]; exact Or.inr h
  have hS : va_S A s.heap s.heap [] := va_S.rf
  have hl := lv_entry ([.ref a1, .int p1] : List Value) (n := 2) (Nat.le_of_ble_eq_true rfl)
  rw [lg_entry_eq]
  generalize (lg_sl ([.ref a1, .int p1] : List Value) ++ List.replicate (2 - (lg_sl ([.ref a1, .int p1] : List Value)).length) Slot.unset).toArray = ls at hl ⊢
  have hl : lv_has ls 2 [(0, .ref a1), (1, .int p1)] := hl
  unfold pX5_draw at hf
  refine lv_aload_n hx hb dX5_draw_0 rfl (lv_at hl 0 rfl) ?_
  refine lv_aload_n hx hb dX5_draw_1 rfl (lv_at hl 0 rfl) ?_
  refine va_get (D := D) (ci := 5) (v := .int (m1 0 1)) (C := RX5) (T := TX5) (N := 2) hx hb hts iX5 hown hK hP 0 rfl rfl 1 (by decide) (hts _ aw201) (fun _ h9 => h9) rfl dX5_draw_2 ?_
  refine lv_ldc (v := 1103515245) hx hb hown (hts _ aw714) dX5_draw_5 ?_
  refine lv_imul hx hb dX5_draw_7 ?_
  refine lv_sipush (v := 12345) hx hb dX5_draw_8 (by decide) ?_
  refine lv_iadd hx hb dX5_draw_11 ?_
  refine z_put (ci := 5) (v := .int (((m1 0 1) * 1103515245) + 12345)) (ty := .int) (C := RX5) (T := TX5) (N := 2) hx hb hts iX5 tyX5 tyX5_ok nmX5 hown hK hP hD hS 0 rfl rfl 1 (by decide) (hts _ aw201) (fun _ h9 => h9) rfl (by decide +kernel) rfl rfl (Nat.le_of_ble_eq_true rfl) dX5_draw_12 (fun (w9 : Mem) => (WMin a1 dd w9)) (up2 m1 0 1 (((m1 0 1) * 1103515245) + 12345)) rfl (fun y1 ey1 H locs hP hD hS => ?_)
  have hf := lt_use ey1 hf
  refine lv_iload_n hx hb dX5_draw_15 rfl (lv_at hl 1 rfl) ?_
  refine lv_if_le (tgt := 34) hx hb dX5_draw_16 (by decide) (fun c2 => ?_) (fun c2 => ?_)
  · have hf := if_t c2 hf
    refine lv_iconst (v := 0) hx hb dX5_draw_34 (by decide) ?_
    obtain ⟨rfl, rfl⟩ := so2 hf
    exact ret_i hx hb hr hlocks hK hP hD hS dX5_draw_35
  · have hf := if_f c2 hf
    refine lv_aload_n hx hb dX5_draw_19 rfl (lv_at hl 0 rfl) ?_
    refine va_get (D := D) (ci := 5) (v := .int (y1 0 1)) (C := RX5) (T := TX5) (N := 2) hx hb hts iX5 hown hK hP 0 rfl rfl 1 (by decide) (hts _ aw201) (fun _ h9 => h9) rfl dX5_draw_20 ?_
    refine lv_ldc (v := 2147483647) hx hb hown (hts _ aw560) dX5_draw_23 ?_
    refine lv_iand hx hb dX5_draw_25 ?_
    refine lv_ldc (v := 65536) hx hb hown (hts _ aw715) dX5_draw_26 ?_
    refine lv_idiv hx hb dX5_draw_28 (by decide) ?_
    refine lv_iload_n hx hb dX5_draw_29 rfl (lv_at hl 1 rfl) ?_
    obtain ⟨h3, hf⟩ := ckn_use hf
    refine lv_irem hx hb dX5_draw_30 h3 ?_
    refine lv_goto (tgt := 35) hx hb dX5_draw_31 (by decide) ?_
    obtain ⟨rfl, rfl⟩ := so2 hf
    exact ret_i hx hb hr hlocks hK hP hD hS dX5_draw_35
