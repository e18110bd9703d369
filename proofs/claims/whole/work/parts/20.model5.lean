def pX7_costAnew (fu : Nat) (m1 : Mem) : Option (Int32 × Mem) :=
  bd (pX7_begins fu m1) fun y1 =>
  bd (pX7_goesToEnd fu y1) fun y3 =>
  bd (pX7_costNow fu y3) fun r5 =>
  some (r5, y3)
set_option maxHeartbeats 4000000 in
set_option maxRecDepth 100000 in
theorem tX7_costAnew (l : Launch) (D : va_G) (z tt : Nat → Nat) (a1 : Nat → Nat) (m1 : Mem)  (fu : Nat) (rr : Int32) (m1' : Mem) (hf : pX7_costAnew fu m1 = some (rr, m1')) : MetI l yX7_costAnew wsX7_costAnew ({ frames := 7, cells := 0, slots := 0, locals := 156 } : Room) D z tt ([.ref (a1 0)] : List Value) (WMod z a1 m1) rr (WMod z a1 m1') := by
  intro sz
  refine Met.ofW (cc := cX7_costAnew) (maxL := 1) (ret := (some .int)) (by decide) rfl ?_
  intro p e s m args below meth c s₁ B hml hv
  obtain ⟨rfl, hsz, hP, hK, hD0, hT, hN⟩ := hv
  have hx := B.exec
  have hb := B.bytes
  have hr := B.returns
  have hts : ∀ w ∈ wsA, w.before ([.ref (a1 0)] : List Value).toArray s = true := fun w h => atoms_spec (ws := wsX7_costAnew) B.pre w (List.mem_cons_of_mem _ h)
  have hown : s.vm.findClass RX7 = some m.cls := findClass_of_methodNamed B.named
  have hlocks := B.notSynchronized
  subst hsz
  have hD := hD0.self (sz := s.heap.size)
  generalize hAe : va_A (WMod z a1 m1) s.heap.size = A at hD hT ⊢
  have hA : ∀ q : Nat, s.heap.size ≤ q → A q := fun q h => by rw [← hAe]; exact Or.inr h
  have hS : va_S A s.heap s.heap [] := va_S.rf
  have hl := lv_entry ([.ref (a1 0)] : List Value) (n := 1) (Nat.le_of_ble_eq_true rfl)
  rw [lg_entry_eq]
  generalize (lg_sl ([.ref (a1 0)] : List Value) ++ List.replicate (1 - (lg_sl ([.ref (a1 0)] : List Value)).length) Slot.unset).toArray = ls at hl ⊢
  have hl : lv_has ls 1 [(0, .ref (a1 0))] := hl
  unfold pX7_costAnew at hf
  refine lv_aload_n hx hb dX7_costAnew_0 rfl (lv_at hl 0 rfl) ?_
  obtain ⟨y1, q2, hf⟩ := bd_use hf
  have hfo : Foc (WMod z a1 m1) (WMod z a1 m1) (WMod z a1 y1) (WMod z a1 y1) := foc_all
  refine z_goV (ws1 := (WMod z a1 y1)) (va_runV (As := []) (rest := []) ⟨hx, hb, hml, hown, hts⟩ (tX7_begins l D z tt a1 m1  fu y1 q2 _) (cwV 0 hts (gV4 aw996 aw998 aw28 aw52 aw999) rfl rfl rfl (by decide +kernel) ⟨Nat.le_of_ble_eq_true rfl, Nat.le_of_ble_eq_true rfl⟩) (z_preV hK hP hD hS hA hT hN hfo (va_recv hK hP (ci := 7) (q0 := 0) rfl rfl)) rfl rfl hl.1 rfl (lv_room (Nat.le_of_ble_eq_true rfl)) dX7_costAnew_1 ⟨Nat.zero_le _, Nat.zero_le _⟩) hP hD hS hA hfo (fun H locs hP hD hS => ?_)
  refine lv_aload_n hx hb dX7_costAnew_4 rfl (lv_at hl 0 rfl) ?_
  obtain ⟨y3, q4, hf⟩ := bd_use hf
  have hfo : Foc (WMod z a1 y1) (WMod z a1 y1) (WMod z a1 y3) (WMod z a1 y3) := foc_all
  refine z_goV (ws1 := (WMod z a1 y3)) (va_runV (As := []) (rest := []) ⟨hx, hb, hml, hown, hts⟩ (tX7_goesToEnd l D z tt a1 y1  fu y3 q4 _) (cwV 0 hts (gV4 aw1008 aw1010 aw29 aw52 aw1011) rfl rfl rfl (by decide +kernel) ⟨Nat.le_of_ble_eq_true rfl, Nat.le_of_ble_eq_true rfl⟩) (z_preV hK hP hD hS hA hT hN hfo (va_recv hK hP (ci := 7) (q0 := 0) rfl rfl)) rfl rfl hl.1 rfl (lv_room (Nat.le_of_ble_eq_true rfl)) dX7_costAnew_5 ⟨Nat.zero_le _, Nat.zero_le _⟩) hP hD hS hA hfo (fun H locs hP hD hS => ?_)
  refine lv_aload_n hx hb dX7_costAnew_8 rfl (lv_at hl 0 rfl) ?_
  obtain ⟨r5, q6, hf⟩ := bd_use hf
  have hfo : Foc (WMod z a1 y3) (WMod z a1 y3) (WMod z a1 y3) (WMod z a1 y3) := foc_all
  refine z_goI (ws1 := (WMod z a1 y3)) (va_runV (As := []) (rest := []) ⟨hx, hb, hml, hown, hts⟩ (tX7_costNow l D z tt a1 y3  fu r5 q6 _) (cwV 0 hts (gV4 aw1020 aw1022 aw32 aw52 aw1023) rfl rfl rfl (by decide +kernel) ⟨Nat.le_of_ble_eq_true rfl, Nat.le_of_ble_eq_true rfl⟩) (z_preV hK hP hD hS hA hT hN hfo (va_recv hK hP (ci := 7) (q0 := 0) rfl rfl)) rfl rfl hl.1 rfl (lv_room (Nat.le_of_ble_eq_true rfl)) dX7_costAnew_9 ⟨Nat.zero_le _, Nat.zero_le _⟩) hP hD hS hA hfo (fun H locs hP hD hS => ?_)
  obtain ⟨rfl, rfl⟩ := so2 hf
  exact ret_i hx hb hr hlocks hK hP hD hS dX7_costAnew_12
def pX7_comer (fu : Nat) (m1 : Mem) (p1 : Int32) (p2 : Int32) : Option (Int32 × Mem) :=
  bd (pX7_isComer fu m1 p1) fun r1 =>
  if r1 = 0 then
    bd2 (pX7_no fu m1 (-1)) fun r25 y26 =>
    some (r25, y26)
  else
    if p2 = 0 then
      ck p1 8 <|
      some ((m1 3 p1.toNatClampNeg), m1)
    else
    if p2 = 1 then
      ck p1 8 <|
      some ((m1 4 p1.toNatClampNeg), m1)
    else
    if p2 = 2 then
      ck p1 8 <|
      some ((m1 5 p1.toNatClampNeg), m1)
    else
    if p2 = 3 then
      ck p1 8 <|
      some ((m1 6 p1.toNatClampNeg), m1)
    else
    if p2 = 4 then
      ck p1 8 <|
      some ((m1 7 p1.toNatClampNeg), m1)
    else
    if p2 = 5 then
      ck p1 8 <|
      some ((m1 8 p1.toNatClampNeg), m1)
    else
    if p2 = 6 then
      ck p1 8 <|
      some ((m1 9 p1.toNatClampNeg), m1)
    else
    if p2 = 7 then
      ck p1 8 <|
      bd (pX7_upTo fu m1 p1 (m1 3 p1.toNatClampNeg)) fun r20 =>
      some (r20, m1)
    else
    bd2 (pX7_no fu m1 (-2)) fun r22 y23 =>
    some (r22, y23)
set_option maxHeartbeats 4000000 in
set_option maxRecDepth 100000 in
theorem tX7_comer (l : Launch) (D : va_G) (z tt : Nat → Nat) (a1 : Nat → Nat) (m1 : Mem) (p1 : Int32) (p2 : Int32) (fu : Nat) (rr : Int32) (m1' : Mem) (hf : pX7_comer fu m1 p1 p2 = some (rr, m1')) : MetI l yX7_comer wsX7_comer ({ frames := 3, cells := 0, slots := 0, locals := 68 } : Room) D z tt ([.ref (a1 0), .int p1, .int p2] : List Value) (WMod z a1 m1) rr (WMod z a1 m1') := by
  intro sz
  refine Met.ofW (cc := cX7_comer) (maxL := 3) (ret := (some .int)) (by decide) rfl ?_
  intro p e s m args below meth c s₁ B hml hv
  obtain ⟨rfl, hsz, hP, hK, hD0, hT, hN⟩ := hv
  have hx := B.exec
  have hb := B.bytes
  have hr := B.returns
  have hts : ∀ w ∈ wsA, w.before ([.ref (a1 0), .int p1, .int p2] : List Value).toArray s = true := fun w h => atoms_spec (ws := wsX7_comer) B.pre w (List.mem_cons_of_mem _ h)
  have hown : s.vm.findClass RX7 = some m.cls := findClass_of_methodNamed B.named
  have hlocks := B.notSynchronized
  subst hsz
  have hD := hD0.self (sz := s.heap.size)
  generalize hAe : va_A (WMod z a1 m1) s.heap.size = A at hD hT ⊢
  have hA : ∀ q : Nat, s.heap.size ≤ q → A q := fun q h => by rw [← hAe]; exact Or.inr h
  have hS : va_S A s.heap s.heap [] := va_S.rf
  have hl := lv_entry ([.ref (a1 0), .int p1, .int p2] : List Value) (n := 3) (Nat.le_of_ble_eq_true rfl)
  rw [lg_entry_eq]
  generalize (lg_sl ([.ref (a1 0), .int p1, .int p2] : List Value) ++ List.replicate (3 - (lg_sl ([.ref (a1 0), .int p1, .int p2] : List Value)).length) Slot.unset).toArray = ls at hl ⊢
  have hl : lv_has ls 3 [(0, .ref (a1 0)), (1, .int p1), (2, .int p2)] := hl
  unfold pX7_comer at hf
  refine lv_aload_n hx hb dX7_comer_0 rfl (lv_at hl 0 rfl) ?_
  refine lv_iload_n hx hb dX7_comer_1 rfl (lv_at hl 1 rfl) ?_
  obtain ⟨r1, q2, hf⟩ := bd_use hf
  have hfo : Foc (WMod z a1 m1) (WMod z a1 m1) (WMod z a1 m1) (WMod z a1 m1) := foc_all
  refine z_goI (ws1 := (WMod z a1 m1)) (va_runV (As := [.int p1]) (rest := []) ⟨hx, hb, hml, hown, hts⟩ (tX7_isComer l D z tt a1 m1 p1 fu r1 q2 _) (cwV 1 hts (gV4 aw904 aw906 aw13 aw52 aw907) rfl rfl rfl (by decide +kernel) ⟨Nat.le_of_ble_eq_true rfl, Nat.le_of_ble_eq_true rfl⟩) (z_preV hK hP hD hS hA hT hN hfo (va_recv hK hP (ci := 7) (q0 := 0) rfl rfl)) rfl rfl hl.1 rfl (lv_room (Nat.le_of_ble_eq_true rfl)) dX7_comer_2 ⟨Nat.zero_le _, Nat.zero_le _⟩) hP hD hS hA hfo (fun H locs hP hD hS => ?_)
  refine lv_if_ne (tgt := 14) hx hb dX7_comer_5 (by decide) (fun c3 => ?_) (fun c3 => ?_)
  · have hf := if_f c3 hf
    refine lv_iload_n hx hb dX7_comer_14 rfl (lv_at hl 2 rfl) ?_
    by_cases c4 : p2 = 0
    · have hf := if_t c4 hf
      refine z_tin (K := 0) hx hb c4 dX7_comer_15 ⟨rfl, by decide, by decide⟩ (tgt := 60) (by decide) ?_
      refine lv_aload_n hx hb dX7_comer_60 rfl (lv_at hl 0 rfl) ?_
      refine va_get (D := D) (ci := 7) (v := .ref (a1 3)) (C := RX7) (T := TX7) (N := 33) hx hb hts iX7 hown hK hP 0 rfl rfl 2 (by decide) (hts _ aw738) (fun _ h9 => h9) rfl dX7_comer_61 ?_
      refine lv_iload_n hx hb dX7_comer_64 rfl (lv_at hl 1 rfl) ?_
      obtain ⟨h5, hf⟩ := ck_use hf
      refine z_iald hx hb hK hP 3 rfl h5 dX7_comer_65 ?_
      obtain ⟨rfl, rfl⟩ := so2 hf
      exact ret_i hx hb hr hlocks hK hP hD hS dX7_comer_66
    have hf := if_f c4 hf
    by_cases c6 : p2 = 1
    · have hf := if_t c6 hf
      refine z_tin (K := 1) hx hb c6 dX7_comer_15 ⟨rfl, by decide, by decide⟩ (tgt := 67) (by decide) ?_
      refine lv_aload_n hx hb dX7_comer_67 rfl (lv_at hl 0 rfl) ?_
      refine va_get (D := D) (ci := 7) (v := .ref (a1 4)) (C := RX7) (T := TX7) (N := 33) hx hb hts iX7 hown hK hP 0 rfl rfl 3 (by decide) (hts _ aw739) (fun _ h9 => h9) rfl dX7_comer_68 ?_
      refine lv_iload_n hx hb dX7_comer_71 rfl (lv_at hl 1 rfl) ?_
      obtain ⟨h7, hf⟩ := ck_use hf
      refine z_iald hx hb hK hP 4 rfl h7 dX7_comer_72 ?_
      obtain ⟨rfl, rfl⟩ := so2 hf
      exact ret_i hx hb hr hlocks hK hP hD hS dX7_comer_73
    have hf := if_f c6 hf
    by_cases c8 : p2 = 2
    · have hf := if_t c8 hf
      refine z_tin (K := 2) hx hb c8 dX7_comer_15 ⟨rfl, by decide, by decide⟩ (tgt := 74) (by decide) ?_
      refine lv_aload_n hx hb dX7_comer_74 rfl (lv_at hl 0 rfl) ?_
      refine va_get (D := D) (ci := 7) (v := .ref (a1 5)) (C := RX7) (T := TX7) (N := 33) hx hb hts iX7 hown hK hP 0 rfl rfl 4 (by decide) (hts _ aw740) (fun _ h9 => h9) rfl dX7_comer_75 ?_
      refine lv_iload_n hx hb dX7_comer_78 rfl (lv_at hl 1 rfl) ?_
      obtain ⟨h9, hf⟩ := ck_use hf
      refine z_iald hx hb hK hP 5 rfl h9 dX7_comer_79 ?_
      obtain ⟨rfl, rfl⟩ := so2 hf
      exact ret_i hx hb hr hlocks hK hP hD hS dX7_comer_80
    have hf := if_f c8 hf
    by_cases c10 : p2 = 3
    · have hf := if_t c10 hf
      refine z_tin (K := 3) hx hb c10 dX7_comer_15 ⟨rfl, by decide, by decide⟩ (tgt := 81) (by decide) ?_
      refine lv_aload_n hx hb dX7_comer_81 rfl (lv_at hl 0 rfl) ?_
      refine va_get (D := D) (ci := 7) (v := .ref (a1 6)) (C := RX7) (T := TX7) (N := 33) hx hb hts iX7 hown hK hP 0 rfl rfl 5 (by decide) (hts _ aw741) (fun _ h9 => h9) rfl dX7_comer_82 ?_
      refine lv_iload_n hx hb dX7_comer_85 rfl (lv_at hl 1 rfl) ?_
      obtain ⟨h11, hf⟩ := ck_use hf
      refine z_iald hx hb hK hP 6 rfl h11 dX7_comer_86 ?_
      obtain ⟨rfl, rfl⟩ := so2 hf
      exact ret_i hx hb hr hlocks hK hP hD hS dX7_comer_87
    have hf := if_f c10 hf
    by_cases c12 : p2 = 4
    · have hf := if_t c12 hf
      refine z_tin (K := 4) hx hb c12 dX7_comer_15 ⟨rfl, by decide, by decide⟩ (tgt := 88) (by decide) ?_
      refine lv_aload_n hx hb dX7_comer_88 rfl (lv_at hl 0 rfl) ?_
      refine va_get (D := D) (ci := 7) (v := .ref (a1 7)) (C := RX7) (T := TX7) (N := 33) hx hb hts iX7 hown hK hP 0 rfl rfl 6 (by decide) (hts _ aw742) (fun _ h9 => h9) rfl dX7_comer_89 ?_
      refine lv_iload_n hx hb dX7_comer_92 rfl (lv_at hl 1 rfl) ?_
      obtain ⟨h13, hf⟩ := ck_use hf
      refine z_iald hx hb hK hP 7 rfl h13 dX7_comer_93 ?_
      obtain ⟨rfl, rfl⟩ := so2 hf
      exact ret_i hx hb hr hlocks hK hP hD hS dX7_comer_94
    have hf := if_f c12 hf
    by_cases c14 : p2 = 5
    · have hf := if_t c14 hf
      refine z_tin (K := 5) hx hb c14 dX7_comer_15 ⟨rfl, by decide, by decide⟩ (tgt := 95) (by decide) ?_
      refine lv_aload_n hx hb dX7_comer_95 rfl (lv_at hl 0 rfl) ?_
      refine va_get (D := D) (ci := 7) (v := .ref (a1 8)) (C := RX7) (T := TX7) (N := 33) hx hb hts iX7 hown hK hP 0 rfl rfl 7 (by decide) (hts _ aw743) (fun _ h9 => h9) rfl dX7_comer_96 ?_
      refine lv_iload_n hx hb dX7_comer_99 rfl (lv_at hl 1 rfl) ?_
      obtain ⟨h15, hf⟩ := ck_use hf
      refine z_iald hx hb hK hP 8 rfl h15 dX7_comer_100 ?_
      obtain ⟨rfl, rfl⟩ := so2 hf
      exact ret_i hx hb hr hlocks hK hP hD hS dX7_comer_101
    have hf := if_f c14 hf
    by_cases c16 : p2 = 6
    · have hf := if_t c16 hf
      refine z_tin (K := 6) hx hb c16 dX7_comer_15 ⟨rfl, by decide, by decide⟩ (tgt := 102) (by decide) ?_
      refine lv_aload_n hx hb dX7_comer_102 rfl (lv_at hl 0 rfl) ?_
      refine va_get (D := D) (ci := 7) (v := .ref (a1 9)) (C := RX7) (T := TX7) (N := 33) hx hb hts iX7 hown hK hP 0 rfl rfl 8 (by decide) (hts _ aw744) (fun _ h9 => h9) rfl dX7_comer_103 ?_
      refine lv_iload_n hx hb dX7_comer_106 rfl (lv_at hl 1 rfl) ?_
      obtain ⟨h17, hf⟩ := ck_use hf
      refine z_iald hx hb hK hP 9 rfl h17 dX7_comer_107 ?_
      obtain ⟨rfl, rfl⟩ := so2 hf
      exact ret_i hx hb hr hlocks hK hP hD hS dX7_comer_108
    have hf := if_f c16 hf
    by_cases c18 : p2 = 7
    · have hf := if_t c18 hf
      refine z_tin (K := 7) hx hb c18 dX7_comer_15 ⟨rfl, by decide, by decide⟩ (tgt := 109) (by decide) ?_
      refine lv_aload_n hx hb dX7_comer_109 rfl (lv_at hl 0 rfl) ?_
      refine lv_iload_n hx hb dX7_comer_110 rfl (lv_at hl 1 rfl) ?_
      refine lv_aload_n hx hb dX7_comer_111 rfl (lv_at hl 0 rfl) ?_
      refine va_get (D := D) (ci := 7) (v := .ref (a1 3)) (C := RX7) (T := TX7) (N := 33) hx hb hts iX7 hown hK hP 0 rfl rfl 2 (by decide) (hts _ aw738) (fun _ h9 => h9) rfl dX7_comer_112 ?_
      refine lv_iload_n hx hb dX7_comer_115 rfl (lv_at hl 1 rfl) ?_
      obtain ⟨h19, hf⟩ := ck_use hf
      refine z_iald hx hb hK hP 3 rfl h19 dX7_comer_116 ?_
      obtain ⟨r20, q21, hf⟩ := bd_use hf
      have hfo : Foc (WMod z a1 m1) (WMod z a1 m1) (WMod z a1 m1) (WMod z a1 m1) := foc_all
      refine z_goI (ws1 := (WMod z a1 m1)) (va_runV (As := [.int p1, .int (m1 3 p1.toNatClampNeg)]) (rest := []) ⟨hx, hb, hml, hown, hts⟩ (tX7_upTo l D z tt a1 m1 p1 (m1 3 p1.toNatClampNeg) fu r20 q21 _) (cwV 2 hts (gV4 aw920 aw922 aw14 aw52 aw923) rfl rfl rfl (by decide +kernel) ⟨Nat.le_of_ble_eq_true rfl, Nat.le_of_ble_eq_true rfl⟩) (z_preV hK hP hD hS hA hT hN hfo (va_recv hK hP (ci := 7) (q0 := 0) rfl rfl)) rfl rfl hl.1 rfl (lv_room (Nat.le_of_ble_eq_true rfl)) dX7_comer_117 ⟨Nat.zero_le _, Nat.zero_le _⟩) hP hD hS hA hfo (fun H locs hP hD hS => ?_)
      obtain ⟨rfl, rfl⟩ := so2 hf
      exact ret_i hx hb hr hlocks hK hP hD hS dX7_comer_120
    have hf := if_f c18 hf
    refine lv_tableOut (tgt := 121) hx hb dX7_comer_15 (by have qc4 := lv_neT c4 (show (0 : Int32).toInt = 0 from by decide); have qc6 := lv_neT c6 (show (1 : Int32).toInt = 1 from by decide); have qc8 := lv_neT c8 (show (2 : Int32).toInt = 2 from by decide); have qc10 := lv_neT c10 (show (3 : Int32).toInt = 3 from by decide); have qc12 := lv_neT c12 (show (4 : Int32).toInt = 4 from by decide); have qc14 := lv_neT c14 (show (5 : Int32).toInt = 5 from by decide); have qc16 := lv_neT c16 (show (6 : Int32).toInt = 6 from by decide); have qc18 := lv_neT c18 (show (7 : Int32).toInt = 7 from by decide); omega) (by decide) ?_
    refine lv_aload_n hx hb dX7_comer_121 rfl (lv_at hl 0 rfl) ?_
    refine lv_bipush (v := (-2)) hx hb dX7_comer_122 (by decide) ?_
    obtain ⟨r22, y23, q24, hf⟩ := bd2_use hf
    have hfo : Foc (WMod z a1 m1) (WMod z a1 m1) (WMod z a1 y23) (WMod z a1 y23) := foc_all
    refine z_goI (ws1 := (WMod z a1 y23)) (va_runV (As := [.int (-2)]) (rest := []) ⟨hx, hb, hml, hown, hts⟩ (tX7_no l D z tt a1 m1 (-2) fu r22 y23 q24 _) (cwV 1 hts (gV4 aw843 aw845 aw1 aw52 aw846) rfl rfl rfl (by decide +kernel) ⟨Nat.le_of_ble_eq_true rfl, Nat.le_of_ble_eq_true rfl⟩) (z_preV hK hP hD hS hA hT hN hfo (va_recv hK hP (ci := 7) (q0 := 0) rfl rfl)) rfl rfl hl.1 rfl (lv_room (Nat.le_of_ble_eq_true rfl)) dX7_comer_124 ⟨Nat.zero_le _, Nat.zero_le _⟩) hP hD hS hA hfo (fun H locs hP hD hS => ?_)
    obtain ⟨rfl, rfl⟩ := so2 hf
    exact ret_i hx hb hr hlocks hK hP hD hS dX7_comer_127
  · have hf := if_t c3 hf
    refine lv_aload_n hx hb dX7_comer_8 rfl (lv_at hl 0 rfl) ?_
    refine lv_iconst (v := (-1)) hx hb dX7_comer_9 (by decide) ?_
    obtain ⟨r25, y26, q27, hf⟩ := bd2_use hf
    have hfo : Foc (WMod z a1 m1) (WMod z a1 m1) (WMod z a1 y26) (WMod z a1 y26) := foc_all
    refine z_goI (ws1 := (WMod z a1 y26)) (va_runV (As := [.int (-1)]) (rest := []) ⟨hx, hb, hml, hown, hts⟩ (tX7_no l D z tt a1 m1 (-1) fu r25 y26 q27 _) (cwV 1 hts (gV4 aw843 aw845 aw1 aw52 aw846) rfl rfl rfl (by decide +kernel) ⟨Nat.le_of_ble_eq_true rfl, Nat.le_of_ble_eq_true rfl⟩) (z_preV hK hP hD hS hA hT hN hfo (va_recv hK hP (ci := 7) (q0 := 0) rfl rfl)) rfl rfl hl.1 rfl (lv_room (Nat.le_of_ble_eq_true rfl)) dX7_comer_10 ⟨Nat.zero_le _, Nat.zero_le _⟩) hP hD hS hA hfo (fun H locs hP hD hS => ?_)
    obtain ⟨rfl, rfl⟩ := so2 hf
    exact ret_i hx hb hr hlocks hK hP hD hS dX7_comer_13
def pX7_kind (fu : Nat) (m1 : Mem) (p1 : Int32) (p2 : Int32) (p3 : Int32) : Option (Int32 × Mem) :=
  bd (pX7_isComer fu m1 p1) fun r1 =>
  jn1 (fun (x3 : Int32) =>
    if x3 = 0 then
      ck p1 8 <|
      ck p1 8 <|
      lt' (((10 * (m1 3 p1.toNatClampNeg)) + (m1 4 p1.toNatClampNeg)) : Int32) fun x8 =>
      ck p1 8 <|
      lt' (up2 m1 3 p1.toNatClampNeg p2) fun y9 =>
      ck p1 8 <|
      lt' (up2 y9 4 p1.toNatClampNeg p3) fun y11 =>
      some (x8, y11)
    else
      bd2 (pX7_no fu m1 x3) fun r13 y14 =>
      some (r13, y14)) fun k4 =>
  if r1 = 0 then
    k4 (-1)
  else
    bd (pX7_isIn fu p2 0 6) fun r17 =>
    if r17 = 0 then
      k4 (-2)
    else
      bd (pX7_bound fu p3 0 9) fun r20 =>
      k4 r20
set_option maxHeartbeats 4000000 in
set_option maxRecDepth 100000 in
theorem tX7_kind (l : Launch) (D : va_G) (z tt : Nat → Nat) (a1 : Nat → Nat) (m1 : Mem) (p1 : Int32) (p2 : Int32) (p3 : Int32) (fu : Nat) (rr : Int32) (m1' : Mem) (hf : pX7_kind fu m1 p1 p2 p3 = some (rr, m1')) : MetI l yX7_kind wsX7_kind ({ frames := 1, cells := 0, slots := 0, locals := 22 } : Room) D z tt ([.ref (a1 0), .int p1, .int p2, .int p3] : List Value) (WMod z a1 m1) rr (WMod z a1 m1') := by
  intro sz
  refine Met.ofW (cc := cX7_kind) (maxL := 6) (ret := (some .int)) (by decide) rfl ?_
  intro p e s m args below meth c s₁ B hml hv
  obtain ⟨rfl, hsz, hP, hK, hD0, hT, hN⟩ := hv
  have hx := B.exec
  have hb := B.bytes
  have hr := B.returns
  have hts : ∀ w ∈ wsA, w.before ([.ref (a1 0), .int p1, .int p2, .int p3] : List Value).toArray s = true := fun w h => atoms_spec (ws := wsX7_kind) B.pre w (List.mem_cons_of_mem _ h)
  have hown : s.vm.findClass RX7 = some m.cls := findClass_of_methodNamed B.named
  have hlocks := B.notSynchronized
  subst hsz
  have hD := hD0.self (sz := s.heap.size)
  generalize hAe : va_A (WMod z a1 m1) s.heap.size = A at hD hT ⊢
  have hA : ∀ q : Nat, s.heap.size ≤ q → A q := fun q h => by rw [← hAe]; exact Or.inr h
  have hS : va_S A s.heap s.heap [] := va_S.rf
  have hl := lv_entry ([.ref (a1 0), .int p1, .int p2, .int p3] : List Value) (n := 6) (Nat.le_of_ble_eq_true rfl)
  rw [lg_entry_eq]
  generalize (lg_sl ([.ref (a1 0), .int p1, .int p2, .int p3] : List Value) ++ List.replicate (6 - (lg_sl ([.ref (a1 0), .int p1, .int p2, .int p3] : List Value)).length) Slot.unset).toArray = ls at hl ⊢
  have hl : lv_has ls 6 [(0, .ref (a1 0)), (1, .int p1), (2, .int p2), (3, .int p3)] := hl
  unfold pX7_kind at hf
  refine lv_aload_n hx hb dX7_kind_0 rfl (lv_at hl 0 rfl) ?_
  refine lv_iload_n hx hb dX7_kind_1 rfl (lv_at hl 1 rfl) ?_
  obtain ⟨r1, q2, hf⟩ := bd_use hf
  have hfo : Foc (WMod z a1 m1) (WMod z a1 m1) (WMod z a1 m1) (WMod z a1 m1) := foc_all
  refine z_goI (ws1 := (WMod z a1 m1)) (va_runV (As := [.int p1]) (rest := []) ⟨hx, hb, hml, hown, hts⟩ (tX7_isComer l D z tt a1 m1 p1 fu r1 q2 _) (cwV 1 hts (gV4 aw904 aw906 aw13 aw52 aw907) rfl rfl rfl (by decide +kernel) ⟨Nat.le_of_ble_eq_true rfl, Nat.le_of_ble_eq_true rfl⟩) (z_preV hK hP hD hS hA hT hN hfo (va_recv hK hP (ci := 7) (q0 := 0) rfl rfl)) rfl rfl hl.1 rfl (lv_room (Nat.le_of_ble_eq_true rfl)) dX7_kind_2 ⟨Nat.zero_le _, Nat.zero_le _⟩) hP hD hS hA hfo (fun H locs hP hD hS => ?_)
  obtain ⟨k4, ek4, hf⟩ := jn1_use hf
  have B34_k4 : ∀ (x3 : Int32) (H : Heap) (locs : List Loc), va_P D vwCl (WMod z a1 m1) H → va_D A (WMod z a1 m1) → va_S A s.heap H locs → ∀ (ls : Array Slot), lv_has ls 6 [(0, .ref (a1 0)), (1, .int p1), (2, .int p2), (3, .int p3)] → k4 x3 = some (rr, m1') → GI p l e (headSpec wsX7_kind ({ frames := 1, cells := 0, slots := 0, locals := 22 } : Room)).room s m ([.ref (a1 0), .int p1, .int p2, .int p3] : List Value).toArray below meth c A D z rr (WMod z a1 m1') H locs (F0 m 34 ls [.int x3]) := by
    intro x3 H locs hP hD hS ls hl hf
    have hf := jn1_ap ek4 hf
    refine lv_istore (lv' := [(4, .int x3), (0, .ref (a1 0)), (1, .int p1), (2, .int p2), (3, .int p3)]) hx hb dX7_kind_34 hl (by decide) rfl (fun ls hl => ?_)
    refine lv_iload hx hb dX7_kind_36 (lv_at hl 0 rfl) ?_
    refine lv_if_eq (tgt := 48) hx hb dX7_kind_38 (by decide) (fun c5 => ?_) (fun c5 => ?_)
    · have hf := if_t c5 hf
      refine lv_bipush (v := 10) hx hb dX7_kind_48 (by decide) ?_
      refine lv_aload_n hx hb dX7_kind_50 rfl (lv_at hl 1 rfl) ?_
      refine va_get (D := D) (ci := 7) (v := .ref (a1 3)) (C := RX7) (T := TX7) (N := 33) hx hb hts iX7 hown hK hP 0 rfl rfl 2 (by decide) (hts _ aw738) (fun _ h9 => h9) rfl dX7_kind_51 ?_
      refine lv_iload_n hx hb dX7_kind_54 rfl (lv_at hl 2 rfl) ?_
      obtain ⟨h6, hf⟩ := ck_use hf
      refine z_iald hx hb hK hP 3 rfl h6 dX7_kind_55 ?_
      refine lv_imul hx hb dX7_kind_56 ?_
      refine lv_aload_n hx hb dX7_kind_57 rfl (lv_at hl 1 rfl) ?_
      refine va_get (D := D) (ci := 7) (v := .ref (a1 4)) (C := RX7) (T := TX7) (N := 33) hx hb hts iX7 hown hK hP 0 rfl rfl 3 (by decide) (hts _ aw739) (fun _ h9 => h9) rfl dX7_kind_58 ?_
      refine lv_iload_n hx hb dX7_kind_61 rfl (lv_at hl 2 rfl) ?_
      obtain ⟨h7, hf⟩ := ck_use hf
      refine z_iald hx hb hK hP 4 rfl h7 dX7_kind_62 ?_
      refine lv_iadd hx hb dX7_kind_63 ?_
      refine lv_topi (fun x8 ex8 => ?_)
      have hf := lt_use ex8 hf
      refine lv_istore (lv' := [(5, .int x8), (4, .int x3), (0, .ref (a1 0)), (1, .int p1), (2, .int p2), (3, .int p3)]) hx hb dX7_kind_64 hl (by decide) rfl (fun ls hl => ?_)
      refine lv_aload_n hx hb dX7_kind_66 rfl (lv_at hl 2 rfl) ?_
      refine va_get (D := D) (ci := 7) (v := .ref (a1 3)) (C := RX7) (T := TX7) (N := 33) hx hb hts iX7 hown hK hP 0 rfl rfl 2 (by decide) (hts _ aw738) (fun _ h9 => h9) rfl dX7_kind_67 ?_
      refine lv_iload_n hx hb dX7_kind_70 rfl (lv_at hl 3 rfl) ?_
      refine lv_iload_n hx hb dX7_kind_71 rfl (lv_at hl 4 rfl) ?_
      obtain ⟨h10, hf⟩ := ck_use hf
      refine z_iast hx hb hK hP hD hS 3 rfl h10 dX7_kind_72 (fun (w9 : Mem) => (WMod z a1 w9)) (up2 m1 3 p1.toNatClampNeg p2) rfl (fun y9 ey9 H locs hP hD hS => ?_)
      have hf := lt_use ey9 hf
      refine lv_aload_n hx hb dX7_kind_73 rfl (lv_at hl 2 rfl) ?_
      refine va_get (D := D) (ci := 7) (v := .ref (a1 4)) (C := RX7) (T := TX7) (N := 33) hx hb hts iX7 hown hK hP 0 rfl rfl 3 (by decide) (hts _ aw739) (fun _ h9 => h9) rfl dX7_kind_74 ?_
      refine lv_iload_n hx hb dX7_kind_77 rfl (lv_at hl 3 rfl) ?_
      refine lv_iload_n hx hb dX7_kind_78 rfl (lv_at hl 5 rfl) ?_
      obtain ⟨h12, hf⟩ := ck_use hf
      refine z_iast hx hb hK hP hD hS 4 rfl h12 dX7_kind_79 (fun (w9 : Mem) => (WMod z a1 w9)) (up2 y9 4 p1.toNatClampNeg p3) rfl (fun y11 ey11 H locs hP hD hS => ?_)
      have hf := lt_use ey11 hf
      refine lv_iload hx hb dX7_kind_80 (lv_at hl 0 rfl) ?_
      obtain ⟨rfl, rfl⟩ := so2 hf
      exact ret_i hx hb hr hlocks hK hP hD hS dX7_kind_82
    · have hf := if_f c5 hf
      refine lv_aload_n hx hb dX7_kind_41 rfl (lv_at hl 1 rfl) ?_
      refine lv_iload hx hb dX7_kind_42 (lv_at hl 0 rfl) ?_
      obtain ⟨r13, y14, q15, hf⟩ := bd2_use hf
      have hfo : Foc (WMod z a1 m1) (WMod z a1 m1) (WMod z a1 y14) (WMod z a1 y14) := foc_all
      refine z_goI (ws1 := (WMod z a1 y14)) (va_runV (As := [.int x3]) (rest := []) ⟨hx, hb, hml, hown, hts⟩ (tX7_no l D z tt a1 m1 x3 fu r13 y14 q15 _) (cwV 1 hts (gV4 aw843 aw845 aw1 aw52 aw846) rfl rfl rfl (by decide +kernel) ⟨Nat.le_of_ble_eq_true rfl, Nat.le_of_ble_eq_true rfl⟩) (z_preV hK hP hD hS hA hT hN hfo (va_recv hK hP (ci := 7) (q0 := 0) rfl rfl)) rfl rfl hl.1 rfl (lv_room (Nat.le_of_ble_eq_true rfl)) dX7_kind_44 ⟨Nat.zero_le _, Nat.zero_le _⟩) hP hD hS hA hfo (fun H locs hP hD hS => ?_)
      obtain ⟨rfl, rfl⟩ := so2 hf
      exact ret_i hx hb hr hlocks hK hP hD hS dX7_kind_47
  refine lv_if_ne (tgt := 12) hx hb dX7_kind_5 (by decide) (fun c16 => ?_) (fun c16 => ?_)
  · have hf := if_f c16 hf
    refine lv_iload_n hx hb dX7_kind_12 rfl (lv_at hl 2 rfl) ?_
    refine lv_iconst (v := 0) hx hb dX7_kind_13 (by decide) ?_
    refine lv_bipush (v := 6) hx hb dX7_kind_14 (by decide) ?_
    obtain ⟨r17, q18, hf⟩ := bd_use hf
    have hfo : Foc (WMod z a1 m1) ([] : va_W) (WMod z a1 m1) ([] : va_W) := foc_nil
    refine z_goI (ws1 := (WMod z a1 m1)) (va_runS (As := [.int p2, .int 0, .int 6]) (rest := []) ⟨hx, hb, hml, hown, hts⟩ (tX7_isIn l D z tt  p2 0 6 fu r17 q18 _) (va_cwS 3 hts (gS3 aw867 aw868 aw52 aw869) rfl rfl rfl (by decide +kernel) ⟨Nat.le_of_ble_eq_true rfl, Nat.le_of_ble_eq_true rfl⟩) (z_preS hK hP hD hS hA hT hN hfo) rfl rfl hl.1 rfl (lv_room (Nat.le_of_ble_eq_true rfl)) dX7_kind_16 ⟨Nat.zero_le _, Nat.zero_le _⟩) hP hD hS hA hfo (fun H locs hP hD hS => ?_)
    refine lv_if_ne (tgt := 27) hx hb dX7_kind_19 (by decide) (fun c19 => ?_) (fun c19 => ?_)
    · have hf := if_f c19 hf
      refine lv_iload_n hx hb dX7_kind_27 rfl (lv_at hl 3 rfl) ?_
      refine lv_iconst (v := 0) hx hb dX7_kind_28 (by decide) ?_
      refine lv_bipush (v := 9) hx hb dX7_kind_29 (by decide) ?_
      obtain ⟨r20, q21, hf⟩ := bd_use hf
      have hfo : Foc (WMod z a1 m1) ([] : va_W) (WMod z a1 m1) ([] : va_W) := foc_nil
      refine z_goI (ws1 := (WMod z a1 m1)) (va_runS (As := [.int p3, .int 0, .int 9]) (rest := []) ⟨hx, hb, hml, hown, hts⟩ (tX7_bound l D z tt  p3 0 9 fu r20 q21 _) (va_cwS 3 hts (gS3 aw840 aw841 aw52 aw842) rfl rfl rfl (by decide +kernel) ⟨Nat.le_of_ble_eq_true rfl, Nat.le_of_ble_eq_true rfl⟩) (z_preS hK hP hD hS hA hT hN hfo) rfl rfl hl.1 rfl (lv_room (Nat.le_of_ble_eq_true rfl)) dX7_kind_31 ⟨Nat.zero_le _, Nat.zero_le _⟩) hP hD hS hA hfo (fun H locs hP hD hS => ?_)
      exact B34_k4 _ _ _ hP hD hS _ (lv_sub hl [0, 1, 2, 3] rfl) hf
    · have hf := if_t c19 hf
      refine lv_bipush (v := (-2)) hx hb dX7_kind_22 (by decide) ?_
      refine lv_goto (tgt := 34) hx hb dX7_kind_24 (by decide) ?_
      exact B34_k4 _ _ _ hP hD hS _ (lv_sub hl [0, 1, 2, 3] rfl) hf
  · have hf := if_t c16 hf
    refine lv_iconst (v := (-1)) hx hb dX7_kind_8 (by decide) ?_
    refine lv_goto (tgt := 34) hx hb dX7_kind_9 (by decide) ?_
    exact B34_k4 _ _ _ hP hD hS _ (lv_sub hl [0, 1, 2, 3] rfl) hf
def pX7_kettle (fu : Nat) (m1 : Mem) (p1 : Int32) (p2 : Int32) : Option (Int32 × Mem) :=
  bd (pX7_isIn fu p1 0 ((m1 2 7) - 1)) fun r1 =>
  if r1 = 0 then
    bd2 (pX7_no fu m1 (-1)) fun r18 y19 =>
    some (r18, y19)
  else
    if p2 = 0 then
      ck p1 2 <|
      some ((m1 11 p1.toNatClampNeg), m1)
    else
    if p2 = 1 then
      ck p1 2 <|
      some ((m1 12 p1.toNatClampNeg), m1)
    else
    if p2 = 2 then
      ck p1 2 <|
      some ((m1 13 p1.toNatClampNeg), m1)
    else
    if p2 = 3 then
      bd (pX7_isFree fu m1 p1) fun r11 =>
      if r11 = 0 then
        ck p1 2 <|
        some (((m1 14 p1.toNatClampNeg) - (m1 0 16)), m1)
      else
        some (0, m1)
    else
    bd2 (pX7_no fu m1 (-2)) fun r15 y16 =>
    some (r15, y16)
set_option maxHeartbeats 4000000 in
set_option maxRecDepth 100000 in
theorem tX7_kettle (l : Launch) (D : va_G) (z tt : Nat → Nat) (a1 : Nat → Nat) (m1 : Mem) (p1 : Int32) (p2 : Int32) (fu : Nat) (rr : Int32) (m1' : Mem) (hf : pX7_kettle fu m1 p1 p2 = some (rr, m1')) : MetI l yX7_kettle wsX7_kettle ({ frames := 1, cells := 0, slots := 0, locals := 22 } : Room) D z tt ([.ref (a1 0), .int p1, .int p2] : List Value) (WMod z a1 m1) rr (WMod z a1 m1') := by
  intro sz
  refine Met.ofW (cc := cX7_kettle) (maxL := 3) (ret := (some .int)) (by decide) rfl ?_
  intro p e s m args below meth c s₁ B hml hv
  obtain ⟨rfl, hsz, hP, hK, hD0, hT, hN⟩ := hv
  have hx := B.exec
  have hb := B.bytes
  have hr := B.returns
  have hts : ∀ w ∈ wsA, w.before ([.ref (a1 0), .int p1, .int p2] : List Value).toArray s = true := fun w h => atoms_spec (ws := wsX7_kettle) B.pre w (List.mem_cons_of_mem _ h)
  have hown : s.vm.findClass RX7 = some m.cls := findClass_of_methodNamed B.named
  have hlocks := B.notSynchronized
  subst hsz
  have hD := hD0.self (sz := s.heap.size)
  generalize hAe : va_A (WMod z a1 m1) s.heap.size = A at hD hT ⊢
  have hA : ∀ q : Nat, s.heap.size ≤ q → A q := fun q h => by rw [← hAe]; exact Or.inr h
  have hS : va_S A s.heap s.heap [] := va_S.rf
  have hl := lv_entry ([.ref (a1 0), .int p1, .int p2] : List Value) (n := 3) (Nat.le_of_ble_eq_true rfl)
  rw [lg_entry_eq]
  generalize (lg_sl ([.ref (a1 0), .int p1, .int p2] : List Value) ++ List.replicate (3 - (lg_sl ([.ref (a1 0), .int p1, .int p2] : List Value)).length) Slot.unset).toArray = ls at hl ⊢
  have hl : lv_has ls 3 [(0, .ref (a1 0)), (1, .int p1), (2, .int p2)] := hl
  unfold pX7_kettle at hf
  refine lv_iload_n hx hb dX7_kettle_0 rfl (lv_at hl 1 rfl) ?_
  refine lv_iconst (v := 0) hx hb dX7_kettle_1 (by decide) ?_
  refine lv_aload_n hx hb dX7_kettle_2 rfl (lv_at hl 0 rfl) ?_
  refine va_get (D := D) (ci := 7) (v := .ref (a1 2)) (C := RX7) (T := TX7) (N := 33) hx hb hts iX7 hown hK hP 0 rfl rfl 1 (by decide) (hts _ aw737) (fun _ h9 => h9) rfl dX7_kettle_3 ?_
  refine lv_bipush (v := 7) hx hb dX7_kettle_6 (by decide) ?_
  refine z_ialdc hx hb hK hP 2 rfl (i := 7) (k := 7) (by decide) (Nat.le_of_ble_eq_true rfl) dX7_kettle_8 ?_
  refine lv_iconst (v := 1) hx hb dX7_kettle_9 (by decide) ?_
  refine lv_isub hx hb dX7_kettle_10 ?_
  obtain ⟨r1, q2, hf⟩ := bd_use hf
  have hfo : Foc (WMod z a1 m1) ([] : va_W) (WMod z a1 m1) ([] : va_W) := foc_nil
  refine z_goI (ws1 := (WMod z a1 m1)) (va_runS (As := [.int p1, .int 0, .int ((m1 2 7) - 1)]) (rest := []) ⟨hx, hb, hml, hown, hts⟩ (tX7_isIn l D z tt  p1 0 ((m1 2 7) - 1) fu r1 q2 _) (va_cwS 3 hts (gS3 aw867 aw868 aw52 aw869) rfl rfl rfl (by decide +kernel) ⟨Nat.le_of_ble_eq_true rfl, Nat.le_of_ble_eq_true rfl⟩) (z_preS hK hP hD hS hA hT hN hfo) rfl rfl hl.1 rfl (lv_room (Nat.le_of_ble_eq_true rfl)) dX7_kettle_11 ⟨Nat.zero_le _, Nat.zero_le _⟩) hP hD hS hA hfo (fun H locs hP hD hS => ?_)
  refine lv_if_ne (tgt := 23) hx hb dX7_kettle_14 (by decide) (fun c3 => ?_) (fun c3 => ?_)
  · have hf := if_f c3 hf
    refine lv_iload_n hx hb dX7_kettle_23 rfl (lv_at hl 2 rfl) ?_
    by_cases c4 : p2 = 0
    · have hf := if_t c4 hf
      refine z_tin (K := 0) hx hb c4 dX7_kettle_24 ⟨rfl, by decide, by decide⟩ (tgt := 56) (by decide) ?_
      refine lv_aload_n hx hb dX7_kettle_56 rfl (lv_at hl 0 rfl) ?_
      refine va_get (D := D) (ci := 7) (v := .ref (a1 11)) (C := RX7) (T := TX7) (N := 33) hx hb hts iX7 hown hK hP 0 rfl rfl 10 (by decide) (hts _ aw746) (fun _ h9 => h9) rfl dX7_kettle_57 ?_
      refine lv_iload_n hx hb dX7_kettle_60 rfl (lv_at hl 1 rfl) ?_
      obtain ⟨h5, hf⟩ := ck_use hf
      refine z_iald hx hb hK hP 11 rfl h5 dX7_kettle_61 ?_
      obtain ⟨rfl, rfl⟩ := so2 hf
      exact ret_i hx hb hr hlocks hK hP hD hS dX7_kettle_62
    have hf := if_f c4 hf
    by_cases c6 : p2 = 1
    · have hf := if_t c6 hf
      refine z_tin (K := 1) hx hb c6 dX7_kettle_24 ⟨rfl, by decide, by decide⟩ (tgt := 63) (by decide) ?_
      refine lv_aload_n hx hb dX7_kettle_63 rfl (lv_at hl 0 rfl) ?_
      refine va_get (D := D) (ci := 7) (v := .ref (a1 12)) (C := RX7) (T := TX7) (N := 33) hx hb hts iX7 hown hK hP 0 rfl rfl 11 (by decide) (hts _ aw747) (fun _ h9 => h9) rfl dX7_kettle_64 ?_
      refine lv_iload_n hx hb dX7_kettle_67 rfl (lv_at hl 1 rfl) ?_
      obtain ⟨h7, hf⟩ := ck_use hf
      refine z_iald hx hb hK hP 12 rfl h7 dX7_kettle_68 ?_
      obtain ⟨rfl, rfl⟩ := so2 hf
      exact ret_i hx hb hr hlocks hK hP hD hS dX7_kettle_69
    have hf := if_f c6 hf
    by_cases c8 : p2 = 2
    · have hf := if_t c8 hf
      refine z_tin (K := 2) hx hb c8 dX7_kettle_24 ⟨rfl, by decide, by decide⟩ (tgt := 70) (by decide) ?_
      refine lv_aload_n hx hb dX7_kettle_70 rfl (lv_at hl 0 rfl) ?_
      refine va_get (D := D) (ci := 7) (v := .ref (a1 13)) (C := RX7) (T := TX7) (N := 33) hx hb hts iX7 hown hK hP 0 rfl rfl 12 (by decide) (hts _ aw748) (fun _ h9 => h9) rfl dX7_kettle_71 ?_
      refine lv_iload_n hx hb dX7_kettle_74 rfl (lv_at hl 1 rfl) ?_
      obtain ⟨h9, hf⟩ := ck_use hf
      refine z_iald hx hb hK hP 13 rfl h9 dX7_kettle_75 ?_
      obtain ⟨rfl, rfl⟩ := so2 hf
      exact ret_i hx hb hr hlocks hK hP hD hS dX7_kettle_76
    have hf := if_f c8 hf
    by_cases c10 : p2 = 3
    · have hf := if_t c10 hf
      refine z_tin (K := 3) hx hb c10 dX7_kettle_24 ⟨rfl, by decide, by decide⟩ (tgt := 77) (by decide) ?_
      refine lv_aload_n hx hb dX7_kettle_77 rfl (lv_at hl 0 rfl) ?_
      refine lv_iload_n hx hb dX7_kettle_78 rfl (lv_at hl 1 rfl) ?_
      obtain ⟨r11, q12, hf⟩ := bd_use hf
      have hfo : Foc (WMod z a1 m1) (WMod z a1 m1) (WMod z a1 m1) (WMod z a1 m1) := foc_all
      refine z_goI (ws1 := (WMod z a1 m1)) (va_runV (As := [.int p1]) (rest := []) ⟨hx, hb, hml, hown, hts⟩ (tX7_isFree l D z tt a1 m1 p1 fu r11 q12 _) (cwV 1 hts (gV4 aw944 aw946 aw18 aw52 aw947) rfl rfl rfl (by decide +kernel) ⟨Nat.le_of_ble_eq_true rfl, Nat.le_of_ble_eq_true rfl⟩) (z_preV hK hP hD hS hA hT hN hfo (va_recv hK hP (ci := 7) (q0 := 0) rfl rfl)) rfl rfl hl.1 rfl (lv_room (Nat.le_of_ble_eq_true rfl)) dX7_kettle_79 ⟨Nat.zero_le _, Nat.zero_le _⟩) hP hD hS hA hfo (fun H locs hP hD hS => ?_)
      refine lv_if_eq (tgt := 89) hx hb dX7_kettle_82 (by decide) (fun c13 => ?_) (fun c13 => ?_)
      · have hf := if_t c13 hf
        refine lv_aload_n hx hb dX7_kettle_89 rfl (lv_at hl 0 rfl) ?_
        refine va_get (D := D) (ci := 7) (v := .ref (a1 14)) (C := RX7) (T := TX7) (N := 33) hx hb hts iX7 hown hK hP 0 rfl rfl 13 (by decide) (hts _ aw749) (fun _ h9 => h9) rfl dX7_kettle_90 ?_
        refine lv_iload_n hx hb dX7_kettle_93 rfl (lv_at hl 1 rfl) ?_
        obtain ⟨h14, hf⟩ := ck_use hf
        refine z_iald hx hb hK hP 14 rfl h14 dX7_kettle_94 ?_
        refine lv_aload_n hx hb dX7_kettle_95 rfl (lv_at hl 0 rfl) ?_
        refine va_get (D := D) (ci := 7) (v := .int (m1 0 16)) (C := RX7) (T := TX7) (N := 33) hx hb hts iX7 hown hK hP 0 rfl rfl 16 (by decide) (hts _ aw752) (fun _ h9 => h9) rfl dX7_kettle_96 ?_
        refine lv_isub hx hb dX7_kettle_99 ?_
        obtain ⟨rfl, rfl⟩ := so2 hf
        exact ret_i hx hb hr hlocks hK hP hD hS dX7_kettle_100
      · have hf := if_f c13 hf
        refine lv_iconst (v := 0) hx hb dX7_kettle_85 (by decide) ?_
        refine lv_goto (tgt := 100) hx hb dX7_kettle_86 (by decide) ?_
        obtain ⟨rfl, rfl⟩ := so2 hf
        exact ret_i hx hb hr hlocks hK hP hD hS dX7_kettle_100
    have hf := if_f c10 hf
    refine lv_tableOut (tgt := 101) hx hb dX7_kettle_24 (by have qc4 := lv_neT c4 (show (0 : Int32).toInt = 0 from by decide); have qc6 := lv_neT c6 (show (1 : Int32).toInt = 1 from by decide); have qc8 := lv_neT c8 (show (2 : Int32).toInt = 2 from by decide); have qc10 := lv_neT c10 (show (3 : Int32).toInt = 3 from by decide); omega) (by decide) ?_
    refine lv_aload_n hx hb dX7_kettle_101 rfl (lv_at hl 0 rfl) ?_
    refine lv_bipush (v := (-2)) hx hb dX7_kettle_102 (by decide) ?_
    obtain ⟨r15, y16, q17, hf⟩ := bd2_use hf
    have hfo : Foc (WMod z a1 m1) (WMod z a1 m1) (WMod z a1 y16) (WMod z a1 y16) := foc_all
    refine z_goI (ws1 := (WMod z a1 y16)) (va_runV (As := [.int (-2)]) (rest := []) ⟨hx, hb, hml, hown, hts⟩ (tX7_no l D z tt a1 m1 (-2) fu r15 y16 q17 _) (cwV 1 hts (gV4 aw843 aw845 aw1 aw52 aw846) rfl rfl rfl (by decide +kernel) ⟨Nat.le_of_ble_eq_true rfl, Nat.le_of_ble_eq_true rfl⟩) (z_preV hK hP hD hS hA hT hN hfo (va_recv hK hP (ci := 7) (q0 := 0) rfl rfl)) rfl rfl hl.1 rfl (lv_room (Nat.le_of_ble_eq_true rfl)) dX7_kettle_104 ⟨Nat.zero_le _, Nat.zero_le _⟩) hP hD hS hA hfo (fun H locs hP hD hS => ?_)
    obtain ⟨rfl, rfl⟩ := so2 hf
    exact ret_i hx hb hr hlocks hK hP hD hS dX7_kettle_107
  · have hf := if_t c3 hf
    refine lv_aload_n hx hb dX7_kettle_17 rfl (lv_at hl 0 rfl) ?_
    refine lv_iconst (v := (-1)) hx hb dX7_kettle_18 (by decide) ?_
    obtain ⟨r18, y19, q20, hf⟩ := bd2_use hf
    have hfo : Foc (WMod z a1 m1) (WMod z a1 m1) (WMod z a1 y19) (WMod z a1 y19) := foc_all
    refine z_goI (ws1 := (WMod z a1 y19)) (va_runV (As := [.int (-1)]) (rest := []) ⟨hx, hb, hml, hown, hts⟩ (tX7_no l D z tt a1 m1 (-1) fu r18 y19 q20 _) (cwV 1 hts (gV4 aw843 aw845 aw1 aw52 aw846) rfl rfl rfl (by decide +kernel) ⟨Nat.le_of_ble_eq_true rfl, Nat.le_of_ble_eq_true rfl⟩) (z_preV hK hP hD hS hA hT hN hfo (va_recv hK hP (ci := 7) (q0 := 0) rfl rfl)) rfl rfl hl.1 rfl (lv_room (Nat.le_of_ble_eq_true rfl)) dX7_kettle_19 ⟨Nat.zero_le _, Nat.zero_le _⟩) hP hD hS hA hfo (fun H locs hP hD hS => ?_)
    obtain ⟨rfl, rfl⟩ := so2 hf
    exact ret_i hx hb hr hlocks hK hP hD hS dX7_kettle_22
def pX7_set (fu : Nat) (m1 : Mem) (p1 : Int32) (p2 : Int32) : Option (Int32 × Mem) :=
  bd (pX7_notSet fu m1 p1 p2) fun r1 =>
  if r1 = 0 then
    ck p1 8 <|
    lt' ((m1 2 p1.toNatClampNeg) : Int32) fun x5 =>
    ck p1 8 <|
    lt' (up2 m1 2 p1.toNatClampNeg p2) fun y6 =>
    some (x5, y6)
  else
    bd2 (pX7_no fu m1 r1) fun r8 y9 =>
    some (r8, y9)
set_option maxHeartbeats 4000000 in
set_option maxRecDepth 100000 in
theorem tX7_set (l : Launch) (D : va_G) (z tt : Nat → Nat) (a1 : Nat → Nat) (m1 : Mem) (p1 : Int32) (p2 : Int32) (fu : Nat) (rr : Int32) (m1' : Mem) (hf : pX7_set fu m1 p1 p2 = some (rr, m1')) : MetI l yX7_set wsX7_set ({ frames := 2, cells := 0, slots := 0, locals := 46 } : Room) D z tt ([.ref (a1 0), .int p1, .int p2] : List Value) (WMod z a1 m1) rr (WMod z a1 m1') := by
  intro sz
  refine Met.ofW (cc := cX7_set) (maxL := 5) (ret := (some .int)) (by decide) rfl ?_
  intro p e s m args below meth c s₁ B hml hv
  obtain ⟨rfl, hsz, hP, hK, hD0, hT, hN⟩ := hv
  have hx := B.exec
  have hb := B.bytes
  have hr := B.returns
  have hts : ∀ w ∈ wsA, w.before ([.ref (a1 0), .int p1, .int p2] : List Value).toArray s = true := fun w h => atoms_spec (ws := wsX7_set) B.pre w (List.mem_cons_of_mem _ h)
  have hown : s.vm.findClass RX7 = some m.cls := findClass_of_methodNamed B.named
  have hlocks := B.notSynchronized
  subst hsz
  have hD := hD0.self (sz := s.heap.size)
  generalize hAe : va_A (WMod z a1 m1) s.heap.size = A at hD hT ⊢
  have hA : ∀ q : Nat, s.heap.size ≤ q → A q := fun q h => by rw [← hAe]; exact Or.inr h
  have hS : va_S A s.heap s.heap [] := va_S.rf
  have hl := lv_entry ([.ref (a1 0), .int p1, .int p2] : List Value) (n := 5) (Nat.le_of_ble_eq_true rfl)
  rw [lg_entry_eq]
  generalize (lg_sl ([.ref (a1 0), .int p1, .int p2] : List Value) ++ List.replicate (5 - (lg_sl ([.ref (a1 0), .int p1, .int p2] : List Value)).length) Slot.unset).toArray = ls at hl ⊢
  have hl : lv_has ls 5 [(0, .ref (a1 0)), (1, .int p1), (2, .int p2)] := hl
  unfold pX7_set at hf
  refine lv_aload_n hx hb dX7_set_0 rfl (lv_at hl 0 rfl) ?_
  refine lv_iload_n hx hb dX7_set_1 rfl (lv_at hl 1 rfl) ?_
  refine lv_iload_n hx hb dX7_set_2 rfl (lv_at hl 2 rfl) ?_
  obtain ⟨r1, q2, hf⟩ := bd_use hf
  have hfo : Foc (WMod z a1 m1) (WMod z a1 m1) (WMod z a1 m1) (WMod z a1 m1) := foc_all
  refine z_goI (ws1 := (WMod z a1 m1)) (va_runV (As := [.int p1, .int p2]) (rest := []) ⟨hx, hb, hml, hown, hts⟩ (tX7_notSet l D z tt a1 m1 p1 p2 fu r1 q2 _) (cwV 2 hts (gV4 aw890 aw892 aw11 aw52 aw893) rfl rfl rfl (by decide +kernel) ⟨Nat.le_of_ble_eq_true rfl, Nat.le_of_ble_eq_true rfl⟩) (z_preV hK hP hD hS hA hT hN hfo (va_recv hK hP (ci := 7) (q0 := 0) rfl rfl)) rfl rfl hl.1 rfl (lv_room (Nat.le_of_ble_eq_true rfl)) dX7_set_3 ⟨Nat.zero_le _, Nat.zero_le _⟩) hP hD hS hA hfo (fun H locs hP hD hS => ?_)
  refine lv_istore_n (lv' := [(3, .int r1), (0, .ref (a1 0)), (1, .int p1), (2, .int p2)]) hx hb dX7_set_6 rfl hl (by decide) rfl (fun ls hl => ?_)
  refine lv_iload_n hx hb dX7_set_7 rfl (lv_at hl 0 rfl) ?_
  refine lv_if_eq (tgt := 17) hx hb dX7_set_8 (by decide) (fun c3 => ?_) (fun c3 => ?_)
  · have hf := if_t c3 hf
    refine lv_aload_n hx hb dX7_set_17 rfl (lv_at hl 1 rfl) ?_
    refine va_get (D := D) (ci := 7) (v := .ref (a1 2)) (C := RX7) (T := TX7) (N := 33) hx hb hts iX7 hown hK hP 0 rfl rfl 1 (by decide) (hts _ aw737) (fun _ h9 => h9) rfl dX7_set_18 ?_
    refine lv_iload_n hx hb dX7_set_21 rfl (lv_at hl 2 rfl) ?_
    obtain ⟨h4, hf⟩ := ck_use hf
    refine z_iald hx hb hK hP 2 rfl h4 dX7_set_22 ?_
    refine lv_topi (fun x5 ex5 => ?_)
    have hf := lt_use ex5 hf
    refine lv_istore (lv' := [(4, .int x5), (3, .int r1), (0, .ref (a1 0)), (1, .int p1), (2, .int p2)]) hx hb dX7_set_23 hl (by decide) rfl (fun ls hl => ?_)
    refine lv_aload_n hx hb dX7_set_25 rfl (lv_at hl 2 rfl) ?_
    refine va_get (D := D) (ci := 7) (v := .ref (a1 2)) (C := RX7) (T := TX7) (N := 33) hx hb hts iX7 hown hK hP 0 rfl rfl 1 (by decide) (hts _ aw737) (fun _ h9 => h9) rfl dX7_set_26 ?_
    refine lv_iload_n hx hb dX7_set_29 rfl (lv_at hl 3 rfl) ?_
    refine lv_iload_n hx hb dX7_set_30 rfl (lv_at hl 4 rfl) ?_
    obtain ⟨h7, hf⟩ := ck_use hf
    refine z_iast hx hb hK hP hD hS 2 rfl h7 dX7_set_31 (fun (w9 : Mem) => (WMod z a1 w9)) (up2 m1 2 p1.toNatClampNeg p2) rfl (fun y6 ey6 H locs hP hD hS => ?_)
    have hf := lt_use ey6 hf
    refine lv_iload hx hb dX7_set_32 (lv_at hl 0 rfl) ?_
    obtain ⟨rfl, rfl⟩ := so2 hf
    exact ret_i hx hb hr hlocks hK hP hD hS dX7_set_34
  · have hf := if_f c3 hf
    refine lv_aload_n hx hb dX7_set_11 rfl (lv_at hl 1 rfl) ?_
    refine lv_iload_n hx hb dX7_set_12 rfl (lv_at hl 0 rfl) ?_
    obtain ⟨r8, y9, q10, hf⟩ := bd2_use hf
    have hfo : Foc (WMod z a1 m1) (WMod z a1 m1) (WMod z a1 y9) (WMod z a1 y9) := foc_all
    refine z_goI (ws1 := (WMod z a1 y9)) (va_runV (As := [.int r1]) (rest := []) ⟨hx, hb, hml, hown, hts⟩ (tX7_no l D z tt a1 m1 r1 fu r8 y9 q10 _) (cwV 1 hts (gV4 aw843 aw845 aw1 aw52 aw846) rfl rfl rfl (by decide +kernel) ⟨Nat.le_of_ble_eq_true rfl, Nat.le_of_ble_eq_true rfl⟩) (z_preV hK hP hD hS hA hT hN hfo (va_recv hK hP (ci := 7) (q0 := 0) rfl rfl)) rfl rfl hl.1 rfl (lv_room (Nat.le_of_ble_eq_true rfl)) dX7_set_13 ⟨Nat.zero_le _, Nat.zero_le _⟩) hP hD hS hA hfo (fun H locs hP hD hS => ?_)
    obtain ⟨rfl, rfl⟩ := so2 hf
    exact ret_i hx hb hr hlocks hK hP hD hS dX7_set_16
def pX7_go (fu : Nat) (m1 : Mem) (p1 : Int32) : Option (Int32 × Mem) :=
  bd (pX7_bound fu p1 1 60) fun r1 =>
  jn1 (fun (x3 : Int32) =>
    if x3 = 0 then
      zl2 (fun g9 (x6 : Int32) (y7 : Mem) =>
        if p1 ≤ x6 then
          some ((y7 0 16), y7)
        else
          bd (pX7_isOver fu y7) fun r12 =>
          if r12 = 0 then
            bd (pX7_goesMinute fu y7) fun y15 =>
            lt' (x6 + 1) fun x17 =>
            g9 x17 y15
          else
            some ((y7 0 16), y7)) fu 0 m1
    else
      bd2 (pX7_no fu m1 x3) fun r18 y19 =>
      some (r18, y19)) fun k4 =>
  if r1 = 0 then
    bd (pX7_isOver fu m1) fun r22 =>
    if r22 = 0 then
      k4 r1
    else
      k4 (-3)
  else
    k4 r1
set_option maxHeartbeats 4000000 in
set_option maxRecDepth 100000 in
theorem tX7_go (l : Launch) (D : va_G) (z tt : Nat → Nat) (a1 : Nat → Nat) (m1 : Mem) (p1 : Int32) (fu : Nat) (rr : Int32) (m1' : Mem) (hf : pX7_go fu m1 p1 = some (rr, m1')) : MetI l yX7_go wsX7_go ({ frames := 6, cells := 0, slots := 0, locals := 136 } : Room) D z tt ([.ref (a1 0), .int p1] : List Value) (WMod z a1 m1) rr (WMod z a1 m1') := by
  intro sz
  refine Met.ofW (cc := cX7_go) (maxL := 4) (ret := (some .int)) (by decide) rfl ?_
  intro p e s m args below meth c s₁ B hml hv
  obtain ⟨rfl, hsz, hP, hK, hD0, hT, hN⟩ := hv
  have hx := B.exec
  have hb := B.bytes
  have hr := B.returns
  have hts : ∀ w ∈ wsA, w.before ([.ref (a1 0), .int p1] : List Value).toArray s = true := fun w h => atoms_spec (ws := wsX7_go) B.pre w (List.mem_cons_of_mem _ h)
  have hown : s.vm.findClass RX7 = some m.cls := findClass_of_methodNamed B.named
  have hlocks := B.notSynchronized
  subst hsz
  have hD := hD0.self (sz := s.heap.size)
  generalize hAe : va_A (WMod z a1 m1) s.heap.size = A at hD hT ⊢
  have hA : ∀ q : Nat, s.heap.size ≤ q → A q := fun q h => by rw [← hAe]; exact Or.inr h
  have hS : va_S A s.heap s.heap [] := va_S.rf
  have hl := lv_entry ([.ref (a1 0), .int p1] : List Value) (n := 4) (Nat.le_of_ble_eq_true rfl)
  rw [lg_entry_eq]
  generalize (lg_sl ([.ref (a1 0), .int p1] : List Value) ++ List.replicate (4 - (lg_sl ([.ref (a1 0), .int p1] : List Value)).length) Slot.unset).toArray = ls at hl ⊢
  have hl : lv_has ls 4 [(0, .ref (a1 0)), (1, .int p1)] := hl
  unfold pX7_go at hf
  refine lv_iload_n hx hb dX7_go_0 rfl (lv_at hl 1 rfl) ?_
  refine lv_iconst (v := 1) hx hb dX7_go_1 (by decide) ?_
  refine lv_bipush (v := 60) hx hb dX7_go_2 (by decide) ?_
  obtain ⟨r1, q2, hf⟩ := bd_use hf
  have hfo : Foc (WMod z a1 m1) ([] : va_W) (WMod z a1 m1) ([] : va_W) := foc_nil
  refine z_goI (ws1 := (WMod z a1 m1)) (va_runS (As := [.int p1, .int 1, .int 60]) (rest := []) ⟨hx, hb, hml, hown, hts⟩ (tX7_bound l D z tt  p1 1 60 fu r1 q2 _) (va_cwS 3 hts (gS3 aw840 aw841 aw52 aw842) rfl rfl rfl (by decide +kernel) ⟨Nat.le_of_ble_eq_true rfl, Nat.le_of_ble_eq_true rfl⟩) (z_preS hK hP hD hS hA hT hN hfo) rfl rfl hl.1 rfl (lv_room (Nat.le_of_ble_eq_true rfl)) dX7_go_4 ⟨Nat.zero_le _, Nat.zero_le _⟩) hP hD hS hA hfo (fun H locs hP hD hS => ?_)
  refine lv_istore_n (lv' := [(2, .int r1), (0, .ref (a1 0)), (1, .int p1)]) hx hb dX7_go_7 rfl hl (by decide) rfl (fun ls hl => ?_)
  refine lv_iload_n hx hb dX7_go_8 rfl (lv_at hl 0 rfl) ?_
  obtain ⟨k4, ek4, hf⟩ := jn1_use hf
  have B22_k4 : ∀ (x3 : Int32) (H : Heap) (locs : List Loc), va_P D vwCl (WMod z a1 m1) H → va_D A (WMod z a1 m1) → va_S A s.heap H locs → ∀ (ls : Array Slot), lv_has ls 4 [(0, .ref (a1 0)), (1, .int p1), (2, .int x3)] → k4 x3 = some (rr, m1') → GI p l e (headSpec wsX7_go ({ frames := 6, cells := 0, slots := 0, locals := 136 } : Room)).room s m ([.ref (a1 0), .int p1] : List Value).toArray below meth c A D z rr (WMod z a1 m1') H locs (F0 m 22 ls []) := by
    intro x3 H locs hP hD hS ls hl hf
    have hf := jn1_ap ek4 hf
    refine lv_iload_n hx hb dX7_go_22 rfl (lv_at hl 2 rfl) ?_
    refine lv_if_eq (tgt := 32) hx hb dX7_go_23 (by decide) (fun c5 => ?_) (fun c5 => ?_)
    · have hf := if_t c5 hf
      refine lv_iconst (v := 0) hx hb dX7_go_32 (by decide) ?_
      refine lv_istore_n (lv' := [(3, .int 0), (0, .ref (a1 0)), (1, .int p1), (2, .int x3)]) hx hb dX7_go_33 rfl hl (by decide) rfl (fun ls hl => ?_)
      obtain ⟨F8, eF8, hf⟩ := zl2_use hf
      have L34_F8 : ∀ (n : Nat) (x6 : Int32) (y7 : Mem) (H : Heap) (locs : List Loc), va_P D vwCl (WMod z a1 y7) H → va_D A (WMod z a1 y7) → va_S A s.heap H locs → ∀ (ls : Array Slot), lv_has ls 4 [(0, .ref (a1 0)), (1, .int p1), (3, .int x6)] → zl2 F8 n x6 y7 = some (rr, m1') → GI p l e (headSpec wsX7_go ({ frames := 6, cells := 0, slots := 0, locals := 136 } : Room)).room s m ([.ref (a1 0), .int p1] : List Value).toArray below meth c A D z rr (WMod z a1 m1') H locs (F0 m 34 ls []) := by
        intro n
        induction n with
        | zero =>
          intro x6 y7 H locs hP hD hS ls hl hf
          exact no_none hf
        | succ n ih10 =>
          intro x6 y7 H locs hP hD hS ls hl hf
          have hf := zl2_s eF8 hf
          refine lv_iload_n hx hb dX7_go_34 rfl (lv_at hl 2 rfl) ?_
          refine lv_iload_n hx hb dX7_go_35 rfl (lv_at hl 1 rfl) ?_
          refine lv_icmp_ge (tgt := 56) hx hb dX7_go_36 (by decide) (fun c11 => ?_) (fun c11 => ?_)
          · have hf := if_t c11 hf
            refine lv_aload_n hx hb dX7_go_56 rfl (lv_at hl 0 rfl) ?_
            refine va_get (D := D) (ci := 7) (v := .int (y7 0 16)) (C := RX7) (T := TX7) (N := 33) hx hb hts iX7 hown hK hP 0 rfl rfl 16 (by decide) (hts _ aw752) (fun _ h9 => h9) rfl dX7_go_57 ?_
            obtain ⟨rfl, rfl⟩ := so2 hf
            exact ret_i hx hb hr hlocks hK hP hD hS dX7_go_60
          · have hf := if_f c11 hf
            refine lv_aload_n hx hb dX7_go_39 rfl (lv_at hl 0 rfl) ?_
            obtain ⟨r12, q13, hf⟩ := bd_use hf
            have hfo : Foc (WMod z a1 y7) (WMod z a1 y7) (WMod z a1 y7) (WMod z a1 y7) := foc_all
            refine z_goI (ws1 := (WMod z a1 y7)) (va_runV (As := []) (rest := []) ⟨hx, hb, hml, hown, hts⟩ (tX7_isOver l D z tt a1 y7  fu r12 q13 _) (cwV 0 hts (gV4 aw956 aw958 aw19 aw52 aw959) rfl rfl rfl (by decide +kernel) ⟨Nat.le_of_ble_eq_true rfl, Nat.le_of_ble_eq_true rfl⟩) (z_preV hK hP hD hS hA hT hN hfo (va_recv hK hP (ci := 7) (q0 := 0) rfl rfl)) rfl rfl hl.1 rfl (lv_room (Nat.le_of_ble_eq_true rfl)) dX7_go_40 ⟨Nat.zero_le _, Nat.zero_le _⟩) hP hD hS hA hfo (fun H locs hP hD hS => ?_)
            refine lv_if_ne (tgt := 56) hx hb dX7_go_43 (by decide) (fun c14 => ?_) (fun c14 => ?_)
            · have hf := if_f c14 hf
              refine lv_aload_n hx hb dX7_go_56 rfl (lv_at hl 0 rfl) ?_
              refine va_get (D := D) (ci := 7) (v := .int (y7 0 16)) (C := RX7) (T := TX7) (N := 33) hx hb hts iX7 hown hK hP 0 rfl rfl 16 (by decide) (hts _ aw752) (fun _ h9 => h9) rfl dX7_go_57 ?_
              obtain ⟨rfl, rfl⟩ := so2 hf
              exact ret_i hx hb hr hlocks hK hP hD hS dX7_go_60
            · have hf := if_t c14 hf
              refine lv_aload_n hx hb dX7_go_46 rfl (lv_at hl 0 rfl) ?_
              obtain ⟨y15, q16, hf⟩ := bd_use hf
              have hfo : Foc (WMod z a1 y7) (WMod z a1 y7) (WMod z a1 y15) (WMod z a1 y15) := foc_all
              refine z_goV (ws1 := (WMod z a1 y15)) (va_runV (As := []) (rest := []) ⟨hx, hb, hml, hown, hts⟩ (tX7_goesMinute l D z tt a1 y7  fu y15 q16 _) (cwV 0 hts (gV4 aw960 aw962 aw20 aw52 aw963) rfl rfl rfl (by decide +kernel) ⟨Nat.le_of_ble_eq_true rfl, Nat.le_of_ble_eq_true rfl⟩) (z_preV hK hP hD hS hA hT hN hfo (va_recv hK hP (ci := 7) (q0 := 0) rfl rfl)) rfl rfl hl.1 rfl (lv_room (Nat.le_of_ble_eq_true rfl)) dX7_go_47 ⟨Nat.zero_le _, Nat.zero_le _⟩) hP hD hS hA hfo (fun H locs hP hD hS => ?_)
              obtain ⟨x17, ex17⟩ : ∃ y : Int32, y = x6 + 1 := ⟨_, rfl⟩
              have hf := lt_use ex17 hf
              refine lv_iinc (v := x17) (lv' := [(3, .int x17), (0, .ref (a1 0)), (1, .int p1)]) hx hb dX7_go_50 hl (k := 2) rfl (by rw [ex17]; rfl) (by decide) rfl (fun ls hl => ?_)
              refine lv_goto (tgt := 34) hx hb dX7_go_53 (by decide) ?_
              exact ih10 _ _ _ _ hP hD hS _ (lv_sub hl [1, 2, 0] rfl) hf
      exact L34_F8 fu _ _ _ _ hP hD hS _ (lv_sub hl [1, 2, 0] rfl) hf
    · have hf := if_f c5 hf
      refine lv_aload_n hx hb dX7_go_26 rfl (lv_at hl 0 rfl) ?_
      refine lv_iload_n hx hb dX7_go_27 rfl (lv_at hl 2 rfl) ?_
      obtain ⟨r18, y19, q20, hf⟩ := bd2_use hf
      have hfo : Foc (WMod z a1 m1) (WMod z a1 m1) (WMod z a1 y19) (WMod z a1 y19) := foc_all
      refine z_goI (ws1 := (WMod z a1 y19)) (va_runV (As := [.int x3]) (rest := []) ⟨hx, hb, hml, hown, hts⟩ (tX7_no l D z tt a1 m1 x3 fu r18 y19 q20 _) (cwV 1 hts (gV4 aw843 aw845 aw1 aw52 aw846) rfl rfl rfl (by decide +kernel) ⟨Nat.le_of_ble_eq_true rfl, Nat.le_of_ble_eq_true rfl⟩) (z_preV hK hP hD hS hA hT hN hfo (va_recv hK hP (ci := 7) (q0 := 0) rfl rfl)) rfl rfl hl.1 rfl (lv_room (Nat.le_of_ble_eq_true rfl)) dX7_go_28 ⟨Nat.zero_le _, Nat.zero_le _⟩) hP hD hS hA hfo (fun H locs hP hD hS => ?_)
      obtain ⟨rfl, rfl⟩ := so2 hf
      exact ret_i hx hb hr hlocks hK hP hD hS dX7_go_31
  refine lv_if_ne (tgt := 22) hx hb dX7_go_9 (by decide) (fun c21 => ?_) (fun c21 => ?_)
  · have hf := if_f c21 hf
    exact B22_k4 _ _ _ hP hD hS _ (lv_sub hl [1, 2, 0] rfl) hf
  · have hf := if_t c21 hf
    refine lv_aload_n hx hb dX7_go_12 rfl (lv_at hl 1 rfl) ?_
    obtain ⟨r22, q23, hf⟩ := bd_use hf
    have hfo : Foc (WMod z a1 m1) (WMod z a1 m1) (WMod z a1 m1) (WMod z a1 m1) := foc_all
    refine z_goI (ws1 := (WMod z a1 m1)) (va_runV (As := []) (rest := []) ⟨hx, hb, hml, hown, hts⟩ (tX7_isOver l D z tt a1 m1  fu r22 q23 _) (cwV 0 hts (gV4 aw956 aw958 aw19 aw52 aw959) rfl rfl rfl (by decide +kernel) ⟨Nat.le_of_ble_eq_true rfl, Nat.le_of_ble_eq_true rfl⟩) (z_preV hK hP hD hS hA hT hN hfo (va_recv hK hP (ci := 7) (q0 := 0) rfl rfl)) rfl rfl hl.1 rfl (lv_room (Nat.le_of_ble_eq_true rfl)) dX7_go_13 ⟨Nat.zero_le _, Nat.zero_le _⟩) hP hD hS hA hfo (fun H locs hP hD hS => ?_)
    refine lv_if_eq (tgt := 22) hx hb dX7_go_16 (by decide) (fun c24 => ?_) (fun c24 => ?_)
    · have hf := if_t c24 hf
      exact B22_k4 _ _ _ hP hD hS _ (lv_sub hl [1, 2, 0] rfl) hf
    · have hf := if_f c24 hf
      refine lv_bipush (v := (-3)) hx hb dX7_go_19 (by decide) ?_
      refine lv_istore_n (lv' := [(2, .int (-3)), (0, .ref (a1 0)), (1, .int p1)]) hx hb dX7_go_21 rfl hl (by decide) rfl (fun ls hl => ?_)
      exact B22_k4 _ _ _ hP hD hS _ (lv_sub hl [1, 2, 0] rfl) hf
def pX7_anew (fu : Nat) (m1 : Mem) : Option (Int32 × Mem) :=
  lt' ((m1 0 16) : Int32) fun x1 =>
  bd (pX7_begins fu m1) fun y2 =>
  some (x1, y2)
set_option maxHeartbeats 4000000 in
set_option maxRecDepth 100000 in
theorem tX7_anew (l : Launch) (D : va_G) (z tt : Nat → Nat) (a1 : Nat → Nat) (m1 : Mem)  (fu : Nat) (rr : Int32) (m1' : Mem) (hf : pX7_anew fu m1 = some (rr, m1')) : MetI l yX7_anew wsX7_anew ({ frames := 1, cells := 0, slots := 0, locals := 21 } : Room) D z tt ([.ref (a1 0)] : List Value) (WMod z a1 m1) rr (WMod z a1 m1') := by
  intro sz
  refine Met.ofW (cc := cX7_anew) (maxL := 2) (ret := (some .int)) (by decide) rfl ?_
  intro p e s m args below meth c s₁ B hml hv
  obtain ⟨rfl, hsz, hP, hK, hD0, hT, hN⟩ := hv
  have hx := B.exec
  have hb := B.bytes
  have hr := B.returns
  have hts : ∀ w ∈ wsA, w.before ([.ref (a1 0)] : List Value).toArray s = true := fun w h => atoms_spec (ws := wsX7_anew) B.pre w (List.mem_cons_of_mem _ h)
  have hown : s.vm.findClass RX7 = some m.cls := findClass_of_methodNamed B.named
  have hlocks := B.notSynchronized
  subst hsz
  have hD := hD0.self (sz := s.heap.size)
  generalize hAe : va_A (WMod z a1 m1) s.heap.size = A at hD hT ⊢
  have hA : ∀ q : Nat, s.heap.size ≤ q → A q := fun q h => by rw [← hAe]; exact Or.inr h
  have hS : va_S A s.heap s.heap [] := va_S.rf
  have hl := lv_entry ([.ref (a1 0)] : List Value) (n := 2) (Nat.le_of_ble_eq_true rfl)
  rw [lg_entry_eq]
  generalize (lg_sl ([.ref (a1 0)] : List Value) ++ List.replicate (2 - (lg_sl ([.ref (a1 0)] : List Value)).length) Slot.unset).toArray = ls at hl ⊢
  have hl : lv_has ls 2 [(0, .ref (a1 0))] := hl
  unfold pX7_anew at hf
  refine lv_aload_n hx hb dX7_anew_0 rfl (lv_at hl 0 rfl) ?_
  refine va_get (D := D) (ci := 7) (v := .int (m1 0 16)) (C := RX7) (T := TX7) (N := 33) hx hb hts iX7 hown hK hP 0 rfl rfl 16 (by decide) (hts _ aw752) (fun _ h9 => h9) rfl dX7_anew_1 ?_
  refine lv_topi (fun x1 ex1 => ?_)
  have hf := lt_use ex1 hf
  refine lv_istore_n (lv' := [(1, .int x1), (0, .ref (a1 0))]) hx hb dX7_anew_4 rfl hl (by decide) rfl (fun ls hl => ?_)
  refine lv_aload_n hx hb dX7_anew_5 rfl (lv_at hl 1 rfl) ?_
  obtain ⟨y2, q3, hf⟩ := bd_use hf
  have hfo : Foc (WMod z a1 m1) (WMod z a1 m1) (WMod z a1 y2) (WMod z a1 y2) := foc_all
  refine z_goV (ws1 := (WMod z a1 y2)) (va_runV (As := []) (rest := []) ⟨hx, hb, hml, hown, hts⟩ (tX7_begins l D z tt a1 m1  fu y2 q3 _) (cwV 0 hts (gV4 aw996 aw998 aw28 aw52 aw999) rfl rfl rfl (by decide +kernel) ⟨Nat.le_of_ble_eq_true rfl, Nat.le_of_ble_eq_true rfl⟩) (z_preV hK hP hD hS hA hT hN hfo (va_recv hK hP (ci := 7) (q0 := 0) rfl rfl)) rfl rfl hl.1 rfl (lv_room (Nat.le_of_ble_eq_true rfl)) dX7_anew_6 ⟨Nat.zero_le _, Nat.zero_le _⟩) hP hD hS hA hfo (fun H locs hP hD hS => ?_)
  refine lv_iload_n hx hb dX7_anew_9 rfl (lv_at hl 0 rfl) ?_
  obtain ⟨rfl, rfl⟩ := so2 hf
  exact ret_i hx hb hr hlocks hK hP hD hS dX7_anew_10
def pX7_line (fu : Nat) (m1 : Mem) (p1 : Int32) : Option (Int32 × Mem) :=
  if 0 ≤ p1 then
    if (m1 0 17) ≤ p1 then
      some ((-9), m1)
    else
      ck p1 8 <|
      some ((m1 10 p1.toNatClampNeg), m1)
  else
    bd2 (pX7_no fu m1 (-4)) fun r4 y5 =>
    some (r4, y5)
set_option maxHeartbeats 4000000 in
set_option maxRecDepth 100000 in
theorem tX7_line (l : Launch) (D : va_G) (z tt : Nat → Nat) (a1 : Nat → Nat) (m1 : Mem) (p1 : Int32) (fu : Nat) (rr : Int32) (m1' : Mem) (hf : pX7_line fu m1 p1 = some (rr, m1')) : MetI l yX7_line wsX7_line ({ frames := 1, cells := 0, slots := 0, locals := 21 } : Room) D z tt ([.ref (a1 0), .int p1] : List Value) (WMod z a1 m1) rr (WMod z a1 m1') := by
  intro sz
  refine Met.ofW (cc := cX7_line) (maxL := 2) (ret := (some .int)) (by decide) rfl ?_
  intro p e s m args below meth c s₁ B hml hv
  obtain ⟨rfl, hsz, hP, hK, hD0, hT, hN⟩ := hv
  have hx := B.exec
  have hb := B.bytes
  have hr := B.returns
  have hts : ∀ w ∈ wsA, w.before ([.ref (a1 0), .int p1] : List Value).toArray s = true := fun w h => atoms_spec (ws := wsX7_line) B.pre w (List.mem_cons_of_mem _ h)
  have hown : s.vm.findClass RX7 = some m.cls := findClass_of_methodNamed B.named
  have hlocks := B.notSynchronized
  subst hsz
  have hD := hD0.self (sz := s.heap.size)
  generalize hAe : va_A (WMod z a1 m1) s.heap.size = A at hD hT ⊢
  have hA : ∀ q : Nat, s.heap.size ≤ q → A q := fun q h => by rw [← hAe]; exact Or.inr h
  have hS : va_S A s.heap s.heap [] := va_S.rf
  have hl := lv_entry ([.ref (a1 0), .int p1] : List Value) (n := 2) (Nat.le_of_ble_eq_true rfl)
  rw [lg_entry_eq]
  generalize (lg_sl ([.ref (a1 0), .int p1] : List Value) ++ List.replicate (2 - (lg_sl ([.ref (a1 0), .int p1] : List Value)).length) Slot.unset).toArray = ls at hl ⊢
  have hl : lv_has ls 2 [(0, .ref (a1 0)), (1, .int p1)] := hl
  unfold pX7_line at hf
  refine lv_iload_n hx hb dX7_line_0 rfl (lv_at hl 1 rfl) ?_
  refine lv_if_ge (tgt := 11) hx hb dX7_line_1 (by decide) (fun c1 => ?_) (fun c1 => ?_)
  · have hf := if_t c1 hf
    refine lv_iload_n hx hb dX7_line_11 rfl (lv_at hl 1 rfl) ?_
    refine lv_aload_n hx hb dX7_line_12 rfl (lv_at hl 0 rfl) ?_
    refine va_get (D := D) (ci := 7) (v := .int (m1 0 17)) (C := RX7) (T := TX7) (N := 33) hx hb hts iX7 hown hK hP 0 rfl rfl 17 (by decide) (hts _ aw753) (fun _ h9 => h9) rfl dX7_line_13 ?_
    refine lv_icmp_ge (tgt := 28) hx hb dX7_line_16 (by decide) (fun c2 => ?_) (fun c2 => ?_)
    · have hf := if_t c2 hf
      refine lv_bipush (v := (-9)) hx hb dX7_line_28 (by decide) ?_
      obtain ⟨rfl, rfl⟩ := so2 hf
      exact ret_i hx hb hr hlocks hK hP hD hS dX7_line_30
    · have hf := if_f c2 hf
      refine lv_aload_n hx hb dX7_line_19 rfl (lv_at hl 0 rfl) ?_
      refine va_get (D := D) (ci := 7) (v := .ref (a1 10)) (C := RX7) (T := TX7) (N := 33) hx hb hts iX7 hown hK hP 0 rfl rfl 9 (by decide) (hts _ aw745) (fun _ h9 => h9) rfl dX7_line_20 ?_
      refine lv_iload_n hx hb dX7_line_23 rfl (lv_at hl 1 rfl) ?_
      obtain ⟨h3, hf⟩ := ck_use hf
      refine z_iald hx hb hK hP 10 rfl h3 dX7_line_24 ?_
      refine lv_goto (tgt := 30) hx hb dX7_line_25 (by decide) ?_
      obtain ⟨rfl, rfl⟩ := so2 hf
      exact ret_i hx hb hr hlocks hK hP hD hS dX7_line_30
  · have hf := if_f c1 hf
    refine lv_aload_n hx hb dX7_line_4 rfl (lv_at hl 0 rfl) ?_
    refine lv_bipush (v := (-4)) hx hb dX7_line_5 (by decide) ?_
    obtain ⟨r4, y5, q6, hf⟩ := bd2_use hf
    have hfo : Foc (WMod z a1 m1) (WMod z a1 m1) (WMod z a1 y5) (WMod z a1 y5) := foc_all
    refine z_goI (ws1 := (WMod z a1 y5)) (va_runV (As := [.int (-4)]) (rest := []) ⟨hx, hb, hml, hown, hts⟩ (tX7_no l D z tt a1 m1 (-4) fu r4 y5 q6 _) (cwV 1 hts (gV4 aw843 aw845 aw1 aw52 aw846) rfl rfl rfl (by decide +kernel) ⟨Nat.le_of_ble_eq_true rfl, Nat.le_of_ble_eq_true rfl⟩) (z_preV hK hP hD hS hA hT hN hfo (va_recv hK hP (ci := 7) (q0 := 0) rfl rfl)) rfl rfl hl.1 rfl (lv_room (Nat.le_of_ble_eq_true rfl)) dX7_line_7 ⟨Nat.zero_le _, Nat.zero_le _⟩) hP hD hS hA hfo (fun H locs hP hD hS => ?_)
    obtain ⟨rfl, rfl⟩ := so2 hf
    exact ret_i hx hb hr hlocks hK hP hD hS dX7_line_10
def pX7_rest (fu : Nat) (m1 : Mem) (p1 : Int32) : Option (Int32 × Mem) :=
  bd (pX7_isIn fu p1 0 4) fun r1 =>
  if r1 = 0 then
    bd2 (pX7_no fu m1 (-2)) fun r22 y23 =>
    some (r22, y23)
  else
    bd (pX7_passesAll fu m1 1 1) fun y4 =>
    bd (pX7_goesToEnd fu y4) fun y6 =>
    jn1 (fun (x8 : Int32) =>
      bd (pX7_passesAll fu y6 1 0) fun y10 =>
      some (x8, y10)) fun k9 =>
    if p1 = 0 then
      bd (pX7_waitedAll fu y6) fun r20 =>
      k9 r20
    else
      if p1 = 1 then
        bd (pX7_stateMany fu y6 3) fun r18 =>
        k9 r18
      else
        if p1 = 2 then
          k9 (y6 0 18)
        else
          if p1 = 3 then
            k9 ((y6 11 0) + (y6 11 1))
          else
            bd (pX7_costNow fu y6) fun r16 =>
            k9 r16
set_option maxHeartbeats 4000000 in
set_option maxRecDepth 100000 in
theorem tX7_rest (l : Launch) (D : va_G) (z tt : Nat → Nat) (a1 : Nat → Nat) (m1 : Mem) (p1 : Int32) (fu : Nat) (rr : Int32) (m1' : Mem) (hf : pX7_rest fu m1 p1 = some (rr, m1')) : MetI l yX7_rest wsX7_rest ({ frames := 7, cells := 0, slots := 0, locals := 156 } : Room) D z tt ([.ref (a1 0), .int p1] : List Value) (WMod z a1 m1) rr (WMod z a1 m1') := by
  intro sz
  refine Met.ofW (cc := cX7_rest) (maxL := 3) (ret := (some .int)) (by decide) rfl ?_
  intro p e s m args below meth c s₁ B hml hv
  obtain ⟨rfl, hsz, hP, hK, hD0, hT, hN⟩ := hv
  have hx := B.exec
  have hb := B.bytes
  have hr := B.returns
  have hts : ∀ w ∈ wsA, w.before ([.ref (a1 0), .int p1] : List Value).toArray s = true := fun w h => atoms_spec (ws := wsX7_rest) B.pre w (List.mem_cons_of_mem _ h)
  have hown : s.vm.findClass RX7 = some m.cls := findClass_of_methodNamed B.named
  have hlocks := B.notSynchronized
  subst hsz
  have hD := hD0.self (sz := s.heap.size)
  generalize hAe : va_A (WMod z a1 m1) s.heap.size = A at hD hT ⊢
  have hA : ∀ q : Nat, s.heap.size ≤ q → A q := fun q h => by rw [← hAe]; exact Or.inr h
  have hS : va_S A s.heap s.heap [] := va_S.rf
  have hl := lv_entry ([.ref (a1 0), .int p1] : List Value) (n := 3) (Nat.le_of_ble_eq_true rfl)
  rw [lg_entry_eq]
  generalize (lg_sl ([.ref (a1 0), .int p1] : List Value) ++ List.replicate (3 - (lg_sl ([.ref (a1 0), .int p1] : List Value)).length) Slot.unset).toArray = ls at hl ⊢
  have hl : lv_has ls 3 [(0, .ref (a1 0)), (1, .int p1)] := hl
  unfold pX7_rest at hf
  refine lv_iload_n hx hb dX7_rest_0 rfl (lv_at hl 1 rfl) ?_
  refine lv_iconst (v := 0) hx hb dX7_rest_1 (by decide) ?_
  refine lv_iconst (v := 4) hx hb dX7_rest_2 (by decide) ?_
  obtain ⟨r1, q2, hf⟩ := bd_use hf
  have hfo : Foc (WMod z a1 m1) ([] : va_W) (WMod z a1 m1) ([] : va_W) := foc_nil
  refine z_goI (ws1 := (WMod z a1 m1)) (va_runS (As := [.int p1, .int 0, .int 4]) (rest := []) ⟨hx, hb, hml, hown, hts⟩ (tX7_isIn l D z tt  p1 0 4 fu r1 q2 _) (va_cwS 3 hts (gS3 aw867 aw868 aw52 aw869) rfl rfl rfl (by decide +kernel) ⟨Nat.le_of_ble_eq_true rfl, Nat.le_of_ble_eq_true rfl⟩) (z_preS hK hP hD hS hA hT hN hfo) rfl rfl hl.1 rfl (lv_room (Nat.le_of_ble_eq_true rfl)) dX7_rest_3 ⟨Nat.zero_le _, Nat.zero_le _⟩) hP hD hS hA hfo (fun H locs hP hD hS => ?_)
  refine lv_if_ne (tgt := 16) hx hb dX7_rest_6 (by decide) (fun c3 => ?_) (fun c3 => ?_)
  · have hf := if_f c3 hf
    refine lv_aload_n hx hb dX7_rest_16 rfl (lv_at hl 0 rfl) ?_
    refine lv_iconst (v := 1) hx hb dX7_rest_17 (by decide) ?_
    refine lv_iconst (v := 1) hx hb dX7_rest_18 (by decide) ?_
    obtain ⟨y4, q5, hf⟩ := bd_use hf
    have hfo : Foc (WMod z a1 m1) (WMod z a1 m1) (WMod z a1 y4) (WMod z a1 y4) := foc_all
    refine z_goV (ws1 := (WMod z a1 y4)) (va_runV (As := [.int 1, .int 1]) (rest := []) ⟨hx, hb, hml, hown, hts⟩ (tX7_passesAll l D z tt a1 m1 1 1 fu y4 q5 _) (cwV 2 hts (gV4 aw874 aw876 aw7 aw52 aw877) rfl rfl rfl (by decide +kernel) ⟨Nat.le_of_ble_eq_true rfl, Nat.le_of_ble_eq_true rfl⟩) (z_preV hK hP hD hS hA hT hN hfo (va_recv hK hP (ci := 7) (q0 := 0) rfl rfl)) rfl rfl hl.1 rfl (lv_room (Nat.le_of_ble_eq_true rfl)) dX7_rest_19 ⟨Nat.zero_le _, Nat.zero_le _⟩) hP hD hS hA hfo (fun H locs hP hD hS => ?_)
    refine lv_aload_n hx hb dX7_rest_22 rfl (lv_at hl 0 rfl) ?_
    obtain ⟨y6, q7, hf⟩ := bd_use hf
    have hfo : Foc (WMod z a1 y4) (WMod z a1 y4) (WMod z a1 y6) (WMod z a1 y6) := foc_all
    refine z_goV (ws1 := (WMod z a1 y6)) (va_runV (As := []) (rest := []) ⟨hx, hb, hml, hown, hts⟩ (tX7_goesToEnd l D z tt a1 y4  fu y6 q7 _) (cwV 0 hts (gV4 aw1008 aw1010 aw29 aw52 aw1011) rfl rfl rfl (by decide +kernel) ⟨Nat.le_of_ble_eq_true rfl, Nat.le_of_ble_eq_true rfl⟩) (z_preV hK hP hD hS hA hT hN hfo (va_recv hK hP (ci := 7) (q0 := 0) rfl rfl)) rfl rfl hl.1 rfl (lv_room (Nat.le_of_ble_eq_true rfl)) dX7_rest_23 ⟨Nat.zero_le _, Nat.zero_le _⟩) hP hD hS hA hfo (fun H locs hP hD hS => ?_)
    refine lv_iload_n hx hb dX7_rest_26 rfl (lv_at hl 1 rfl) ?_
    obtain ⟨k9, ek9, hf⟩ := jn1_use hf
    have B87_k9 : ∀ (x8 : Int32) (H : Heap) (locs : List Loc), va_P D vwCl (WMod z a1 y6) H → va_D A (WMod z a1 y6) → va_S A s.heap H locs → ∀ (ls : Array Slot), lv_has ls 3 [(0, .ref (a1 0))] → k9 x8 = some (rr, m1') → GI p l e (headSpec wsX7_rest ({ frames := 7, cells := 0, slots := 0, locals := 156 } : Room)).room s m ([.ref (a1 0), .int p1] : List Value).toArray below meth c A D z rr (WMod z a1 m1') H locs (F0 m 87 ls [.int x8]) := by
      intro x8 H locs hP hD hS ls hl hf
      have hf := jn1_ap ek9 hf
      refine lv_istore_n (lv' := [(2, .int x8), (0, .ref (a1 0))]) hx hb dX7_rest_87 rfl hl (by decide) rfl (fun ls hl => ?_)
      refine lv_aload_n hx hb dX7_rest_88 rfl (lv_at hl 1 rfl) ?_
      refine lv_iconst (v := 1) hx hb dX7_rest_89 (by decide) ?_
      refine lv_iconst (v := 0) hx hb dX7_rest_90 (by decide) ?_
      obtain ⟨y10, q11, hf⟩ := bd_use hf
      have hfo : Foc (WMod z a1 y6) (WMod z a1 y6) (WMod z a1 y10) (WMod z a1 y10) := foc_all
      refine z_goV (ws1 := (WMod z a1 y10)) (va_runV (As := [.int 1, .int 0]) (rest := []) ⟨hx, hb, hml, hown, hts⟩ (tX7_passesAll l D z tt a1 y6 1 0 fu y10 q11 _) (cwV 2 hts (gV4 aw874 aw876 aw7 aw52 aw877) rfl rfl rfl (by decide +kernel) ⟨Nat.le_of_ble_eq_true rfl, Nat.le_of_ble_eq_true rfl⟩) (z_preV hK hP hD hS hA hT hN hfo (va_recv hK hP (ci := 7) (q0 := 0) rfl rfl)) rfl rfl hl.1 rfl (lv_room (Nat.le_of_ble_eq_true rfl)) dX7_rest_91 ⟨Nat.zero_le _, Nat.zero_le _⟩) hP hD hS hA hfo (fun H locs hP hD hS => ?_)
      refine lv_iload_n hx hb dX7_rest_94 rfl (lv_at hl 0 rfl) ?_
      obtain ⟨rfl, rfl⟩ := so2 hf
      exact ret_i hx hb hr hlocks hK hP hD hS dX7_rest_95
    refine lv_if_ne (tgt := 37) hx hb dX7_rest_27 (by decide) (fun c12 => ?_) (fun c12 => ?_)
    · have hf := if_f c12 hf
      refine lv_iload_n hx hb dX7_rest_37 rfl (lv_at hl 1 rfl) ?_
      refine lv_iconst (v := 1) hx hb dX7_rest_38 (by decide) ?_
      refine lv_icmp_ne (tgt := 50) hx hb dX7_rest_39 (by decide) (fun c13 => ?_) (fun c13 => ?_)
      · have hf := if_f c13 hf
        refine lv_iload_n hx hb dX7_rest_50 rfl (lv_at hl 1 rfl) ?_
        refine lv_iconst (v := 2) hx hb dX7_rest_51 (by decide) ?_
        refine lv_icmp_ne (tgt := 62) hx hb dX7_rest_52 (by decide) (fun c14 => ?_) (fun c14 => ?_)
        · have hf := if_f c14 hf
          refine lv_iload_n hx hb dX7_rest_62 rfl (lv_at hl 1 rfl) ?_
          refine lv_iconst (v := 3) hx hb dX7_rest_63 (by decide) ?_
          refine lv_icmp_ne (tgt := 83) hx hb dX7_rest_64 (by decide) (fun c15 => ?_) (fun c15 => ?_)
          · have hf := if_f c15 hf
            refine lv_aload_n hx hb dX7_rest_83 rfl (lv_at hl 0 rfl) ?_
            obtain ⟨r16, q17, hf⟩ := bd_use hf
            have hfo : Foc (WMod z a1 y6) (WMod z a1 y6) (WMod z a1 y6) (WMod z a1 y6) := foc_all
            refine z_goI (ws1 := (WMod z a1 y6)) (va_runV (As := []) (rest := []) ⟨hx, hb, hml, hown, hts⟩ (tX7_costNow l D z tt a1 y6  fu r16 q17 _) (cwV 0 hts (gV4 aw1020 aw1022 aw32 aw52 aw1023) rfl rfl rfl (by decide +kernel) ⟨Nat.le_of_ble_eq_true rfl, Nat.le_of_ble_eq_true rfl⟩) (z_preV hK hP hD hS hA hT hN hfo (va_recv hK hP (ci := 7) (q0 := 0) rfl rfl)) rfl rfl hl.1 rfl (lv_room (Nat.le_of_ble_eq_true rfl)) dX7_rest_84 ⟨Nat.zero_le _, Nat.zero_le _⟩) hP hD hS hA hfo (fun H locs hP hD hS => ?_)
            exact B87_k9 _ _ _ hP hD hS _ (lv_sub hl [0] rfl) hf
          · have hf := if_t c15 hf
            refine lv_aload_n hx hb dX7_rest_67 rfl (lv_at hl 0 rfl) ?_
            refine va_get (D := D) (ci := 7) (v := .ref (a1 11)) (C := RX7) (T := TX7) (N := 33) hx hb hts iX7 hown hK hP 0 rfl rfl 10 (by decide) (hts _ aw746) (fun _ h9 => h9) rfl dX7_rest_68 ?_
            refine lv_iconst (v := 0) hx hb dX7_rest_71 (by decide) ?_
            refine z_ialdc hx hb hK hP 11 rfl (i := 0) (k := 0) (by decide) (Nat.le_of_ble_eq_true rfl) dX7_rest_72 ?_
            refine lv_aload_n hx hb dX7_rest_73 rfl (lv_at hl 0 rfl) ?_
            refine va_get (D := D) (ci := 7) (v := .ref (a1 11)) (C := RX7) (T := TX7) (N := 33) hx hb hts iX7 hown hK hP 0 rfl rfl 10 (by decide) (hts _ aw746) (fun _ h9 => h9) rfl dX7_rest_74 ?_
            refine lv_iconst (v := 1) hx hb dX7_rest_77 (by decide) ?_
            refine z_ialdc hx hb hK hP 11 rfl (i := 1) (k := 1) (by decide) (Nat.le_of_ble_eq_true rfl) dX7_rest_78 ?_
            refine lv_iadd hx hb dX7_rest_79 ?_
            refine lv_goto (tgt := 87) hx hb dX7_rest_80 (by decide) ?_
            exact B87_k9 _ _ _ hP hD hS _ (lv_sub hl [0] rfl) hf
        · have hf := if_t c14 hf
          refine lv_aload_n hx hb dX7_rest_55 rfl (lv_at hl 0 rfl) ?_
          refine va_get (D := D) (ci := 7) (v := .int (y6 0 18)) (C := RX7) (T := TX7) (N := 33) hx hb hts iX7 hown hK hP 0 rfl rfl 18 (by decide) (hts _ aw754) (fun _ h9 => h9) rfl dX7_rest_56 ?_
          refine lv_goto (tgt := 87) hx hb dX7_rest_59 (by decide) ?_
          exact B87_k9 _ _ _ hP hD hS _ (lv_sub hl [0] rfl) hf
      · have hf := if_t c13 hf
        refine lv_aload_n hx hb dX7_rest_42 rfl (lv_at hl 0 rfl) ?_
        refine lv_iconst (v := 3) hx hb dX7_rest_43 (by decide) ?_
        obtain ⟨r18, q19, hf⟩ := bd_use hf
        have hfo : Foc (WMod z a1 y6) (WMod z a1 y6) (WMod z a1 y6) (WMod z a1 y6) := foc_all
        refine z_goI (ws1 := (WMod z a1 y6)) (va_runV (As := [.int 3]) (rest := []) ⟨hx, hb, hml, hown, hts⟩ (tX7_stateMany l D z tt a1 y6 3 fu r18 q19 _) (cwV 1 hts (gV4 aw1016 aw1018 aw31 aw52 aw1019) rfl rfl rfl (by decide +kernel) ⟨Nat.le_of_ble_eq_true rfl, Nat.le_of_ble_eq_true rfl⟩) (z_preV hK hP hD hS hA hT hN hfo (va_recv hK hP (ci := 7) (q0 := 0) rfl rfl)) rfl rfl hl.1 rfl (lv_room (Nat.le_of_ble_eq_true rfl)) dX7_rest_44 ⟨Nat.zero_le _, Nat.zero_le _⟩) hP hD hS hA hfo (fun H locs hP hD hS => ?_)
        refine lv_goto (tgt := 87) hx hb dX7_rest_47 (by decide) ?_
        exact B87_k9 _ _ _ hP hD hS _ (lv_sub hl [0] rfl) hf
    · have hf := if_t c12 hf
      refine lv_aload_n hx hb dX7_rest_30 rfl (lv_at hl 0 rfl) ?_
      obtain ⟨r20, q21, hf⟩ := bd_use hf
      have hfo : Foc (WMod z a1 y6) (WMod z a1 y6) (WMod z a1 y6) (WMod z a1 y6) := foc_all
      refine z_goI (ws1 := (WMod z a1 y6)) (va_runV (As := []) (rest := []) ⟨hx, hb, hml, hown, hts⟩ (tX7_waitedAll l D z tt a1 y6  fu r20 q21 _) (cwV 0 hts (gV4 aw1012 aw1014 aw30 aw52 aw1015) rfl rfl rfl (by decide +kernel) ⟨Nat.le_of_ble_eq_true rfl, Nat.le_of_ble_eq_true rfl⟩) (z_preV hK hP hD hS hA hT hN hfo (va_recv hK hP (ci := 7) (q0 := 0) rfl rfl)) rfl rfl hl.1 rfl (lv_room (Nat.le_of_ble_eq_true rfl)) dX7_rest_31 ⟨Nat.zero_le _, Nat.zero_le _⟩) hP hD hS hA hfo (fun H locs hP hD hS => ?_)
      refine lv_goto (tgt := 87) hx hb dX7_rest_34 (by decide) ?_
      exact B87_k9 _ _ _ hP hD hS _ (lv_sub hl [0] rfl) hf
  · have hf := if_t c3 hf
    refine lv_aload_n hx hb dX7_rest_9 rfl (lv_at hl 0 rfl) ?_
    refine lv_bipush (v := (-2)) hx hb dX7_rest_10 (by decide) ?_
    obtain ⟨r22, y23, q24, hf⟩ := bd2_use hf
    have hfo : Foc (WMod z a1 m1) (WMod z a1 m1) (WMod z a1 y23) (WMod z a1 y23) := foc_all
    refine z_goI (ws1 := (WMod z a1 y23)) (va_runV (As := [.int (-2)]) (rest := []) ⟨hx, hb, hml, hown, hts⟩ (tX7_no l D z tt a1 m1 (-2) fu r22 y23 q24 _) (cwV 1 hts (gV4 aw843 aw845 aw1 aw52 aw846) rfl rfl rfl (by decide +kernel) ⟨Nat.le_of_ble_eq_true rfl, Nat.le_of_ble_eq_true rfl⟩) (z_preV hK hP hD hS hA hT hN hfo (va_recv hK hP (ci := 7) (q0 := 0) rfl rfl)) rfl rfl hl.1 rfl (lv_room (Nat.le_of_ble_eq_true rfl)) dX7_rest_12 ⟨Nat.zero_le _, Nat.zero_le _⟩) hP hD hS hA hfo (fun H locs hP hD hS => ?_)
    obtain ⟨rfl, rfl⟩ := so2 hf
    exact ret_i hx hb hr hlocks hK hP hD hS dX7_rest_15
def pX7_when (fu : Nat) (m1 : Mem) (p1 : Int32) : Option (Int32 × Mem) :=
  bd (pX7_isComer fu m1 p1) fun r1 =>
  if r1 = 0 then
    bd2 (pX7_no fu m1 (-1)) fun r16 y17 =>
    some (r16, y17)
  else
    bd (pX7_passesAll fu m1 1 1) fun y4 =>
    bd (pX7_goesToEnd fu y4) fun y6 =>
    ck p1 8 <|
    jn1 (fun (x9 : Int32) =>
      bd (pX7_passesAll fu y6 1 0) fun y11 =>
      some (x9, y11)) fun k10 =>
    if (y6 8 p1.toNatClampNeg) = 2 then
      ck p1 8 <|
      ck p1 8 <|
      k10 ((y6 5 p1.toNatClampNeg) + (y6 9 p1.toNatClampNeg))
    else
      k10 (-9)
set_option maxHeartbeats 4000000 in
set_option maxRecDepth 100000 in
theorem tX7_when (l : Launch) (D : va_G) (z tt : Nat → Nat) (a1 : Nat → Nat) (m1 : Mem) (p1 : Int32) (fu : Nat) (rr : Int32) (m1' : Mem) (hf : pX7_when fu m1 p1 = some (rr, m1')) : MetI l yX7_when wsX7_when ({ frames := 7, cells := 0, slots := 0, locals := 156 } : Room) D z tt ([.ref (a1 0), .int p1] : List Value) (WMod z a1 m1) rr (WMod z a1 m1') := by
  intro sz
  refine Met.ofW (cc := cX7_when) (maxL := 3) (ret := (some .int)) (by decide) rfl ?_
  intro p e s m args below meth c s₁ B hml hv
  obtain ⟨rfl, hsz, hP, hK, hD0, hT, hN⟩ := hv
  have hx := B.exec
  have hb := B.bytes
  have hr := B.returns
  have hts : ∀ w ∈ wsA, w.before ([.ref (a1 0), .int p1] : List Value).toArray s = true := fun w h => atoms_spec (ws := wsX7_when) B.pre w (List.mem_cons_of_mem _ h)
  have hown : s.vm.findClass RX7 = some m.cls := findClass_of_methodNamed B.named
  have hlocks := B.notSynchronized
  subst hsz
  have hD := hD0.self (sz := s.heap.size)
  generalize hAe : va_A (WMod z a1 m1) s.heap.size = A at hD hT ⊢
  have hA : ∀ q : Nat, s.heap.size ≤ q → A q := fun q h => by rw [← hAe]; exact Or.inr h
  have hS : va_S A s.heap s.heap [] := va_S.rf
  have hl := lv_entry ([.ref (a1 0), .int p1] : List Value) (n := 3) (Nat.le_of_ble_eq_true rfl)
  rw [lg_entry_eq]
  generalize (lg_sl ([.ref (a1 0), .int p1] : List Value) ++ List.replicate (3 - (lg_sl ([.ref (a1 0), .int p1] : List Value)).length) Slot.unset).toArray = ls at hl ⊢
  have hl : lv_has ls 3 [(0, .ref (a1 0)), (1, .int p1)] := hl
  unfold pX7_when at hf
  refine lv_aload_n hx hb dX7_when_0 rfl (lv_at hl 0 rfl) ?_
  refine lv_iload_n hx hb dX7_when_1 rfl (lv_at hl 1 rfl) ?_
  obtain ⟨r1, q2, hf⟩ := bd_use hf
  have hfo : Foc (WMod z a1 m1) (WMod z a1 m1) (WMod z a1 m1) (WMod z a1 m1) := foc_all
  refine z_goI (ws1 := (WMod z a1 m1)) (va_runV (As := [.int p1]) (rest := []) ⟨hx, hb, hml, hown, hts⟩ (tX7_isComer l D z tt a1 m1 p1 fu r1 q2 _) (cwV 1 hts (gV4 aw904 aw906 aw13 aw52 aw907) rfl rfl rfl (by decide +kernel) ⟨Nat.le_of_ble_eq_true rfl, Nat.le_of_ble_eq_true rfl⟩) (z_preV hK hP hD hS hA hT hN hfo (va_recv hK hP (ci := 7) (q0 := 0) rfl rfl)) rfl rfl hl.1 rfl (lv_room (Nat.le_of_ble_eq_true rfl)) dX7_when_2 ⟨Nat.zero_le _, Nat.zero_le _⟩) hP hD hS hA hfo (fun H locs hP hD hS => ?_)
  refine lv_if_ne (tgt := 14) hx hb dX7_when_5 (by decide) (fun c3 => ?_) (fun c3 => ?_)
  · have hf := if_f c3 hf
    refine lv_aload_n hx hb dX7_when_14 rfl (lv_at hl 0 rfl) ?_
    refine lv_iconst (v := 1) hx hb dX7_when_15 (by decide) ?_
    refine lv_iconst (v := 1) hx hb dX7_when_16 (by decide) ?_
    obtain ⟨y4, q5, hf⟩ := bd_use hf
    have hfo : Foc (WMod z a1 m1) (WMod z a1 m1) (WMod z a1 y4) (WMod z a1 y4) := foc_all
    refine z_goV (ws1 := (WMod z a1 y4)) (va_runV (As := [.int 1, .int 1]) (rest := []) ⟨hx, hb, hml, hown, hts⟩ (tX7_passesAll l D z tt a1 m1 1 1 fu y4 q5 _) (cwV 2 hts (gV4 aw874 aw876 aw7 aw52 aw877) rfl rfl rfl (by decide +kernel) ⟨Nat.le_of_ble_eq_true rfl, Nat.le_of_ble_eq_true rfl⟩) (z_preV hK hP hD hS hA hT hN hfo (va_recv hK hP (ci := 7) (q0 := 0) rfl rfl)) rfl rfl hl.1 rfl (lv_room (Nat.le_of_ble_eq_true rfl)) dX7_when_17 ⟨Nat.zero_le _, Nat.zero_le _⟩) hP hD hS hA hfo (fun H locs hP hD hS => ?_)
    refine lv_aload_n hx hb dX7_when_20 rfl (lv_at hl 0 rfl) ?_
    obtain ⟨y6, q7, hf⟩ := bd_use hf
    have hfo : Foc (WMod z a1 y4) (WMod z a1 y4) (WMod z a1 y6) (WMod z a1 y6) := foc_all
    refine z_goV (ws1 := (WMod z a1 y6)) (va_runV (As := []) (rest := []) ⟨hx, hb, hml, hown, hts⟩ (tX7_goesToEnd l D z tt a1 y4  fu y6 q7 _) (cwV 0 hts (gV4 aw1008 aw1010 aw29 aw52 aw1011) rfl rfl rfl (by decide +kernel) ⟨Nat.le_of_ble_eq_true rfl, Nat.le_of_ble_eq_true rfl⟩) (z_preV hK hP hD hS hA hT hN hfo (va_recv hK hP (ci := 7) (q0 := 0) rfl rfl)) rfl rfl hl.1 rfl (lv_room (Nat.le_of_ble_eq_true rfl)) dX7_when_21 ⟨Nat.zero_le _, Nat.zero_le _⟩) hP hD hS hA hfo (fun H locs hP hD hS => ?_)
    refine lv_aload_n hx hb dX7_when_24 rfl (lv_at hl 0 rfl) ?_
    refine va_get (D := D) (ci := 7) (v := .ref (a1 8)) (C := RX7) (T := TX7) (N := 33) hx hb hts iX7 hown hK hP 0 rfl rfl 7 (by decide) (hts _ aw743) (fun _ h9 => h9) rfl dX7_when_25 ?_
    refine lv_iload_n hx hb dX7_when_28 rfl (lv_at hl 1 rfl) ?_
    obtain ⟨h8, hf⟩ := ck_use hf
    refine z_iald hx hb hK hP 8 rfl h8 dX7_when_29 ?_
    refine lv_iconst (v := 2) hx hb dX7_when_30 (by decide) ?_
    obtain ⟨k10, ek10, hf⟩ := jn1_use hf
    have B52_k10 : ∀ (x9 : Int32) (H : Heap) (locs : List Loc), va_P D vwCl (WMod z a1 y6) H → va_D A (WMod z a1 y6) → va_S A s.heap H locs → ∀ (ls : Array Slot), lv_has ls 3 [(0, .ref (a1 0))] → k10 x9 = some (rr, m1') → GI p l e (headSpec wsX7_when ({ frames := 7, cells := 0, slots := 0, locals := 156 } : Room)).room s m ([.ref (a1 0), .int p1] : List Value).toArray below meth c A D z rr (WMod z a1 m1') H locs (F0 m 52 ls [.int x9]) := by
      intro x9 H locs hP hD hS ls hl hf
      have hf := jn1_ap ek10 hf
      refine lv_istore_n (lv' := [(2, .int x9), (0, .ref (a1 0))]) hx hb dX7_when_52 rfl hl (by decide) rfl (fun ls hl => ?_)
      refine lv_aload_n hx hb dX7_when_53 rfl (lv_at hl 1 rfl) ?_
      refine lv_iconst (v := 1) hx hb dX7_when_54 (by decide) ?_
      refine lv_iconst (v := 0) hx hb dX7_when_55 (by decide) ?_
      obtain ⟨y11, q12, hf⟩ := bd_use hf
      have hfo : Foc (WMod z a1 y6) (WMod z a1 y6) (WMod z a1 y11) (WMod z a1 y11) := foc_all
      refine z_goV (ws1 := (WMod z a1 y11)) (va_runV (As := [.int 1, .int 0]) (rest := []) ⟨hx, hb, hml, hown, hts⟩ (tX7_passesAll l D z tt a1 y6 1 0 fu y11 q12 _) (cwV 2 hts (gV4 aw874 aw876 aw7 aw52 aw877) rfl rfl rfl (by decide +kernel) ⟨Nat.le_of_ble_eq_true rfl, Nat.le_of_ble_eq_true rfl⟩) (z_preV hK hP hD hS hA hT hN hfo (va_recv hK hP (ci := 7) (q0 := 0) rfl rfl)) rfl rfl hl.1 rfl (lv_room (Nat.le_of_ble_eq_true rfl)) dX7_when_56 ⟨Nat.zero_le _, Nat.zero_le _⟩) hP hD hS hA hfo (fun H locs hP hD hS => ?_)
      refine lv_iload_n hx hb dX7_when_59 rfl (lv_at hl 0 rfl) ?_
      obtain ⟨rfl, rfl⟩ := so2 hf
      exact ret_i hx hb hr hlocks hK hP hD hS dX7_when_60
    refine lv_icmp_ne (tgt := 50) hx hb dX7_when_31 (by decide) (fun c13 => ?_) (fun c13 => ?_)
    · have hf := if_f c13 hf
      refine lv_bipush (v := (-9)) hx hb dX7_when_50 (by decide) ?_
      exact B52_k10 _ _ _ hP hD hS _ (lv_sub hl [0] rfl) hf
    · have hf := if_t c13 hf
      refine lv_aload_n hx hb dX7_when_34 rfl (lv_at hl 0 rfl) ?_
      refine va_get (D := D) (ci := 7) (v := .ref (a1 5)) (C := RX7) (T := TX7) (N := 33) hx hb hts iX7 hown hK hP 0 rfl rfl 4 (by decide) (hts _ aw740) (fun _ h9 => h9) rfl dX7_when_35 ?_
      refine lv_iload_n hx hb dX7_when_38 rfl (lv_at hl 1 rfl) ?_
      obtain ⟨h14, hf⟩ := ck_use hf
      refine z_iald hx hb hK hP 5 rfl h14 dX7_when_39 ?_
      refine lv_aload_n hx hb dX7_when_40 rfl (lv_at hl 0 rfl) ?_
      refine va_get (D := D) (ci := 7) (v := .ref (a1 9)) (C := RX7) (T := TX7) (N := 33) hx hb hts iX7 hown hK hP 0 rfl rfl 8 (by decide) (hts _ aw744) (fun _ h9 => h9) rfl dX7_when_41 ?_
      refine lv_iload_n hx hb dX7_when_44 rfl (lv_at hl 1 rfl) ?_
      obtain ⟨h15, hf⟩ := ck_use hf
      refine z_iald hx hb hK hP 9 rfl h15 dX7_when_45 ?_
      refine lv_iadd hx hb dX7_when_46 ?_
      refine lv_goto (tgt := 52) hx hb dX7_when_47 (by decide) ?_
      exact B52_k10 _ _ _ hP hD hS _ (lv_sub hl [0] rfl) hf
  · have hf := if_t c3 hf
    refine lv_aload_n hx hb dX7_when_8 rfl (lv_at hl 0 rfl) ?_
    refine lv_iconst (v := (-1)) hx hb dX7_when_9 (by decide) ?_
    obtain ⟨r16, y17, q18, hf⟩ := bd2_use hf
    have hfo : Foc (WMod z a1 m1) (WMod z a1 m1) (WMod z a1 y17) (WMod z a1 y17) := foc_all
    refine z_goI (ws1 := (WMod z a1 y17)) (va_runV (As := [.int (-1)]) (rest := []) ⟨hx, hb, hml, hown, hts⟩ (tX7_no l D z tt a1 m1 (-1) fu r16 y17 q18 _) (cwV 1 hts (gV4 aw843 aw845 aw1 aw52 aw846) rfl rfl rfl (by decide +kernel) ⟨Nat.le_of_ble_eq_true rfl, Nat.le_of_ble_eq_true rfl⟩) (z_preV hK hP hD hS hA hT hN hfo (va_recv hK hP (ci := 7) (q0 := 0) rfl rfl)) rfl rfl hl.1 rfl (lv_room (Nat.le_of_ble_eq_true rfl)) dX7_when_10 ⟨Nat.zero_le _, Nat.zero_le _⟩) hP hD hS hA hfo (fun H locs hP hD hS => ?_)
    obtain ⟨rfl, rfl⟩ := so2 hf
    exact ret_i hx hb hr hlocks hK hP hD hS dX7_when_13
def pX7_bestKind (fu : Nat) (m1 : Mem) (p1 : Int32) (p2 : Int32) : Option (Int32 × Mem) :=
  ck p1 8 <|
  lt' ((m1 3 p1.toNatClampNeg) : Int32) fun x2 =>
  zl4 (fun g8 (x3 : Int32) (x4 : Int32) (x5 : Int32) (y6 : Mem) =>
    if 7 ≤ x5 then
      ck p1 8 <|
      lt' (up2 y6 3 p1.toNatClampNeg x2) fun y11 =>
      some (x3, y11)
    else
      ck p1 8 <|
      lt' (up2 y6 3 p1.toNatClampNeg x5) fun y13 =>
      bd2 (pX7_costAnew fu y13) fun r15 y16 =>
      jn1 (fun (x18 : Int32) =>
        if x18 < x4 then
          lt' (x5 + 1) fun x21 =>
          g8 x5 x18 x21 y16
        else
          lt' (x5 + 1) fun x22 =>
          g8 x3 x4 x22 y16) fun k19 =>
      if p2 = 0 then
        ck p1 8 <|
        if (y16 8 p1.toNatClampNeg) = 2 then
          ck p1 8 <|
          lt' ((y16 9 p1.toNatClampNeg) : Int32) fun x27 =>
          k19 x27
        else
          k19 99
      else
        k19 r15) fu 0 1000000000 0 m1
set_option maxHeartbeats 4000000 in
set_option maxRecDepth 100000 in
theorem tX7_bestKind (l : Launch) (D : va_G) (z tt : Nat → Nat) (a1 : Nat → Nat) (m1 : Mem) (p1 : Int32) (p2 : Int32) (fu : Nat) (rr : Int32) (m1' : Mem) (hf : pX7_bestKind fu m1 p1 p2 = some (rr, m1')) : MetI l yX7_bestKind wsX7_bestKind ({ frames := 8, cells := 0, slots := 0, locals := 176 } : Room) D z tt ([.ref (a1 0), .int p1, .int p2] : List Value) (WMod z a1 m1) rr (WMod z a1 m1') := by
  intro sz
  refine Met.ofW (cc := cX7_bestKind) (maxL := 8) (ret := (some .int)) (by decide) rfl ?_
  intro p e s m args below meth c s₁ B hml hv
  obtain ⟨rfl, hsz, hP, hK, hD0, hT, hN⟩ := hv
  have hx := B.exec
  have hb := B.bytes
  have hr := B.returns
  have hts : ∀ w ∈ wsA, w.before ([.ref (a1 0), .int p1, .int p2] : List Value).toArray s = true := fun w h => atoms_spec (ws := wsX7_bestKind) B.pre w (List.mem_cons_of_mem _ h)
  have hown : s.vm.findClass RX7 = some m.cls := findClass_of_methodNamed B.named
  have hlocks := B.notSynchronized
  subst hsz
  have hD := hD0.self (sz := s.heap.size)
  generalize hAe : va_A (WMod z a1 m1) s.heap.size = A at hD hT ⊢
  have hA : ∀ q : Nat, s.heap.size ≤ q → A q := fun q h => by rw [← hAe]; exact Or.inr h
  have hS : va_S A s.heap s.heap [] := va_S.rf
  have hl := lv_entry ([.ref (a1 0), .int p1, .int p2] : List Value) (n := 8) (Nat.le_of_ble_eq_true rfl)
  rw [lg_entry_eq]
  generalize (lg_sl ([.ref (a1 0), .int p1, .int p2] : List Value) ++ List.replicate (8 - (lg_sl ([.ref (a1 0), .int p1, .int p2] : List Value)).length) Slot.unset).toArray = ls at hl ⊢
  have hl : lv_has ls 8 [(0, .ref (a1 0)), (1, .int p1), (2, .int p2)] := hl
  unfold pX7_bestKind at hf
  refine lv_aload_n hx hb dX7_bestKind_0 rfl (lv_at hl 0 rfl) ?_
  refine va_get (D := D) (ci := 7) (v := .ref (a1 3)) (C := RX7) (T := TX7) (N := 33) hx hb hts iX7 hown hK hP 0 rfl rfl 2 (by decide) (hts _ aw738) (fun _ h9 => h9) rfl dX7_bestKind_1 ?_
  refine lv_iload_n hx hb dX7_bestKind_4 rfl (lv_at hl 1 rfl) ?_
  obtain ⟨h1, hf⟩ := ck_use hf
  refine z_iald hx hb hK hP 3 rfl h1 dX7_bestKind_5 ?_
  refine lv_topi (fun x2 ex2 => ?_)
  have hf := lt_use ex2 hf
  refine lv_istore_n (lv' := [(3, .int x2), (0, .ref (a1 0)), (1, .int p1), (2, .int p2)]) hx hb dX7_bestKind_6 rfl hl (by decide) rfl (fun ls hl => ?_)
  refine lv_iconst (v := 0) hx hb dX7_bestKind_7 (by decide) ?_
  refine lv_istore (lv' := [(4, .int 0), (3, .int x2), (0, .ref (a1 0)), (1, .int p1), (2, .int p2)]) hx hb dX7_bestKind_8 hl (by decide) rfl (fun ls hl => ?_)
  refine lv_ldc (v := 1000000000) hx hb hown (hts _ aw1036) dX7_bestKind_10 ?_
  refine lv_istore (lv' := [(5, .int 1000000000), (4, .int 0), (3, .int x2), (0, .ref (a1 0)), (1, .int p1), (2, .int p2)]) hx hb dX7_bestKind_12 hl (by decide) rfl (fun ls hl => ?_)
  refine lv_iconst (v := 0) hx hb dX7_bestKind_14 (by decide) ?_
  refine lv_istore (lv' := [(6, .int 0), (5, .int 1000000000), (4, .int 0), (3, .int x2), (0, .ref (a1 0)), (1, .int p1), (2, .int p2)]) hx hb dX7_bestKind_15 hl (by decide) rfl (fun ls hl => ?_)
  obtain ⟨F7, eF7, hf⟩ := zl4_use hf
  have L17_F7 : ∀ (n : Nat) (x3 : Int32) (x4 : Int32) (x5 : Int32) (y6 : Mem) (H : Heap) (locs : List Loc), va_P D vwCl (WMod z a1 y6) H → va_D A (WMod z a1 y6) → va_S A s.heap H locs → ∀ (ls : Array Slot), lv_has ls 8 [(0, .ref (a1 0)), (1, .int p1), (2, .int p2), (3, .int x2), (4, .int x3), (5, .int x4), (6, .int x5)] → zl4 F7 n x3 x4 x5 y6 = some (rr, m1') → GI p l e (headSpec wsX7_bestKind ({ frames := 8, cells := 0, slots := 0, locals := 176 } : Room)).room s m ([.ref (a1 0), .int p1, .int p2] : List Value).toArray below meth c A D z rr (WMod z a1 m1') H locs (F0 m 17 ls []) := by
    intro n
    induction n with
    | zero =>
      intro x3 x4 x5 y6 H locs hP hD hS ls hl hf
      exact no_none hf
    | succ n ih9 =>
      intro x3 x4 x5 y6 H locs hP hD hS ls hl hf
      have hf := zl4_s eF7 hf
      refine lv_iload hx hb dX7_bestKind_17 (lv_at hl 6 rfl) ?_
      refine lv_bipush (v := 7) hx hb dX7_bestKind_19 (by decide) ?_
      refine lv_icmp_ge (tgt := 89) hx hb dX7_bestKind_21 (by decide) (fun c10 => ?_) (fun c10 => ?_)
      · have hf := if_t c10 hf
        refine lv_aload_n hx hb dX7_bestKind_89 rfl (lv_at hl 0 rfl) ?_
        refine va_get (D := D) (ci := 7) (v := .ref (a1 3)) (C := RX7) (T := TX7) (N := 33) hx hb hts iX7 hown hK hP 0 rfl rfl 2 (by decide) (hts _ aw738) (fun _ h9 => h9) rfl dX7_bestKind_90 ?_
        refine lv_iload_n hx hb dX7_bestKind_93 rfl (lv_at hl 1 rfl) ?_
        refine lv_iload_n hx hb dX7_bestKind_94 rfl (lv_at hl 3 rfl) ?_
        obtain ⟨h12, hf⟩ := ck_use hf
        refine z_iast hx hb hK hP hD hS 3 rfl h12 dX7_bestKind_95 (fun (w9 : Mem) => (WMod z a1 w9)) (up2 y6 3 p1.toNatClampNeg x2) rfl (fun y11 ey11 H locs hP hD hS => ?_)
        have hf := lt_use ey11 hf
        refine lv_iload hx hb dX7_bestKind_96 (lv_at hl 4 rfl) ?_
        obtain ⟨rfl, rfl⟩ := so2 hf
        exact ret_i hx hb hr hlocks hK hP hD hS dX7_bestKind_98
      · have hf := if_f c10 hf
        refine lv_aload_n hx hb dX7_bestKind_24 rfl (lv_at hl 0 rfl) ?_
        refine va_get (D := D) (ci := 7) (v := .ref (a1 3)) (C := RX7) (T := TX7) (N := 33) hx hb hts iX7 hown hK hP 0 rfl rfl 2 (by decide) (hts _ aw738) (fun _ h9 => h9) rfl dX7_bestKind_25 ?_
        refine lv_iload_n hx hb dX7_bestKind_28 rfl (lv_at hl 1 rfl) ?_
        refine lv_iload hx hb dX7_bestKind_29 (lv_at hl 6 rfl) ?_
        obtain ⟨h14, hf⟩ := ck_use hf
        refine z_iast hx hb hK hP hD hS 3 rfl h14 dX7_bestKind_31 (fun (w9 : Mem) => (WMod z a1 w9)) (up2 y6 3 p1.toNatClampNeg x5) rfl (fun y13 ey13 H locs hP hD hS => ?_)
        have hf := lt_use ey13 hf
        refine lv_aload_n hx hb dX7_bestKind_32 rfl (lv_at hl 0 rfl) ?_
        obtain ⟨r15, y16, q17, hf⟩ := bd2_use hf
        have hfo : Foc (WMod z a1 y13) (WMod z a1 y13) (WMod z a1 y16) (WMod z a1 y16) := foc_all
        refine z_goI (ws1 := (WMod z a1 y16)) (va_runV (As := []) (rest := []) ⟨hx, hb, hml, hown, hts⟩ (tX7_costAnew l D z tt a1 y13  fu r15 y16 q17 _) (cwV 0 hts (gV4 aw1037 aw1039 aw34 aw52 aw1040) rfl rfl rfl (by decide +kernel) ⟨Nat.le_of_ble_eq_true rfl, Nat.le_of_ble_eq_true rfl⟩) (z_preV hK hP hD hS hA hT hN hfo (va_recv hK hP (ci := 7) (q0 := 0) rfl rfl)) rfl rfl hl.1 rfl (lv_room (Nat.le_of_ble_eq_true rfl)) dX7_bestKind_33 ⟨Nat.zero_le _, Nat.zero_le _⟩) hP hD hS hA hfo (fun H locs hP hD hS => ?_)
        refine lv_istore (lv' := [(7, .int r15), (0, .ref (a1 0)), (1, .int p1), (2, .int p2), (3, .int x2), (4, .int x3), (5, .int x4), (6, .int x5)]) hx hb dX7_bestKind_36 hl (by decide) rfl (fun ls hl => ?_)
        refine lv_iload_n hx hb dX7_bestKind_38 rfl (lv_at hl 3 rfl) ?_
        obtain ⟨k19, ek19, hf⟩ := jn1_use hf
        have B65_k19 : ∀ (x18 : Int32) (H : Heap) (locs : List Loc), va_P D vwCl (WMod z a1 y16) H → va_D A (WMod z a1 y16) → va_S A s.heap H locs → ∀ (ls : Array Slot), lv_has ls 8 [(0, .ref (a1 0)), (1, .int p1), (2, .int p2), (3, .int x2), (4, .int x3), (5, .int x4), (6, .int x5), (7, .int x18)] → k19 x18 = some (rr, m1') → GI p l e (headSpec wsX7_bestKind ({ frames := 8, cells := 0, slots := 0, locals := 176 } : Room)).room s m ([.ref (a1 0), .int p1, .int p2] : List Value).toArray below meth c A D z rr (WMod z a1 m1') H locs (F0 m 65 ls []) := by
          intro x18 H locs hP hD hS ls hl hf
          have hf := jn1_ap ek19 hf
          refine lv_iload hx hb dX7_bestKind_65 (lv_at hl 7 rfl) ?_
          refine lv_iload hx hb dX7_bestKind_67 (lv_at hl 5 rfl) ?_
          refine lv_icmp_lt (tgt := 75) hx hb dX7_bestKind_69 (by decide) (fun c20 => ?_) (fun c20 => ?_)
          · have hf := if_t c20 hf
            refine lv_iload hx hb dX7_bestKind_75 (lv_at hl 6 rfl) ?_
            refine lv_istore (lv' := [(4, .int x5), (0, .ref (a1 0)), (1, .int p1), (2, .int p2), (3, .int x2), (5, .int x4), (6, .int x5), (7, .int x18)]) hx hb dX7_bestKind_77 hl (by decide) rfl (fun ls hl => ?_)
            refine lv_iload hx hb dX7_bestKind_79 (lv_at hl 7 rfl) ?_
            refine lv_istore (lv' := [(5, .int x18), (4, .int x5), (0, .ref (a1 0)), (1, .int p1), (2, .int p2), (3, .int x2), (6, .int x5), (7, .int x18)]) hx hb dX7_bestKind_81 hl (by decide) rfl (fun ls hl => ?_)
            obtain ⟨x21, ex21⟩ : ∃ y : Int32, y = x5 + 1 := ⟨_, rfl⟩
            have hf := lt_use ex21 hf
            refine lv_iinc (v := x21) (lv' := [(6, .int x21), (5, .int x18), (4, .int x5), (0, .ref (a1 0)), (1, .int p1), (2, .int p2), (3, .int x2), (7, .int x18)]) hx hb dX7_bestKind_83 hl (k := 6) rfl (by rw [ex21]; rfl) (by decide) rfl (fun ls hl => ?_)
            refine lv_goto (tgt := 17) hx hb dX7_bestKind_86 (by decide) ?_
            exact ih9 _ _ _ _ _ _ hP hD hS _ (lv_sub hl [3, 4, 5, 6, 2, 1, 0] rfl) hf
          · have hf := if_f c20 hf
            refine lv_goto (tgt := 83) hx hb dX7_bestKind_72 (by decide) ?_
            obtain ⟨x22, ex22⟩ : ∃ y : Int32, y = x5 + 1 := ⟨_, rfl⟩
            have hf := lt_use ex22 hf
            refine lv_iinc (v := x22) (lv' := [(6, .int x22), (0, .ref (a1 0)), (1, .int p1), (2, .int p2), (3, .int x2), (4, .int x3), (5, .int x4), (7, .int x18)]) hx hb dX7_bestKind_83 hl (k := 6) rfl (by rw [ex22]; rfl) (by decide) rfl (fun ls hl => ?_)
            refine lv_goto (tgt := 17) hx hb dX7_bestKind_86 (by decide) ?_
            exact ih9 _ _ _ _ _ _ hP hD hS _ (lv_sub hl [1, 2, 3, 4, 5, 6, 0] rfl) hf
        refine lv_if_ne (tgt := 65) hx hb dX7_bestKind_39 (by decide) (fun c23 => ?_) (fun c23 => ?_)
        · have hf := if_f c23 hf
          exact B65_k19 _ _ _ hP hD hS _ (lv_sub hl [1, 2, 3, 4, 5, 6, 7, 0] rfl) hf
        · have hf := if_t c23 hf
          refine lv_aload_n hx hb dX7_bestKind_42 rfl (lv_at hl 1 rfl) ?_
          refine va_get (D := D) (ci := 7) (v := .ref (a1 8)) (C := RX7) (T := TX7) (N := 33) hx hb hts iX7 hown hK hP 0 rfl rfl 7 (by decide) (hts _ aw743) (fun _ h9 => h9) rfl dX7_bestKind_43 ?_
          refine lv_iload_n hx hb dX7_bestKind_46 rfl (lv_at hl 2 rfl) ?_
          obtain ⟨h24, hf⟩ := ck_use hf
          refine z_iald hx hb hK hP 8 rfl h24 dX7_bestKind_47 ?_
          refine lv_iconst (v := 2) hx hb dX7_bestKind_48 (by decide) ?_
          refine lv_icmp_ne (tgt := 61) hx hb dX7_bestKind_49 (by decide) (fun c25 => ?_) (fun c25 => ?_)
          · have hf := if_f c25 hf
            refine lv_bipush (v := 99) hx hb dX7_bestKind_61 (by decide) ?_
            refine lv_istore (lv' := [(7, .int 99), (0, .ref (a1 0)), (1, .int p1), (2, .int p2), (3, .int x2), (4, .int x3), (5, .int x4), (6, .int x5)]) hx hb dX7_bestKind_63 hl (by decide) rfl (fun ls hl => ?_)
            exact B65_k19 _ _ _ hP hD hS _ (lv_sub hl [1, 2, 3, 4, 5, 6, 7, 0] rfl) hf
          · have hf := if_t c25 hf
            refine lv_aload_n hx hb dX7_bestKind_52 rfl (lv_at hl 1 rfl) ?_
            refine va_get (D := D) (ci := 7) (v := .ref (a1 9)) (C := RX7) (T := TX7) (N := 33) hx hb hts iX7 hown hK hP 0 rfl rfl 8 (by decide) (hts _ aw744) (fun _ h9 => h9) rfl dX7_bestKind_53 ?_
            refine lv_iload_n hx hb dX7_bestKind_56 rfl (lv_at hl 2 rfl) ?_
            obtain ⟨h26, hf⟩ := ck_use hf
            refine z_iald hx hb hK hP 9 rfl h26 dX7_bestKind_57 ?_
            refine lv_goto (tgt := 63) hx hb dX7_bestKind_58 (by decide) ?_
            refine lv_topi (fun x27 ex27 => ?_)
            have hf := lt_use ex27 hf
            refine lv_istore (lv' := [(7, .int x27), (0, .ref (a1 0)), (1, .int p1), (2, .int p2), (3, .int x2), (4, .int x3), (5, .int x4), (6, .int x5)]) hx hb dX7_bestKind_63 hl (by decide) rfl (fun ls hl => ?_)
            exact B65_k19 _ _ _ hP hD hS _ (lv_sub hl [1, 2, 3, 4, 5, 6, 7, 0] rfl) hf
  exact L17_F7 fu _ _ _ _ _ _ hP hD hS _ (lv_sub hl [4, 5, 6, 3, 2, 1, 0] rfl) hf
def pX7_best (fu : Nat) (m1 : Mem) (p1 : Int32) (p2 : Int32) : Option (Int32 × Mem) :=
  bd (pX7_isComer fu m1 p1) fun r1 =>
  if r1 = 0 then
    bd2 (pX7_no fu m1 (-1)) fun r17 y18 =>
    some (r17, y18)
  else
    bd (pX7_isIn fu p2 0 1) fun r4 =>
    if r4 = 0 then
      bd2 (pX7_no fu m1 (-2)) fun r14 y15 =>
      some (r14, y15)
    else
      bd (pX7_passesAll fu m1 1 1) fun y7 =>
      bd2 (pX7_bestKind fu y7 p1 p2) fun r9 y10 =>
      bd (pX7_passesAll fu y10 1 0) fun y12 =>
      some (r9, y12)
set_option maxHeartbeats 4000000 in
set_option maxRecDepth 100000 in
theorem tX7_best (l : Launch) (D : va_G) (z tt : Nat → Nat) (a1 : Nat → Nat) (m1 : Mem) (p1 : Int32) (p2 : Int32) (fu : Nat) (rr : Int32) (m1' : Mem) (hf : pX7_best fu m1 p1 p2 = some (rr, m1')) : MetI l yX7_best wsX7_best ({ frames := 9, cells := 0, slots := 0, locals := 203 } : Room) D z tt ([.ref (a1 0), .int p1, .int p2] : List Value) (WMod z a1 m1) rr (WMod z a1 m1') := by
  intro sz
  refine Met.ofW (cc := cX7_best) (maxL := 4) (ret := (some .int)) (by decide) rfl ?_
  intro p e s m args below meth c s₁ B hml hv
  obtain ⟨rfl, hsz, hP, hK, hD0, hT, hN⟩ := hv
  have hx := B.exec
  have hb := B.bytes
  have hr := B.returns
  have hts : ∀ w ∈ wsA, w.before ([.ref (a1 0), .int p1, .int p2] : List Value).toArray s = true := fun w h => atoms_spec (ws := wsX7_best) B.pre w (List.mem_cons_of_mem _ h)
  have hown : s.vm.findClass RX7 = some m.cls := findClass_of_methodNamed B.named
  have hlocks := B.notSynchronized
  subst hsz
  have hD := hD0.self (sz := s.heap.size)
  generalize hAe : va_A (WMod z a1 m1) s.heap.size = A at hD hT ⊢
  have hA : ∀ q : Nat, s.heap.size ≤ q → A q := fun q h => by rw [← hAe]; exact Or.inr h
  have hS : va_S A s.heap s.heap [] := va_S.rf
  have hl := lv_entry ([.ref (a1 0), .int p1, .int p2] : List Value) (n := 4) (Nat.le_of_ble_eq_true rfl)
  rw [lg_entry_eq]
  generalize (lg_sl ([.ref (a1 0), .int p1, .int p2] : List Value) ++ List.replicate (4 - (lg_sl ([.ref (a1 0), .int p1, .int p2] : List Value)).length) Slot.unset).toArray = ls at hl ⊢
  have hl : lv_has ls 4 [(0, .ref (a1 0)), (1, .int p1), (2, .int p2)] := hl
  unfold pX7_best at hf
  refine lv_aload_n hx hb dX7_best_0 rfl (lv_at hl 0 rfl) ?_
  refine lv_iload_n hx hb dX7_best_1 rfl (lv_at hl 1 rfl) ?_
  obtain ⟨r1, q2, hf⟩ := bd_use hf
  have hfo : Foc (WMod z a1 m1) (WMod z a1 m1) (WMod z a1 m1) (WMod z a1 m1) := foc_all
  refine z_goI (ws1 := (WMod z a1 m1)) (va_runV (As := [.int p1]) (rest := []) ⟨hx, hb, hml, hown, hts⟩ (tX7_isComer l D z tt a1 m1 p1 fu r1 q2 _) (cwV 1 hts (gV4 aw904 aw906 aw13 aw52 aw907) rfl rfl rfl (by decide +kernel) ⟨Nat.le_of_ble_eq_true rfl, Nat.le_of_ble_eq_true rfl⟩) (z_preV hK hP hD hS hA hT hN hfo (va_recv hK hP (ci := 7) (q0 := 0) rfl rfl)) rfl rfl hl.1 rfl (lv_room (Nat.le_of_ble_eq_true rfl)) dX7_best_2 ⟨Nat.zero_le _, Nat.zero_le _⟩) hP hD hS hA hfo (fun H locs hP hD hS => ?_)
  refine lv_if_ne (tgt := 14) hx hb dX7_best_5 (by decide) (fun c3 => ?_) (fun c3 => ?_)
  · have hf := if_f c3 hf
    refine lv_iload_n hx hb dX7_best_14 rfl (lv_at hl 2 rfl) ?_
    refine lv_iconst (v := 0) hx hb dX7_best_15 (by decide) ?_
    refine lv_iconst (v := 1) hx hb dX7_best_16 (by decide) ?_
    obtain ⟨r4, q5, hf⟩ := bd_use hf
    have hfo : Foc (WMod z a1 m1) ([] : va_W) (WMod z a1 m1) ([] : va_W) := foc_nil
    refine z_goI (ws1 := (WMod z a1 m1)) (va_runS (As := [.int p2, .int 0, .int 1]) (rest := []) ⟨hx, hb, hml, hown, hts⟩ (tX7_isIn l D z tt  p2 0 1 fu r4 q5 _) (va_cwS 3 hts (gS3 aw867 aw868 aw52 aw869) rfl rfl rfl (by decide +kernel) ⟨Nat.le_of_ble_eq_true rfl, Nat.le_of_ble_eq_true rfl⟩) (z_preS hK hP hD hS hA hT hN hfo) rfl rfl hl.1 rfl (lv_room (Nat.le_of_ble_eq_true rfl)) dX7_best_17 ⟨Nat.zero_le _, Nat.zero_le _⟩) hP hD hS hA hfo (fun H locs hP hD hS => ?_)
    refine lv_if_ne (tgt := 30) hx hb dX7_best_20 (by decide) (fun c6 => ?_) (fun c6 => ?_)
    · have hf := if_f c6 hf
      refine lv_aload_n hx hb dX7_best_30 rfl (lv_at hl 0 rfl) ?_
      refine lv_iconst (v := 1) hx hb dX7_best_31 (by decide) ?_
      refine lv_iconst (v := 1) hx hb dX7_best_32 (by decide) ?_
      obtain ⟨y7, q8, hf⟩ := bd_use hf
      have hfo : Foc (WMod z a1 m1) (WMod z a1 m1) (WMod z a1 y7) (WMod z a1 y7) := foc_all
      refine z_goV (ws1 := (WMod z a1 y7)) (va_runV (As := [.int 1, .int 1]) (rest := []) ⟨hx, hb, hml, hown, hts⟩ (tX7_passesAll l D z tt a1 m1 1 1 fu y7 q8 _) (cwV 2 hts (gV4 aw874 aw876 aw7 aw52 aw877) rfl rfl rfl (by decide +kernel) ⟨Nat.le_of_ble_eq_true rfl, Nat.le_of_ble_eq_true rfl⟩) (z_preV hK hP hD hS hA hT hN hfo (va_recv hK hP (ci := 7) (q0 := 0) rfl rfl)) rfl rfl hl.1 rfl (lv_room (Nat.le_of_ble_eq_true rfl)) dX7_best_33 ⟨Nat.zero_le _, Nat.zero_le _⟩) hP hD hS hA hfo (fun H locs hP hD hS => ?_)
      refine lv_aload_n hx hb dX7_best_36 rfl (lv_at hl 0 rfl) ?_
      refine lv_iload_n hx hb dX7_best_37 rfl (lv_at hl 1 rfl) ?_
      refine lv_iload_n hx hb dX7_best_38 rfl (lv_at hl 2 rfl) ?_
      obtain ⟨r9, y10, q11, hf⟩ := bd2_use hf
      have hfo : Foc (WMod z a1 y7) (WMod z a1 y7) (WMod z a1 y10) (WMod z a1 y10) := foc_all
      refine z_goI (ws1 := (WMod z a1 y10)) (va_runV (As := [.int p1, .int p2]) (rest := []) ⟨hx, hb, hml, hown, hts⟩ (tX7_bestKind l D z tt a1 y7 p1 p2 fu r9 y10 q11 _) (cwV 2 hts (gV4 aw1032 aw1034 aw33 aw52 aw1035) rfl rfl rfl (by decide +kernel) ⟨Nat.le_of_ble_eq_true rfl, Nat.le_of_ble_eq_true rfl⟩) (z_preV hK hP hD hS hA hT hN hfo (va_recv hK hP (ci := 7) (q0 := 0) rfl rfl)) rfl rfl hl.1 rfl (lv_room (Nat.le_of_ble_eq_true rfl)) dX7_best_39 ⟨Nat.zero_le _, Nat.zero_le _⟩) hP hD hS hA hfo (fun H locs hP hD hS => ?_)
      refine lv_istore_n (lv' := [(3, .int r9), (0, .ref (a1 0)), (1, .int p1), (2, .int p2)]) hx hb dX7_best_42 rfl hl (by decide) rfl (fun ls hl => ?_)
      refine lv_aload_n hx hb dX7_best_43 rfl (lv_at hl 1 rfl) ?_
      refine lv_iconst (v := 1) hx hb dX7_best_44 (by decide) ?_
      refine lv_iconst (v := 0) hx hb dX7_best_45 (by decide) ?_
      obtain ⟨y12, q13, hf⟩ := bd_use hf
      have hfo : Foc (WMod z a1 y10) (WMod z a1 y10) (WMod z a1 y12) (WMod z a1 y12) := foc_all
      refine z_goV (ws1 := (WMod z a1 y12)) (va_runV (As := [.int 1, .int 0]) (rest := []) ⟨hx, hb, hml, hown, hts⟩ (tX7_passesAll l D z tt a1 y10 1 0 fu y12 q13 _) (cwV 2 hts (gV4 aw874 aw876 aw7 aw52 aw877) rfl rfl rfl (by decide +kernel) ⟨Nat.le_of_ble_eq_true rfl, Nat.le_of_ble_eq_true rfl⟩) (z_preV hK hP hD hS hA hT hN hfo (va_recv hK hP (ci := 7) (q0 := 0) rfl rfl)) rfl rfl hl.1 rfl (lv_room (Nat.le_of_ble_eq_true rfl)) dX7_best_46 ⟨Nat.zero_le _, Nat.zero_le _⟩) hP hD hS hA hfo (fun H locs hP hD hS => ?_)
      refine lv_iload_n hx hb dX7_best_49 rfl (lv_at hl 0 rfl) ?_
      obtain ⟨rfl, rfl⟩ := so2 hf
      exact ret_i hx hb hr hlocks hK hP hD hS dX7_best_50
    · have hf := if_t c6 hf
      refine lv_aload_n hx hb dX7_best_23 rfl (lv_at hl 0 rfl) ?_
      refine lv_bipush (v := (-2)) hx hb dX7_best_24 (by decide) ?_
      obtain ⟨r14, y15, q16, hf⟩ := bd2_use hf
      have hfo : Foc (WMod z a1 m1) (WMod z a1 m1) (WMod z a1 y15) (WMod z a1 y15) := foc_all
      refine z_goI (ws1 := (WMod z a1 y15)) (va_runV (As := [.int (-2)]) (rest := []) ⟨hx, hb, hml, hown, hts⟩ (tX7_no l D z tt a1 m1 (-2) fu r14 y15 q16 _) (cwV 1 hts (gV4 aw843 aw845 aw1 aw52 aw846) rfl rfl rfl (by decide +kernel) ⟨Nat.le_of_ble_eq_true rfl, Nat.le_of_ble_eq_true rfl⟩) (z_preV hK hP hD hS hA hT hN hfo (va_recv hK hP (ci := 7) (q0 := 0) rfl rfl)) rfl rfl hl.1 rfl (lv_room (Nat.le_of_ble_eq_true rfl)) dX7_best_26 ⟨Nat.zero_le _, Nat.zero_le _⟩) hP hD hS hA hfo (fun H locs hP hD hS => ?_)
      obtain ⟨rfl, rfl⟩ := so2 hf
      exact ret_i hx hb hr hlocks hK hP hD hS dX7_best_29
  · have hf := if_t c3 hf
    refine lv_aload_n hx hb dX7_best_8 rfl (lv_at hl 0 rfl) ?_
    refine lv_iconst (v := (-1)) hx hb dX7_best_9 (by decide) ?_
    obtain ⟨r17, y18, q19, hf⟩ := bd2_use hf
    have hfo : Foc (WMod z a1 m1) (WMod z a1 m1) (WMod z a1 y18) (WMod z a1 y18) := foc_all
    refine z_goI (ws1 := (WMod z a1 y18)) (va_runV (As := [.int (-1)]) (rest := []) ⟨hx, hb, hml, hown, hts⟩ (tX7_no l D z tt a1 m1 (-1) fu r17 y18 q19 _) (cwV 1 hts (gV4 aw843 aw845 aw1 aw52 aw846) rfl rfl rfl (by decide +kernel) ⟨Nat.le_of_ble_eq_true rfl, Nat.le_of_ble_eq_true rfl⟩) (z_preV hK hP hD hS hA hT hN hfo (va_recv hK hP (ci := 7) (q0 := 0) rfl rfl)) rfl rfl hl.1 rfl (lv_room (Nat.le_of_ble_eq_true rfl)) dX7_best_10 ⟨Nat.zero_le _, Nat.zero_le _⟩) hP hD hS hA hfo (fun H locs hP hD hS => ?_)
    obtain ⟨rfl, rfl⟩ := so2 hf
    exact ret_i hx hb hr hlocks hK hP hD hS dX7_best_13
