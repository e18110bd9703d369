def pX6_urn (fu : Nat) (m1 : Mem) (m2 : Mem) (m5 : Mem) (m6 : Mem) (p1 : Int32) : Option (Int32 × Mem × Mem × Mem) :=
  if 0 ≤ p1 then
    if p1 ≤ 99 then
      bd (pX5_take fu m5 m2) fun y3 =>
      bd (pX0_take fu m6 m2) fun y5 =>
      bd (pX0_hours fu y5) fun r7 =>
      bd2 (pX5_costAnew fu y3) fun r9 y10 =>
      if r9 ≤ (r7 * p1) then
        some (0, m1, y10, y5)
      else
        some (1, m1, y10, y5)
    else
      bd2 (pX6_refuse fu m1 (-6)) fun r13 y14 =>
      some (r13, y14, m5, m6)
  else
    bd2 (pX6_refuse fu m1 (-4)) fun r16 y17 =>
    some (r16, y17, m5, m6)
set_option maxHeartbeats 4000000 in
set_option maxRecDepth 100000 in
theorem tX6_urn (l : Launch) (D : va_G) (z tt : Nat → Nat) (a1 : Nat → Nat) (a2 : Nat → Nat) (a3 : Nat → Nat) (a4 : Nat) (a5 : Nat → Nat) (a6 : Nat → Nat) (a7 : Nat → Nat) (m1 : Mem) (m2 : Mem) (m3 : Mem) (m4 : Mem) (m5 : Mem) (m6 : Mem) (m7 : Mem) (p1 : Int32) (fu : Nat) (rr : Int32) (m1' : Mem) (m5' : Mem) (m6' : Mem) (hf : pX6_urn fu m1 m2 m5 m6 p1 = some (rr, m1', m5', m6')) : MetI l yX6_urn wsX6_urn ({ frames := 5, cells := 0, slots := 0, locals := 112 } : Room) D z tt ([.ref (a1 0), .int p1] : List Value) (WFac z a1 (a2 0) (a3 0) a4 (a6 0) (a7 0) m1 ++ (WDay z a2 m2 ++ (WDay z a3 m3 ++ (WMin a4 (a5 0) m4 ++ (WDay z a5 m5 ++ (WArr z a6 m6 ++ (WLet z a7 m7))))))) rr (WFac z a1 (a2 0) (a3 0) a4 (a6 0) (a7 0) m1' ++ (WDay z a2 m2 ++ (WDay z a3 m3 ++ (WMin a4 (a5 0) m4 ++ (WDay z a5 m5' ++ (WArr z a6 m6' ++ (WLet z a7 m7))))))) := by
  intro sz
  refine Met.ofW (cc := cX6_urn) (maxL := 2) (ret := (some .int)) (by decide) rfl ?_
  intro p e s m args below meth c s₁ B hml hv
  obtain ⟨rfl, hsz, hP, hK, hD0, hT, hN⟩ := hv
  have hx := B.exec
  have hb := B.bytes
  have hr := B.returns
  have hts : ∀ w ∈ wsA, w.before ([.ref (a1 0), .int p1] : List Value).toArray s = true := fun w h => atoms_spec (ws := wsX6_urn) B.pre w (List.mem_cons_of_mem _ h)
  have hown : s.vm.findClass RX6 = some m.cls := findClass_of_methodNamed B.named
  have hlocks := B.notSynchronized
  subst hsz
  have hD := hD0.self (sz := s.heap.size)
  generalize hAe : va_A (WFac z a1 (a2 0) (a3 0) a4 (a6 0) (a7 0) m1 ++ (WDay z a2 m2 ++ (WDay z a3 m3 ++ (WMin a4 (a5 0) m4 ++ (WDay z a5 m5 ++ (WArr z a6 m6 ++ (WLet z a7 m7))))))) s.heap.size = A at hD hT ⊢
  have hA : ∀ q : Nat, s.heap.size ≤ q → A q := fun q h => by rw [← hAe]; exact Or.inr h
  have hS : va_S A s.heap s.heap [] := va_S.rf
  have hl := lv_entry ([.ref (a1 0), .int p1] : List Value) (n := 2) (Nat.le_of_ble_eq_true rfl)
  rw [lg_entry_eq]
  generalize (lg_sl ([.ref (a1 0), .int p1] : List Value) ++ List.replicate (2 - (lg_sl ([.ref (a1 0), .int p1] : List Value)).length) Slot.unset).toArray = ls at hl ⊢
  have hl : lv_has ls 2 [(0, .ref (a1 0)), (1, .int p1)] := hl
  unfold pX6_urn at hf
  refine lv_iload_n hx hb dX6_urn_0 rfl (lv_at hl 1 rfl) ?_
  refine lv_if_ge (tgt := 11) hx hb dX6_urn_1 (by decide) (fun c1 => ?_) (fun c1 => ?_)
  · have hf := if_t c1 hf
    refine lv_iload_n hx hb dX6_urn_11 rfl (lv_at hl 1 rfl) ?_
    refine lv_bipush (v := 99) hx hb dX6_urn_12 (by decide) ?_
    refine lv_icmp_le (tgt := 24) hx hb dX6_urn_14 (by decide) (fun c2 => ?_) (fun c2 => ?_)
    · have hf := if_t c2 hf
      refine lv_aload_n hx hb dX6_urn_24 rfl (lv_at hl 0 rfl) ?_
      refine va_get (D := D) (ci := 6) (v := .ref a4) (C := RX6) (T := TX6) (N := 9) hx hb hts iX6 hown hK hP 0 rfl rfl 2 (by decide) (hts _ aw242) (fun _ h9 => h9) rfl dX6_urn_25 ?_
      refine lv_aload_n hx hb dX6_urn_28 rfl (lv_at hl 0 rfl) ?_
      refine va_get (D := D) (ci := 6) (v := .ref (a2 0)) (C := RX6) (T := TX6) (N := 9) hx hb hts iX6 hown hK hP 0 rfl rfl 0 (by decide) (hts _ aw240) (fun _ h9 => h9) rfl dX6_urn_29 ?_
      obtain ⟨y3, q4, hf⟩ := bd_use hf
      have hfo : Foc (WFac z a1 (a2 0) (a3 0) a4 (a6 0) (a7 0) m1 ++ (WDay z a2 m2 ++ (WDay z a3 m3 ++ (WMin a4 (a5 0) m4 ++ (WDay z a5 m5 ++ (WArr z a6 m6 ++ (WLet z a7 m7))))))) (WMin a4 (a5 0) m4 ++ (WDay z a5 m5 ++ (WDay z a2 m2))) (WFac z a1 (a2 0) (a3 0) a4 (a6 0) (a7 0) m1 ++ (WDay z a2 m2 ++ (WDay z a3 m3 ++ (WMin a4 (a5 0) m4 ++ (WDay z a5 y3 ++ (WArr z a6 m6 ++ (WLet z a7 m7))))))) (WMin a4 (a5 0) m4 ++ (WDay z a5 y3 ++ (WDay z a2 m2))) := (foc_rot (foc_r (foc_app foc_all (foc_r (foc_app foc_all (foc_l foc_all))))))
      refine z_goV (ws1 := (WFac z a1 (a2 0) (a3 0) a4 (a6 0) (a7 0) m1 ++ (WDay z a2 m2 ++ (WDay z a3 m3 ++ (WMin a4 (a5 0) m4 ++ (WDay z a5 y3 ++ (WArr z a6 m6 ++ (WLet z a7 m7)))))))) (va_runV (As := [.ref (a2 0)]) (rest := []) ⟨hx, hb, hml, hown, hts⟩ (tX5_take l D z tt a4 a5 a2 m4 m5 m2  fu y3 q4 _) (cwV 1 hts (gV4 aw284 aw285 aw286 aw49 aw287) rfl rfl rfl (by decide +kernel) ⟨Nat.le_of_ble_eq_true rfl, Nat.le_of_ble_eq_true rfl⟩) (z_preV hK hP hD hS hA hT hN hfo (va_recv hK hP (ci := 5) (q0 := 33) rfl rfl)) rfl rfl hl.1 rfl (lv_room (Nat.le_of_ble_eq_true rfl)) dX6_urn_32 ⟨Nat.zero_le _, Nat.zero_le _⟩) hP hD hS hA hfo (fun H locs hP hD hS => ?_)
      refine lv_aload_n hx hb dX6_urn_35 rfl (lv_at hl 0 rfl) ?_
      refine va_get (D := D) (ci := 6) (v := .ref (a6 0)) (C := RX6) (T := TX6) (N := 9) hx hb hts iX6 hown hK hP 0 rfl rfl 3 (by decide) (hts _ aw243) (fun _ h9 => h9) rfl dX6_urn_36 ?_
      refine lv_aload_n hx hb dX6_urn_39 rfl (lv_at hl 0 rfl) ?_
      refine va_get (D := D) (ci := 6) (v := .ref (a2 0)) (C := RX6) (T := TX6) (N := 9) hx hb hts iX6 hown hK hP 0 rfl rfl 0 (by decide) (hts _ aw240) (fun _ h9 => h9) rfl dX6_urn_40 ?_
      obtain ⟨y5, q6, hf⟩ := bd_use hf
      have hfo : Foc (WFac z a1 (a2 0) (a3 0) a4 (a6 0) (a7 0) m1 ++ (WDay z a2 m2 ++ (WDay z a3 m3 ++ (WMin a4 (a5 0) m4 ++ (WDay z a5 y3 ++ (WArr z a6 m6 ++ (WLet z a7 m7))))))) (WArr z a6 m6 ++ (WDay z a2 m2)) (WFac z a1 (a2 0) (a3 0) a4 (a6 0) (a7 0) m1 ++ (WDay z a2 m2 ++ (WDay z a3 m3 ++ (WMin a4 (a5 0) m4 ++ (WDay z a5 y3 ++ (WArr z a6 y5 ++ (WLet z a7 m7))))))) (WArr z a6 y5 ++ (WDay z a2 m2)) := (foc_swap (foc_r (foc_app foc_all (foc_r (foc_r (foc_r (foc_l foc_all)))))))
      refine z_goV (ws1 := (WFac z a1 (a2 0) (a3 0) a4 (a6 0) (a7 0) m1 ++ (WDay z a2 m2 ++ (WDay z a3 m3 ++ (WMin a4 (a5 0) m4 ++ (WDay z a5 y3 ++ (WArr z a6 y5 ++ (WLet z a7 m7)))))))) (va_runV (As := [.ref (a2 0)]) (rest := []) ⟨hx, hb, hml, hown, hts⟩ (tX0_take l D z tt a6 a2 m6 m2  fu y5 q6 _) (cwV 1 hts (gV4 aw609 aw610 aw611 aw50 aw612) rfl rfl rfl (by decide +kernel) ⟨Nat.le_of_ble_eq_true rfl, Nat.le_of_ble_eq_true rfl⟩) (z_preV hK hP hD hS hA hT hN hfo (va_recv hK hP (ci := 0) (q0 := 49) rfl rfl)) rfl rfl hl.1 rfl (lv_room (Nat.le_of_ble_eq_true rfl)) dX6_urn_43 ⟨Nat.zero_le _, Nat.zero_le _⟩) hP hD hS hA hfo (fun H locs hP hD hS => ?_)
      refine lv_aload_n hx hb dX6_urn_46 rfl (lv_at hl 0 rfl) ?_
      refine va_get (D := D) (ci := 6) (v := .ref (a6 0)) (C := RX6) (T := TX6) (N := 9) hx hb hts iX6 hown hK hP 0 rfl rfl 3 (by decide) (hts _ aw243) (fun _ h9 => h9) rfl dX6_urn_47 ?_
      obtain ⟨r7, q8, hf⟩ := bd_use hf
      have hfo : Foc (WFac z a1 (a2 0) (a3 0) a4 (a6 0) (a7 0) m1 ++ (WDay z a2 m2 ++ (WDay z a3 m3 ++ (WMin a4 (a5 0) m4 ++ (WDay z a5 y3 ++ (WArr z a6 y5 ++ (WLet z a7 m7))))))) (WArr z a6 y5) (WFac z a1 (a2 0) (a3 0) a4 (a6 0) (a7 0) m1 ++ (WDay z a2 m2 ++ (WDay z a3 m3 ++ (WMin a4 (a5 0) m4 ++ (WDay z a5 y3 ++ (WArr z a6 y5 ++ (WLet z a7 m7))))))) (WArr z a6 y5) := (foc_r (foc_r (foc_r (foc_r (foc_r (foc_l foc_all))))))
      refine z_goI (ws1 := (WFac z a1 (a2 0) (a3 0) a4 (a6 0) (a7 0) m1 ++ (WDay z a2 m2 ++ (WDay z a3 m3 ++ (WMin a4 (a5 0) m4 ++ (WDay z a5 y3 ++ (WArr z a6 y5 ++ (WLet z a7 m7)))))))) (va_runV (As := []) (rest := []) ⟨hx, hb, hml, hown, hts⟩ (tX0_hours l D z tt a6 y5  fu r7 q8 _) (cwV 0 hts (gV4 aw617 aw618 aw619 aw50 aw620) rfl rfl rfl (by decide +kernel) ⟨Nat.le_of_ble_eq_true rfl, Nat.le_of_ble_eq_true rfl⟩) (z_preV hK hP hD hS hA hT hN hfo (va_recv hK hP (ci := 0) (q0 := 49) rfl rfl)) rfl rfl hl.1 rfl (lv_room (Nat.le_of_ble_eq_true rfl)) dX6_urn_50 ⟨Nat.zero_le _, Nat.zero_le _⟩) hP hD hS hA hfo (fun H locs hP hD hS => ?_)
      refine lv_iload_n hx hb dX6_urn_53 rfl (lv_at hl 1 rfl) ?_
      refine lv_imul hx hb dX6_urn_54 ?_
      refine lv_aload_n hx hb dX6_urn_55 rfl (lv_at hl 0 rfl) ?_
      refine va_get (D := D) (ci := 6) (v := .ref a4) (C := RX6) (T := TX6) (N := 9) hx hb hts iX6 hown hK hP 0 rfl rfl 2 (by decide) (hts _ aw242) (fun _ h9 => h9) rfl dX6_urn_56 ?_
      obtain ⟨r9, y10, q11, hf⟩ := bd2_use hf
      have hfo : Foc (WFac z a1 (a2 0) (a3 0) a4 (a6 0) (a7 0) m1 ++ (WDay z a2 m2 ++ (WDay z a3 m3 ++ (WMin a4 (a5 0) m4 ++ (WDay z a5 y3 ++ (WArr z a6 y5 ++ (WLet z a7 m7))))))) (WMin a4 (a5 0) m4 ++ (WDay z a5 y3)) (WFac z a1 (a2 0) (a3 0) a4 (a6 0) (a7 0) m1 ++ (WDay z a2 m2 ++ (WDay z a3 m3 ++ (WMin a4 (a5 0) m4 ++ (WDay z a5 y10 ++ (WArr z a6 y5 ++ (WLet z a7 m7))))))) (WMin a4 (a5 0) m4 ++ (WDay z a5 y10)) := (foc_r (foc_r (foc_r (foc_app foc_all (foc_l foc_all)))))
      refine z_goI (ws1 := (WFac z a1 (a2 0) (a3 0) a4 (a6 0) (a7 0) m1 ++ (WDay z a2 m2 ++ (WDay z a3 m3 ++ (WMin a4 (a5 0) m4 ++ (WDay z a5 y10 ++ (WArr z a6 y5 ++ (WLet z a7 m7)))))))) (va_runV (As := []) (rest := [.int (r7 * p1)]) ⟨hx, hb, hml, hown, hts⟩ (tX5_costAnew l D z tt a4 a5 m4 y3  fu r9 y10 q11 _) (cwV 0 hts (gV4 aw583 aw562 aw563 aw49 aw564) rfl rfl rfl (by decide +kernel) ⟨Nat.le_of_ble_eq_true rfl, Nat.le_of_ble_eq_true rfl⟩) (z_preV hK hP hD hS hA hT hN hfo (va_recv hK hP (ci := 5) (q0 := 33) rfl rfl)) rfl rfl hl.1 rfl (lv_room (Nat.le_of_ble_eq_true rfl)) dX6_urn_59 ⟨Nat.zero_le _, Nat.zero_le _⟩) hP hD hS hA hfo (fun H locs hP hD hS => ?_)
      refine lv_icmp_ge (tgt := 69) hx hb dX6_urn_62 (by decide) (fun c12 => ?_) (fun c12 => ?_)
      · have hf := if_t c12 hf
        refine lv_iconst (v := 0) hx hb dX6_urn_69 (by decide) ?_
        obtain ⟨rfl, rfl, rfl, rfl⟩ := so4 hf
        exact ret_i hx hb hr hlocks hK hP hD hS dX6_urn_70
      · have hf := if_f c12 hf
        refine lv_iconst (v := 1) hx hb dX6_urn_65 (by decide) ?_
        refine lv_goto (tgt := 70) hx hb dX6_urn_66 (by decide) ?_
        obtain ⟨rfl, rfl, rfl, rfl⟩ := so4 hf
        exact ret_i hx hb hr hlocks hK hP hD hS dX6_urn_70
    · have hf := if_f c2 hf
      refine lv_aload_n hx hb dX6_urn_17 rfl (lv_at hl 0 rfl) ?_
      refine lv_bipush (v := (-6)) hx hb dX6_urn_18 (by decide) ?_
      obtain ⟨r13, y14, q15, hf⟩ := bd2_use hf
      have hfo : Foc (WFac z a1 (a2 0) (a3 0) a4 (a6 0) (a7 0) m1 ++ (WDay z a2 m2 ++ (WDay z a3 m3 ++ (WMin a4 (a5 0) m4 ++ (WDay z a5 m5 ++ (WArr z a6 m6 ++ (WLet z a7 m7))))))) (WFac z a1 (a2 0) (a3 0) a4 (a6 0) (a7 0) m1) (WFac z a1 (a2 0) (a3 0) a4 (a6 0) (a7 0) y14 ++ (WDay z a2 m2 ++ (WDay z a3 m3 ++ (WMin a4 (a5 0) m4 ++ (WDay z a5 m5 ++ (WArr z a6 m6 ++ (WLet z a7 m7))))))) (WFac z a1 (a2 0) (a3 0) a4 (a6 0) (a7 0) y14) := (foc_l foc_all)
      refine z_goI (ws1 := (WFac z a1 (a2 0) (a3 0) a4 (a6 0) (a7 0) y14 ++ (WDay z a2 m2 ++ (WDay z a3 m3 ++ (WMin a4 (a5 0) m4 ++ (WDay z a5 m5 ++ (WArr z a6 m6 ++ (WLet z a7 m7)))))))) (va_runV (As := [.int (-6)]) (rest := []) ⟨hx, hb, hml, hown, hts⟩ (tX6_refuse l D z tt (a2 0) (a3 0) a4 (a6 0) (a7 0) a1 m1 (-6) fu r13 y14 q15 _) (cwV 1 hts (gV4 aw272 aw274 aw0 aw45 aw275) rfl rfl rfl (by decide +kernel) ⟨Nat.le_of_ble_eq_true rfl, Nat.le_of_ble_eq_true rfl⟩) (z_preV hK hP hD hS hA hT hN hfo (va_recv hK hP (ci := 6) (q0 := 0) rfl rfl)) rfl rfl hl.1 rfl (lv_room (Nat.le_of_ble_eq_true rfl)) dX6_urn_20 ⟨Nat.zero_le _, Nat.zero_le _⟩) hP hD hS hA hfo (fun H locs hP hD hS => ?_)
      obtain ⟨rfl, rfl, rfl, rfl⟩ := so4 hf
      exact ret_i hx hb hr hlocks hK hP hD hS dX6_urn_23
  · have hf := if_f c1 hf
    refine lv_aload_n hx hb dX6_urn_4 rfl (lv_at hl 0 rfl) ?_
    refine lv_bipush (v := (-4)) hx hb dX6_urn_5 (by decide) ?_
    obtain ⟨r16, y17, q18, hf⟩ := bd2_use hf
    have hfo : Foc (WFac z a1 (a2 0) (a3 0) a4 (a6 0) (a7 0) m1 ++ (WDay z a2 m2 ++ (WDay z a3 m3 ++ (WMin a4 (a5 0) m4 ++ (WDay z a5 m5 ++ (WArr z a6 m6 ++ (WLet z a7 m7))))))) (WFac z a1 (a2 0) (a3 0) a4 (a6 0) (a7 0) m1) (WFac z a1 (a2 0) (a3 0) a4 (a6 0) (a7 0) y17 ++ (WDay z a2 m2 ++ (WDay z a3 m3 ++ (WMin a4 (a5 0) m4 ++ (WDay z a5 m5 ++ (WArr z a6 m6 ++ (WLet z a7 m7))))))) (WFac z a1 (a2 0) (a3 0) a4 (a6 0) (a7 0) y17) := (foc_l foc_all)
    refine z_goI (ws1 := (WFac z a1 (a2 0) (a3 0) a4 (a6 0) (a7 0) y17 ++ (WDay z a2 m2 ++ (WDay z a3 m3 ++ (WMin a4 (a5 0) m4 ++ (WDay z a5 m5 ++ (WArr z a6 m6 ++ (WLet z a7 m7)))))))) (va_runV (As := [.int (-4)]) (rest := []) ⟨hx, hb, hml, hown, hts⟩ (tX6_refuse l D z tt (a2 0) (a3 0) a4 (a6 0) (a7 0) a1 m1 (-4) fu r16 y17 q18 _) (cwV 1 hts (gV4 aw272 aw274 aw0 aw45 aw275) rfl rfl rfl (by decide +kernel) ⟨Nat.le_of_ble_eq_true rfl, Nat.le_of_ble_eq_true rfl⟩) (z_preV hK hP hD hS hA hT hN hfo (va_recv hK hP (ci := 6) (q0 := 0) rfl rfl)) rfl rfl hl.1 rfl (lv_room (Nat.le_of_ble_eq_true rfl)) dX6_urn_7 ⟨Nat.zero_le _, Nat.zero_le _⟩) hP hD hS hA hfo (fun H locs hP hD hS => ?_)
    obtain ⟨rfl, rfl, rfl, rfl⟩ := so4 hf
    exact ret_i hx hb hr hlocks hK hP hD hS dX6_urn_10
def pX6_least (fu : Nat) (m1 : Mem) (m2 : Mem) (m6 : Mem) (p1 : Int32) : Option (Int32 × Mem × Mem) :=
  jn1 (fun (u0 : Unit) =>
    bd (pX2_someoneWantsTooMuch fu m2) fun r2 =>
    if r2 = 0 then
      bd (pX0_take fu m6 m2) fun y5 =>
      jn1 (fun (x7 : Int32) =>
        bd (pX0_leastBoils fu y5 m2 x7) fun r9 =>
        some (r9, m1, y5)) fun k8 =>
      if p1 = 0 then
        k8 1
      else
        k8 0
    else
      bd2 (pX6_refuse fu m1 (-3)) fun r12 y13 =>
      some (r12, y13, m6)) fun k1 =>
  if p1 = 0 then
    k1 ()
  else
    if p1 = 1 then
      k1 ()
    else
      bd2 (pX6_refuse fu m1 (-2)) fun r17 y18 =>
      some (r17, y18, m6)
set_option maxHeartbeats 4000000 in
set_option maxRecDepth 100000 in
theorem tX6_least (l : Launch) (D : va_G) (z tt : Nat → Nat) (a1 : Nat → Nat) (a2 : Nat → Nat) (a3 : Nat → Nat) (a4 : Nat) (a5 : Nat → Nat) (a6 : Nat → Nat) (a7 : Nat → Nat) (m1 : Mem) (m2 : Mem) (m3 : Mem) (m4 : Mem) (m5 : Mem) (m6 : Mem) (m7 : Mem) (p1 : Int32) (fu : Nat) (rr : Int32) (m1' : Mem) (m6' : Mem) (hf : pX6_least fu m1 m2 m6 p1 = some (rr, m1', m6')) : MetI l yX6_least wsX6_least ({ frames := 3, cells := 0, slots := 0, locals := 78 } : Room) D z tt ([.ref (a1 0), .int p1] : List Value) (WFac z a1 (a2 0) (a3 0) a4 (a6 0) (a7 0) m1 ++ (WDay z a2 m2 ++ (WDay z a3 m3 ++ (WMin a4 (a5 0) m4 ++ (WDay z a5 m5 ++ (WArr z a6 m6 ++ (WLet z a7 m7))))))) rr (WFac z a1 (a2 0) (a3 0) a4 (a6 0) (a7 0) m1' ++ (WDay z a2 m2 ++ (WDay z a3 m3 ++ (WMin a4 (a5 0) m4 ++ (WDay z a5 m5 ++ (WArr z a6 m6' ++ (WLet z a7 m7))))))) := by
  intro sz
  refine Met.ofW (cc := cX6_least) (maxL := 2) (ret := (some .int)) (by decide) rfl ?_
  intro p e s m args below meth c s₁ B hml hv
  obtain ⟨rfl, hsz, hP, hK, hD0, hT, hN⟩ := hv
  have hx := B.exec
  have hb := B.bytes
  have hr := B.returns
  have hts : ∀ w ∈ wsA, w.before ([.ref (a1 0), .int p1] : List Value).toArray s = true := fun w h => atoms_spec (ws := wsX6_least) B.pre w (List.mem_cons_of_mem _ h)
  have hown : s.vm.findClass RX6 = some m.cls := findClass_of_methodNamed B.named
  have hlocks := B.notSynchronized
  subst hsz
  have hD := hD0.self (sz := s.heap.size)
  generalize hAe : va_A (WFac z a1 (a2 0) (a3 0) a4 (a6 0) (a7 0) m1 ++ (WDay z a2 m2 ++ (WDay z a3 m3 ++ (WMin a4 (a5 0) m4 ++ (WDay z a5 m5 ++ (WArr z a6 m6 ++ (WLet z a7 m7))))))) s.heap.size = A at hD hT ⊢
  have hA : ∀ q : Nat, s.heap.size ≤ q → A q := fun q h => by rw [← hAe]; exact Or.inr h
  have hS : va_S A s.heap s.heap [] := va_S.rf
  have hl := lv_entry ([.ref (a1 0), .int p1] : List Value) (n := 2) (Nat.le_of_ble_eq_true rfl)
  rw [lg_entry_eq]
  generalize (lg_sl ([.ref (a1 0), .int p1] : List Value) ++ List.replicate (2 - (lg_sl ([.ref (a1 0), .int p1] : List Value)).length) Slot.unset).toArray = ls at hl ⊢
  have hl : lv_has ls 2 [(0, .ref (a1 0)), (1, .int p1)] := hl
  unfold pX6_least at hf
  refine lv_iload_n hx hb dX6_least_0 rfl (lv_at hl 1 rfl) ?_
  obtain ⟨k1, ek1, hf⟩ := jn1_use hf
  have B16_k1 : ∀ (u0 : Unit) (H : Heap) (locs : List Loc), va_P D vwCl (WFac z a1 (a2 0) (a3 0) a4 (a6 0) (a7 0) m1 ++ (WDay z a2 m2 ++ (WDay z a3 m3 ++ (WMin a4 (a5 0) m4 ++ (WDay z a5 m5 ++ (WArr z a6 m6 ++ (WLet z a7 m7))))))) H → va_D A (WFac z a1 (a2 0) (a3 0) a4 (a6 0) (a7 0) m1 ++ (WDay z a2 m2 ++ (WDay z a3 m3 ++ (WMin a4 (a5 0) m4 ++ (WDay z a5 m5 ++ (WArr z a6 m6 ++ (WLet z a7 m7))))))) → va_S A s.heap H locs → ∀ (ls : Array Slot), lv_has ls 2 [(0, .ref (a1 0)), (1, .int p1)] → k1 u0 = some (rr, m1', m6') → GI p l e (headSpec wsX6_least ({ frames := 3, cells := 0, slots := 0, locals := 78 } : Room)).room s m ([.ref (a1 0), .int p1] : List Value).toArray below meth c A D z rr (WFac z a1 (a2 0) (a3 0) a4 (a6 0) (a7 0) m1' ++ (WDay z a2 m2 ++ (WDay z a3 m3 ++ (WMin a4 (a5 0) m4 ++ (WDay z a5 m5 ++ (WArr z a6 m6' ++ (WLet z a7 m7))))))) H locs (F0 m 16 ls []) := by
    intro u0 H locs hP hD hS ls hl hf
    have hf := jn1_ap ek1 hf
    refine lv_aload_n hx hb dX6_least_16 rfl (lv_at hl 0 rfl) ?_
    refine va_get (D := D) (ci := 6) (v := .ref (a2 0)) (C := RX6) (T := TX6) (N := 9) hx hb hts iX6 hown hK hP 0 rfl rfl 0 (by decide) (hts _ aw240) (fun _ h9 => h9) rfl dX6_least_17 ?_
    obtain ⟨r2, q3, hf⟩ := bd_use hf
    have hfo : Foc (WFac z a1 (a2 0) (a3 0) a4 (a6 0) (a7 0) m1 ++ (WDay z a2 m2 ++ (WDay z a3 m3 ++ (WMin a4 (a5 0) m4 ++ (WDay z a5 m5 ++ (WArr z a6 m6 ++ (WLet z a7 m7))))))) (WDay z a2 m2) (WFac z a1 (a2 0) (a3 0) a4 (a6 0) (a7 0) m1 ++ (WDay z a2 m2 ++ (WDay z a3 m3 ++ (WMin a4 (a5 0) m4 ++ (WDay z a5 m5 ++ (WArr z a6 m6 ++ (WLet z a7 m7))))))) (WDay z a2 m2) := (foc_r (foc_l foc_all))
    refine z_goI (ws1 := (WFac z a1 (a2 0) (a3 0) a4 (a6 0) (a7 0) m1 ++ (WDay z a2 m2 ++ (WDay z a3 m3 ++ (WMin a4 (a5 0) m4 ++ (WDay z a5 m5 ++ (WArr z a6 m6 ++ (WLet z a7 m7)))))))) (va_runV (As := []) (rest := []) ⟨hx, hb, hml, hown, hts⟩ (tX2_someoneWantsTooMuch l D z tt a2 m2  fu r2 q3 _) (cwV 0 hts (gV4 aw626 aw627 aw628 aw46 aw629) rfl rfl rfl (by decide +kernel) ⟨Nat.le_of_ble_eq_true rfl, Nat.le_of_ble_eq_true rfl⟩) (z_preV hK hP hD hS hA hT hN hfo (va_recv hK hP (ci := 2) (q0 := 3) rfl rfl)) rfl rfl hl.1 rfl (lv_room (Nat.le_of_ble_eq_true rfl)) dX6_least_20 ⟨Nat.zero_le _, Nat.zero_le _⟩) hP hD hS hA hfo (fun H locs hP hD hS => ?_)
    refine lv_if_eq (tgt := 33) hx hb dX6_least_23 (by decide) (fun c4 => ?_) (fun c4 => ?_)
    · have hf := if_t c4 hf
      refine lv_aload_n hx hb dX6_least_33 rfl (lv_at hl 0 rfl) ?_
      refine va_get (D := D) (ci := 6) (v := .ref (a6 0)) (C := RX6) (T := TX6) (N := 9) hx hb hts iX6 hown hK hP 0 rfl rfl 3 (by decide) (hts _ aw243) (fun _ h9 => h9) rfl dX6_least_34 ?_
      refine lv_aload_n hx hb dX6_least_37 rfl (lv_at hl 0 rfl) ?_
      refine va_get (D := D) (ci := 6) (v := .ref (a2 0)) (C := RX6) (T := TX6) (N := 9) hx hb hts iX6 hown hK hP 0 rfl rfl 0 (by decide) (hts _ aw240) (fun _ h9 => h9) rfl dX6_least_38 ?_
      obtain ⟨y5, q6, hf⟩ := bd_use hf
      have hfo : Foc (WFac z a1 (a2 0) (a3 0) a4 (a6 0) (a7 0) m1 ++ (WDay z a2 m2 ++ (WDay z a3 m3 ++ (WMin a4 (a5 0) m4 ++ (WDay z a5 m5 ++ (WArr z a6 m6 ++ (WLet z a7 m7))))))) (WArr z a6 m6 ++ (WDay z a2 m2)) (WFac z a1 (a2 0) (a3 0) a4 (a6 0) (a7 0) m1 ++ (WDay z a2 m2 ++ (WDay z a3 m3 ++ (WMin a4 (a5 0) m4 ++ (WDay z a5 m5 ++ (WArr z a6 y5 ++ (WLet z a7 m7))))))) (WArr z a6 y5 ++ (WDay z a2 m2)) := (foc_swap (foc_r (foc_app foc_all (foc_r (foc_r (foc_r (foc_l foc_all)))))))
      refine z_goV (ws1 := (WFac z a1 (a2 0) (a3 0) a4 (a6 0) (a7 0) m1 ++ (WDay z a2 m2 ++ (WDay z a3 m3 ++ (WMin a4 (a5 0) m4 ++ (WDay z a5 m5 ++ (WArr z a6 y5 ++ (WLet z a7 m7)))))))) (va_runV (As := [.ref (a2 0)]) (rest := []) ⟨hx, hb, hml, hown, hts⟩ (tX0_take l D z tt a6 a2 m6 m2  fu y5 q6 _) (cwV 1 hts (gV4 aw609 aw610 aw611 aw50 aw612) rfl rfl rfl (by decide +kernel) ⟨Nat.le_of_ble_eq_true rfl, Nat.le_of_ble_eq_true rfl⟩) (z_preV hK hP hD hS hA hT hN hfo (va_recv hK hP (ci := 0) (q0 := 49) rfl rfl)) rfl rfl hl.1 rfl (lv_room (Nat.le_of_ble_eq_true rfl)) dX6_least_41 ⟨Nat.zero_le _, Nat.zero_le _⟩) hP hD hS hA hfo (fun H locs hP hD hS => ?_)
      refine lv_aload_n hx hb dX6_least_44 rfl (lv_at hl 0 rfl) ?_
      refine va_get (D := D) (ci := 6) (v := .ref (a6 0)) (C := RX6) (T := TX6) (N := 9) hx hb hts iX6 hown hK hP 0 rfl rfl 3 (by decide) (hts _ aw243) (fun _ h9 => h9) rfl dX6_least_45 ?_
      refine lv_aload_n hx hb dX6_least_48 rfl (lv_at hl 0 rfl) ?_
      refine va_get (D := D) (ci := 6) (v := .ref (a2 0)) (C := RX6) (T := TX6) (N := 9) hx hb hts iX6 hown hK hP 0 rfl rfl 0 (by decide) (hts _ aw240) (fun _ h9 => h9) rfl dX6_least_49 ?_
      refine lv_iload_n hx hb dX6_least_52 rfl (lv_at hl 1 rfl) ?_
      obtain ⟨k8, ek8, hf⟩ := jn1_use hf
      have B61_k8 : ∀ (x7 : Int32) (H : Heap) (locs : List Loc), va_P D vwCl (WFac z a1 (a2 0) (a3 0) a4 (a6 0) (a7 0) m1 ++ (WDay z a2 m2 ++ (WDay z a3 m3 ++ (WMin a4 (a5 0) m4 ++ (WDay z a5 m5 ++ (WArr z a6 y5 ++ (WLet z a7 m7))))))) H → va_D A (WFac z a1 (a2 0) (a3 0) a4 (a6 0) (a7 0) m1 ++ (WDay z a2 m2 ++ (WDay z a3 m3 ++ (WMin a4 (a5 0) m4 ++ (WDay z a5 m5 ++ (WArr z a6 y5 ++ (WLet z a7 m7))))))) → va_S A s.heap H locs → ∀ (ls : Array Slot), lv_has ls 2 [] → k8 x7 = some (rr, m1', m6') → GI p l e (headSpec wsX6_least ({ frames := 3, cells := 0, slots := 0, locals := 78 } : Room)).room s m ([.ref (a1 0), .int p1] : List Value).toArray below meth c A D z rr (WFac z a1 (a2 0) (a3 0) a4 (a6 0) (a7 0) m1' ++ (WDay z a2 m2 ++ (WDay z a3 m3 ++ (WMin a4 (a5 0) m4 ++ (WDay z a5 m5 ++ (WArr z a6 m6' ++ (WLet z a7 m7))))))) H locs (F0 m 61 ls [.int x7, .ref (a2 0), .ref (a6 0)]) := by
        intro x7 H locs hP hD hS ls hl hf
        have hf := jn1_ap ek8 hf
        obtain ⟨r9, q10, hf⟩ := bd_use hf
        have hfo : Foc (WFac z a1 (a2 0) (a3 0) a4 (a6 0) (a7 0) m1 ++ (WDay z a2 m2 ++ (WDay z a3 m3 ++ (WMin a4 (a5 0) m4 ++ (WDay z a5 m5 ++ (WArr z a6 y5 ++ (WLet z a7 m7))))))) (WArr z a6 y5 ++ (WDay z a2 m2)) (WFac z a1 (a2 0) (a3 0) a4 (a6 0) (a7 0) m1 ++ (WDay z a2 m2 ++ (WDay z a3 m3 ++ (WMin a4 (a5 0) m4 ++ (WDay z a5 m5 ++ (WArr z a6 y5 ++ (WLet z a7 m7))))))) (WArr z a6 y5 ++ (WDay z a2 m2)) := (foc_swap (foc_r (foc_app foc_all (foc_r (foc_r (foc_r (foc_l foc_all)))))))
        refine z_goI (ws1 := (WFac z a1 (a2 0) (a3 0) a4 (a6 0) (a7 0) m1 ++ (WDay z a2 m2 ++ (WDay z a3 m3 ++ (WMin a4 (a5 0) m4 ++ (WDay z a5 m5 ++ (WArr z a6 y5 ++ (WLet z a7 m7)))))))) (va_runV (As := [.ref (a2 0), .int x7]) (rest := []) ⟨hx, hb, hml, hown, hts⟩ (tX0_leastBoils l D z tt a6 a2 y5 m2 x7 fu r9 q10 _) (cwV 2 hts (gV4 aw630 aw631 aw632 aw50 aw633) rfl rfl rfl (by decide +kernel) ⟨Nat.le_of_ble_eq_true rfl, Nat.le_of_ble_eq_true rfl⟩) (z_preV hK hP hD hS hA hT hN hfo (va_recv hK hP (ci := 0) (q0 := 49) rfl rfl)) rfl rfl hl.1 rfl (lv_room (Nat.le_of_ble_eq_true rfl)) dX6_least_61 ⟨Nat.zero_le _, Nat.zero_le _⟩) hP hD hS hA hfo (fun H locs hP hD hS => ?_)
        obtain ⟨rfl, rfl, rfl⟩ := so3 hf
        exact ret_i hx hb hr hlocks hK hP hD hS dX6_least_64
      refine lv_if_ne (tgt := 60) hx hb dX6_least_53 (by decide) (fun c11 => ?_) (fun c11 => ?_)
      · have hf := if_f c11 hf
        refine lv_iconst (v := 0) hx hb dX6_least_60 (by decide) ?_
        exact B61_k8 _ _ _ hP hD hS _ (lv_sub hl [] rfl) hf
      · have hf := if_t c11 hf
        refine lv_iconst (v := 1) hx hb dX6_least_56 (by decide) ?_
        refine lv_goto (tgt := 61) hx hb dX6_least_57 (by decide) ?_
        exact B61_k8 _ _ _ hP hD hS _ (lv_sub hl [] rfl) hf
    · have hf := if_f c4 hf
      refine lv_aload_n hx hb dX6_least_26 rfl (lv_at hl 0 rfl) ?_
      refine lv_bipush (v := (-3)) hx hb dX6_least_27 (by decide) ?_
      obtain ⟨r12, y13, q14, hf⟩ := bd2_use hf
      have hfo : Foc (WFac z a1 (a2 0) (a3 0) a4 (a6 0) (a7 0) m1 ++ (WDay z a2 m2 ++ (WDay z a3 m3 ++ (WMin a4 (a5 0) m4 ++ (WDay z a5 m5 ++ (WArr z a6 m6 ++ (WLet z a7 m7))))))) (WFac z a1 (a2 0) (a3 0) a4 (a6 0) (a7 0) m1) (WFac z a1 (a2 0) (a3 0) a4 (a6 0) (a7 0) y13 ++ (WDay z a2 m2 ++ (WDay z a3 m3 ++ (WMin a4 (a5 0) m4 ++ (WDay z a5 m5 ++ (WArr z a6 m6 ++ (WLet z a7 m7))))))) (WFac z a1 (a2 0) (a3 0) a4 (a6 0) (a7 0) y13) := (foc_l foc_all)
      refine z_goI (ws1 := (WFac z a1 (a2 0) (a3 0) a4 (a6 0) (a7 0) y13 ++ (WDay z a2 m2 ++ (WDay z a3 m3 ++ (WMin a4 (a5 0) m4 ++ (WDay z a5 m5 ++ (WArr z a6 m6 ++ (WLet z a7 m7)))))))) (va_runV (As := [.int (-3)]) (rest := []) ⟨hx, hb, hml, hown, hts⟩ (tX6_refuse l D z tt (a2 0) (a3 0) a4 (a6 0) (a7 0) a1 m1 (-3) fu r12 y13 q14 _) (cwV 1 hts (gV4 aw272 aw274 aw0 aw45 aw275) rfl rfl rfl (by decide +kernel) ⟨Nat.le_of_ble_eq_true rfl, Nat.le_of_ble_eq_true rfl⟩) (z_preV hK hP hD hS hA hT hN hfo (va_recv hK hP (ci := 6) (q0 := 0) rfl rfl)) rfl rfl hl.1 rfl (lv_room (Nat.le_of_ble_eq_true rfl)) dX6_least_29 ⟨Nat.zero_le _, Nat.zero_le _⟩) hP hD hS hA hfo (fun H locs hP hD hS => ?_)
      obtain ⟨rfl, rfl, rfl⟩ := so3 hf
      exact ret_i hx hb hr hlocks hK hP hD hS dX6_least_32
  refine lv_if_eq (tgt := 16) hx hb dX6_least_1 (by decide) (fun c15 => ?_) (fun c15 => ?_)
  · have hf := if_t c15 hf
    exact B16_k1 _ _ _ hP hD hS _ (lv_sub hl [0, 1] rfl) hf
  · have hf := if_f c15 hf
    refine lv_iload_n hx hb dX6_least_4 rfl (lv_at hl 1 rfl) ?_
    refine lv_iconst (v := 1) hx hb dX6_least_5 (by decide) ?_
    refine lv_icmp_eq (tgt := 16) hx hb dX6_least_6 (by decide) (fun c16 => ?_) (fun c16 => ?_)
    · have hf := if_t c16 hf
      exact B16_k1 _ _ _ hP hD hS _ (lv_sub hl [0, 1] rfl) hf
    · have hf := if_f c16 hf
      refine lv_aload_n hx hb dX6_least_9 rfl (lv_at hl 0 rfl) ?_
      refine lv_bipush (v := (-2)) hx hb dX6_least_10 (by decide) ?_
      obtain ⟨r17, y18, q19, hf⟩ := bd2_use hf
      have hfo : Foc (WFac z a1 (a2 0) (a3 0) a4 (a6 0) (a7 0) m1 ++ (WDay z a2 m2 ++ (WDay z a3 m3 ++ (WMin a4 (a5 0) m4 ++ (WDay z a5 m5 ++ (WArr z a6 m6 ++ (WLet z a7 m7))))))) (WFac z a1 (a2 0) (a3 0) a4 (a6 0) (a7 0) m1) (WFac z a1 (a2 0) (a3 0) a4 (a6 0) (a7 0) y18 ++ (WDay z a2 m2 ++ (WDay z a3 m3 ++ (WMin a4 (a5 0) m4 ++ (WDay z a5 m5 ++ (WArr z a6 m6 ++ (WLet z a7 m7))))))) (WFac z a1 (a2 0) (a3 0) a4 (a6 0) (a7 0) y18) := (foc_l foc_all)
      refine z_goI (ws1 := (WFac z a1 (a2 0) (a3 0) a4 (a6 0) (a7 0) y18 ++ (WDay z a2 m2 ++ (WDay z a3 m3 ++ (WMin a4 (a5 0) m4 ++ (WDay z a5 m5 ++ (WArr z a6 m6 ++ (WLet z a7 m7)))))))) (va_runV (As := [.int (-2)]) (rest := []) ⟨hx, hb, hml, hown, hts⟩ (tX6_refuse l D z tt (a2 0) (a3 0) a4 (a6 0) (a7 0) a1 m1 (-2) fu r17 y18 q19 _) (cwV 1 hts (gV4 aw272 aw274 aw0 aw45 aw275) rfl rfl rfl (by decide +kernel) ⟨Nat.le_of_ble_eq_true rfl, Nat.le_of_ble_eq_true rfl⟩) (z_preV hK hP hD hS hA hT hN hfo (va_recv hK hP (ci := 6) (q0 := 0) rfl rfl)) rfl rfl hl.1 rfl (lv_room (Nat.le_of_ble_eq_true rfl)) dX6_least_12 ⟨Nat.zero_le _, Nat.zero_le _⟩) hP hD hS hA hfo (fun H locs hP hD hS => ?_)
      obtain ⟨rfl, rfl, rfl⟩ := so3 hf
      exact ret_i hx hb hr hlocks hK hP hD hS dX6_least_15
def pX6_ferry (fu : Nat) (m1 : Mem) (m2 : Mem) (m6 : Mem) (p1 : Int32) (p2 : Int32) : Option (Int32 × Mem × Mem) :=
  jn1 (fun (u0 : Unit) =>
    bd2 (pX6_refuse fu m1 (-4)) fun r2 y3 =>
    some (r2, y3, m6)) fun k1 =>
  if p1 < 1 then
    k1 ()
  else
    if 0 ≤ p2 then
      jn1 (fun (u0 : Unit) =>
        bd2 (pX6_refuse fu m1 (-6)) fun r8 y9 =>
        some (r8, y9, m6)) fun k7 =>
      if 8 < p1 then
        k7 ()
      else
        if p2 ≤ 60 then
          bd (pX0_take fu m6 m2) fun y13 =>
          bd (pX0_waitedForSeats fu y13 p1 p2) fun r15 =>
          some (r15, m1, y13)
        else
          k7 ()
    else
      k1 ()
set_option maxHeartbeats 4000000 in
set_option maxRecDepth 100000 in
theorem tX6_ferry (l : Launch) (D : va_G) (z tt : Nat → Nat) (a1 : Nat → Nat) (a2 : Nat → Nat) (a3 : Nat → Nat) (a4 : Nat) (a5 : Nat → Nat) (a6 : Nat → Nat) (a7 : Nat → Nat) (m1 : Mem) (m2 : Mem) (m3 : Mem) (m4 : Mem) (m5 : Mem) (m6 : Mem) (m7 : Mem) (p1 : Int32) (p2 : Int32) (fu : Nat) (rr : Int32) (m1' : Mem) (m6' : Mem) (hf : pX6_ferry fu m1 m2 m6 p1 p2 = some (rr, m1', m6')) : MetI l yX6_ferry wsX6_ferry ({ frames := 2, cells := 0, slots := 0, locals := 50 } : Room) D z tt ([.ref (a1 0), .int p1, .int p2] : List Value) (WFac z a1 (a2 0) (a3 0) a4 (a6 0) (a7 0) m1 ++ (WDay z a2 m2 ++ (WDay z a3 m3 ++ (WMin a4 (a5 0) m4 ++ (WDay z a5 m5 ++ (WArr z a6 m6 ++ (WLet z a7 m7))))))) rr (WFac z a1 (a2 0) (a3 0) a4 (a6 0) (a7 0) m1' ++ (WDay z a2 m2 ++ (WDay z a3 m3 ++ (WMin a4 (a5 0) m4 ++ (WDay z a5 m5 ++ (WArr z a6 m6' ++ (WLet z a7 m7))))))) := by
  intro sz
  refine Met.ofW (cc := cX6_ferry) (maxL := 3) (ret := (some .int)) (by decide) rfl ?_
  intro p e s m args below meth c s₁ B hml hv
  obtain ⟨rfl, hsz, hP, hK, hD0, hT, hN⟩ := hv
  have hx := B.exec
  have hb := B.bytes
  have hr := B.returns
  have hts : ∀ w ∈ wsA, w.before ([.ref (a1 0), .int p1, .int p2] : List Value).toArray s = true := fun w h => atoms_spec (ws := wsX6_ferry) B.pre w (List.mem_cons_of_mem _ h)
  have hown : s.vm.findClass RX6 = some m.cls := findClass_of_methodNamed B.named
  have hlocks := B.notSynchronized
  subst hsz
  have hD := hD0.self (sz := s.heap.size)
  generalize hAe : va_A (WFac z a1 (a2 0) (a3 0) a4 (a6 0) (a7 0) m1 ++ (WDay z a2 m2 ++ (WDay z a3 m3 ++ (WMin a4 (a5 0) m4 ++ (WDay z a5 m5 ++ (WArr z a6 m6 ++ (WLet z a7 m7))))))) s.heap.size = A at hD hT ⊢
  have hA : ∀ q : Nat, s.heap.size ≤ q → A q := fun q h => by rw [← hAe]; exact Or.inr h
  have hS : va_S A s.heap s.heap [] := va_S.rf
  have hl := lv_entry ([.ref (a1 0), .int p1, .int p2] : List Value) (n := 3) (Nat.le_of_ble_eq_true rfl)
  rw [lg_entry_eq]
  generalize (lg_sl ([.ref (a1 0), .int p1, .int p2] : List Value) ++ List.replicate (3 - (lg_sl ([.ref (a1 0), .int p1, .int p2] : List Value)).length) Slot.unset).toArray = ls at hl ⊢
  have hl : lv_has ls 3 [(0, .ref (a1 0)), (1, .int p1), (2, .int p2)] := hl
  unfold pX6_ferry at hf
  refine lv_iload_n hx hb dX6_ferry_0 rfl (lv_at hl 1 rfl) ?_
  refine lv_iconst (v := 1) hx hb dX6_ferry_1 (by decide) ?_
  obtain ⟨k1, ek1, hf⟩ := jn1_use hf
  have B9_k1 : ∀ (u0 : Unit) (H : Heap) (locs : List Loc), va_P D vwCl (WFac z a1 (a2 0) (a3 0) a4 (a6 0) (a7 0) m1 ++ (WDay z a2 m2 ++ (WDay z a3 m3 ++ (WMin a4 (a5 0) m4 ++ (WDay z a5 m5 ++ (WArr z a6 m6 ++ (WLet z a7 m7))))))) H → va_D A (WFac z a1 (a2 0) (a3 0) a4 (a6 0) (a7 0) m1 ++ (WDay z a2 m2 ++ (WDay z a3 m3 ++ (WMin a4 (a5 0) m4 ++ (WDay z a5 m5 ++ (WArr z a6 m6 ++ (WLet z a7 m7))))))) → va_S A s.heap H locs → ∀ (ls : Array Slot), lv_has ls 3 [(0, .ref (a1 0))] → k1 u0 = some (rr, m1', m6') → GI p l e (headSpec wsX6_ferry ({ frames := 2, cells := 0, slots := 0, locals := 50 } : Room)).room s m ([.ref (a1 0), .int p1, .int p2] : List Value).toArray below meth c A D z rr (WFac z a1 (a2 0) (a3 0) a4 (a6 0) (a7 0) m1' ++ (WDay z a2 m2 ++ (WDay z a3 m3 ++ (WMin a4 (a5 0) m4 ++ (WDay z a5 m5 ++ (WArr z a6 m6' ++ (WLet z a7 m7))))))) H locs (F0 m 9 ls []) := by
    intro u0 H locs hP hD hS ls hl hf
    have hf := jn1_ap ek1 hf
    refine lv_aload_n hx hb dX6_ferry_9 rfl (lv_at hl 0 rfl) ?_
    refine lv_bipush (v := (-4)) hx hb dX6_ferry_10 (by decide) ?_
    obtain ⟨r2, y3, q4, hf⟩ := bd2_use hf
    have hfo : Foc (WFac z a1 (a2 0) (a3 0) a4 (a6 0) (a7 0) m1 ++ (WDay z a2 m2 ++ (WDay z a3 m3 ++ (WMin a4 (a5 0) m4 ++ (WDay z a5 m5 ++ (WArr z a6 m6 ++ (WLet z a7 m7))))))) (WFac z a1 (a2 0) (a3 0) a4 (a6 0) (a7 0) m1) (WFac z a1 (a2 0) (a3 0) a4 (a6 0) (a7 0) y3 ++ (WDay z a2 m2 ++ (WDay z a3 m3 ++ (WMin a4 (a5 0) m4 ++ (WDay z a5 m5 ++ (WArr z a6 m6 ++ (WLet z a7 m7))))))) (WFac z a1 (a2 0) (a3 0) a4 (a6 0) (a7 0) y3) := (foc_l foc_all)
    refine z_goI (ws1 := (WFac z a1 (a2 0) (a3 0) a4 (a6 0) (a7 0) y3 ++ (WDay z a2 m2 ++ (WDay z a3 m3 ++ (WMin a4 (a5 0) m4 ++ (WDay z a5 m5 ++ (WArr z a6 m6 ++ (WLet z a7 m7)))))))) (va_runV (As := [.int (-4)]) (rest := []) ⟨hx, hb, hml, hown, hts⟩ (tX6_refuse l D z tt (a2 0) (a3 0) a4 (a6 0) (a7 0) a1 m1 (-4) fu r2 y3 q4 _) (cwV 1 hts (gV4 aw272 aw274 aw0 aw45 aw275) rfl rfl rfl (by decide +kernel) ⟨Nat.le_of_ble_eq_true rfl, Nat.le_of_ble_eq_true rfl⟩) (z_preV hK hP hD hS hA hT hN hfo (va_recv hK hP (ci := 6) (q0 := 0) rfl rfl)) rfl rfl hl.1 rfl (lv_room (Nat.le_of_ble_eq_true rfl)) dX6_ferry_12 ⟨Nat.zero_le _, Nat.zero_le _⟩) hP hD hS hA hfo (fun H locs hP hD hS => ?_)
    obtain ⟨rfl, rfl, rfl⟩ := so3 hf
    exact ret_i hx hb hr hlocks hK hP hD hS dX6_ferry_15
  refine lv_icmp_lt (tgt := 9) hx hb dX6_ferry_2 (by decide) (fun c5 => ?_) (fun c5 => ?_)
  · have hf := if_t c5 hf
    exact B9_k1 _ _ _ hP hD hS _ (lv_sub hl [0] rfl) hf
  · have hf := if_f c5 hf
    refine lv_iload_n hx hb dX6_ferry_5 rfl (lv_at hl 2 rfl) ?_
    refine lv_if_ge (tgt := 16) hx hb dX6_ferry_6 (by decide) (fun c6 => ?_) (fun c6 => ?_)
    · have hf := if_t c6 hf
      refine lv_iload_n hx hb dX6_ferry_16 rfl (lv_at hl 1 rfl) ?_
      refine lv_bipush (v := 8) hx hb dX6_ferry_17 (by decide) ?_
      obtain ⟨k7, ek7, hf⟩ := jn1_use hf
      have B28_k7 : ∀ (u0 : Unit) (H : Heap) (locs : List Loc), va_P D vwCl (WFac z a1 (a2 0) (a3 0) a4 (a6 0) (a7 0) m1 ++ (WDay z a2 m2 ++ (WDay z a3 m3 ++ (WMin a4 (a5 0) m4 ++ (WDay z a5 m5 ++ (WArr z a6 m6 ++ (WLet z a7 m7))))))) H → va_D A (WFac z a1 (a2 0) (a3 0) a4 (a6 0) (a7 0) m1 ++ (WDay z a2 m2 ++ (WDay z a3 m3 ++ (WMin a4 (a5 0) m4 ++ (WDay z a5 m5 ++ (WArr z a6 m6 ++ (WLet z a7 m7))))))) → va_S A s.heap H locs → ∀ (ls : Array Slot), lv_has ls 3 [(0, .ref (a1 0))] → k7 u0 = some (rr, m1', m6') → GI p l e (headSpec wsX6_ferry ({ frames := 2, cells := 0, slots := 0, locals := 50 } : Room)).room s m ([.ref (a1 0), .int p1, .int p2] : List Value).toArray below meth c A D z rr (WFac z a1 (a2 0) (a3 0) a4 (a6 0) (a7 0) m1' ++ (WDay z a2 m2 ++ (WDay z a3 m3 ++ (WMin a4 (a5 0) m4 ++ (WDay z a5 m5 ++ (WArr z a6 m6' ++ (WLet z a7 m7))))))) H locs (F0 m 28 ls []) := by
        intro u0 H locs hP hD hS ls hl hf
        have hf := jn1_ap ek7 hf
        refine lv_aload_n hx hb dX6_ferry_28 rfl (lv_at hl 0 rfl) ?_
        refine lv_bipush (v := (-6)) hx hb dX6_ferry_29 (by decide) ?_
        obtain ⟨r8, y9, q10, hf⟩ := bd2_use hf
        have hfo : Foc (WFac z a1 (a2 0) (a3 0) a4 (a6 0) (a7 0) m1 ++ (WDay z a2 m2 ++ (WDay z a3 m3 ++ (WMin a4 (a5 0) m4 ++ (WDay z a5 m5 ++ (WArr z a6 m6 ++ (WLet z a7 m7))))))) (WFac z a1 (a2 0) (a3 0) a4 (a6 0) (a7 0) m1) (WFac z a1 (a2 0) (a3 0) a4 (a6 0) (a7 0) y9 ++ (WDay z a2 m2 ++ (WDay z a3 m3 ++ (WMin a4 (a5 0) m4 ++ (WDay z a5 m5 ++ (WArr z a6 m6 ++ (WLet z a7 m7))))))) (WFac z a1 (a2 0) (a3 0) a4 (a6 0) (a7 0) y9) := (foc_l foc_all)
        refine z_goI (ws1 := (WFac z a1 (a2 0) (a3 0) a4 (a6 0) (a7 0) y9 ++ (WDay z a2 m2 ++ (WDay z a3 m3 ++ (WMin a4 (a5 0) m4 ++ (WDay z a5 m5 ++ (WArr z a6 m6 ++ (WLet z a7 m7)))))))) (va_runV (As := [.int (-6)]) (rest := []) ⟨hx, hb, hml, hown, hts⟩ (tX6_refuse l D z tt (a2 0) (a3 0) a4 (a6 0) (a7 0) a1 m1 (-6) fu r8 y9 q10 _) (cwV 1 hts (gV4 aw272 aw274 aw0 aw45 aw275) rfl rfl rfl (by decide +kernel) ⟨Nat.le_of_ble_eq_true rfl, Nat.le_of_ble_eq_true rfl⟩) (z_preV hK hP hD hS hA hT hN hfo (va_recv hK hP (ci := 6) (q0 := 0) rfl rfl)) rfl rfl hl.1 rfl (lv_room (Nat.le_of_ble_eq_true rfl)) dX6_ferry_31 ⟨Nat.zero_le _, Nat.zero_le _⟩) hP hD hS hA hfo (fun H locs hP hD hS => ?_)
        obtain ⟨rfl, rfl, rfl⟩ := so3 hf
        exact ret_i hx hb hr hlocks hK hP hD hS dX6_ferry_34
      refine lv_icmp_gt (tgt := 28) hx hb dX6_ferry_19 (by decide) (fun c11 => ?_) (fun c11 => ?_)
      · have hf := if_t c11 hf
        exact B28_k7 _ _ _ hP hD hS _ (lv_sub hl [0] rfl) hf
      · have hf := if_f c11 hf
        refine lv_iload_n hx hb dX6_ferry_22 rfl (lv_at hl 2 rfl) ?_
        refine lv_bipush (v := 60) hx hb dX6_ferry_23 (by decide) ?_
        refine lv_icmp_le (tgt := 35) hx hb dX6_ferry_25 (by decide) (fun c12 => ?_) (fun c12 => ?_)
        · have hf := if_t c12 hf
          refine lv_aload_n hx hb dX6_ferry_35 rfl (lv_at hl 0 rfl) ?_
          refine va_get (D := D) (ci := 6) (v := .ref (a6 0)) (C := RX6) (T := TX6) (N := 9) hx hb hts iX6 hown hK hP 0 rfl rfl 3 (by decide) (hts _ aw243) (fun _ h9 => h9) rfl dX6_ferry_36 ?_
          refine lv_aload_n hx hb dX6_ferry_39 rfl (lv_at hl 0 rfl) ?_
          refine va_get (D := D) (ci := 6) (v := .ref (a2 0)) (C := RX6) (T := TX6) (N := 9) hx hb hts iX6 hown hK hP 0 rfl rfl 0 (by decide) (hts _ aw240) (fun _ h9 => h9) rfl dX6_ferry_40 ?_
          obtain ⟨y13, q14, hf⟩ := bd_use hf
          have hfo : Foc (WFac z a1 (a2 0) (a3 0) a4 (a6 0) (a7 0) m1 ++ (WDay z a2 m2 ++ (WDay z a3 m3 ++ (WMin a4 (a5 0) m4 ++ (WDay z a5 m5 ++ (WArr z a6 m6 ++ (WLet z a7 m7))))))) (WArr z a6 m6 ++ (WDay z a2 m2)) (WFac z a1 (a2 0) (a3 0) a4 (a6 0) (a7 0) m1 ++ (WDay z a2 m2 ++ (WDay z a3 m3 ++ (WMin a4 (a5 0) m4 ++ (WDay z a5 m5 ++ (WArr z a6 y13 ++ (WLet z a7 m7))))))) (WArr z a6 y13 ++ (WDay z a2 m2)) := (foc_swap (foc_r (foc_app foc_all (foc_r (foc_r (foc_r (foc_l foc_all)))))))
          refine z_goV (ws1 := (WFac z a1 (a2 0) (a3 0) a4 (a6 0) (a7 0) m1 ++ (WDay z a2 m2 ++ (WDay z a3 m3 ++ (WMin a4 (a5 0) m4 ++ (WDay z a5 m5 ++ (WArr z a6 y13 ++ (WLet z a7 m7)))))))) (va_runV (As := [.ref (a2 0)]) (rest := []) ⟨hx, hb, hml, hown, hts⟩ (tX0_take l D z tt a6 a2 m6 m2  fu y13 q14 _) (cwV 1 hts (gV4 aw609 aw610 aw611 aw50 aw612) rfl rfl rfl (by decide +kernel) ⟨Nat.le_of_ble_eq_true rfl, Nat.le_of_ble_eq_true rfl⟩) (z_preV hK hP hD hS hA hT hN hfo (va_recv hK hP (ci := 0) (q0 := 49) rfl rfl)) rfl rfl hl.1 rfl (lv_room (Nat.le_of_ble_eq_true rfl)) dX6_ferry_43 ⟨Nat.zero_le _, Nat.zero_le _⟩) hP hD hS hA hfo (fun H locs hP hD hS => ?_)
          refine lv_aload_n hx hb dX6_ferry_46 rfl (lv_at hl 0 rfl) ?_
          refine va_get (D := D) (ci := 6) (v := .ref (a6 0)) (C := RX6) (T := TX6) (N := 9) hx hb hts iX6 hown hK hP 0 rfl rfl 3 (by decide) (hts _ aw243) (fun _ h9 => h9) rfl dX6_ferry_47 ?_
          refine lv_iload_n hx hb dX6_ferry_50 rfl (lv_at hl 1 rfl) ?_
          refine lv_iload_n hx hb dX6_ferry_51 rfl (lv_at hl 2 rfl) ?_
          obtain ⟨r15, q16, hf⟩ := bd_use hf
          have hfo : Foc (WFac z a1 (a2 0) (a3 0) a4 (a6 0) (a7 0) m1 ++ (WDay z a2 m2 ++ (WDay z a3 m3 ++ (WMin a4 (a5 0) m4 ++ (WDay z a5 m5 ++ (WArr z a6 y13 ++ (WLet z a7 m7))))))) (WArr z a6 y13) (WFac z a1 (a2 0) (a3 0) a4 (a6 0) (a7 0) m1 ++ (WDay z a2 m2 ++ (WDay z a3 m3 ++ (WMin a4 (a5 0) m4 ++ (WDay z a5 m5 ++ (WArr z a6 y13 ++ (WLet z a7 m7))))))) (WArr z a6 y13) := (foc_r (foc_r (foc_r (foc_r (foc_r (foc_l foc_all))))))
          refine z_goI (ws1 := (WFac z a1 (a2 0) (a3 0) a4 (a6 0) (a7 0) m1 ++ (WDay z a2 m2 ++ (WDay z a3 m3 ++ (WMin a4 (a5 0) m4 ++ (WDay z a5 m5 ++ (WArr z a6 y13 ++ (WLet z a7 m7)))))))) (va_runV (As := [.int p1, .int p2]) (rest := []) ⟨hx, hb, hml, hown, hts⟩ (tX0_waitedForSeats l D z tt a6 y13 p1 p2 fu r15 q16 _) (cwV 2 hts (gV4 aw648 aw649 aw650 aw50 aw651) rfl rfl rfl (by decide +kernel) ⟨Nat.le_of_ble_eq_true rfl, Nat.le_of_ble_eq_true rfl⟩) (z_preV hK hP hD hS hA hT hN hfo (va_recv hK hP (ci := 0) (q0 := 49) rfl rfl)) rfl rfl hl.1 rfl (lv_room (Nat.le_of_ble_eq_true rfl)) dX6_ferry_52 ⟨Nat.zero_le _, Nat.zero_le _⟩) hP hD hS hA hfo (fun H locs hP hD hS => ?_)
          obtain ⟨rfl, rfl, rfl⟩ := so3 hf
          exact ret_i hx hb hr hlocks hK hP hD hS dX6_ferry_55
        · have hf := if_f c12 hf
          exact B28_k7 _ _ _ hP hD hS _ (lv_sub hl [0] rfl) hf
    · have hf := if_f c6 hf
      exact B9_k1 _ _ _ hP hD hS _ (lv_sub hl [0] rfl) hf
def pX6_times (fu : Nat) (m1 : Mem) (m2 : Mem) (m6 : Mem) (p1 : Int32) : Option (Int32 × Mem × Mem) :=
  if 1 ≤ p1 then
    if p1 ≤ 60 then
      bd (pX0_take fu m6 m2) fun y3 =>
      bd (pX0_waitedForTimes fu y3 p1) fun r5 =>
      some (r5, m1, y3)
    else
      bd2 (pX6_refuse fu m1 (-6)) fun r7 y8 =>
      some (r7, y8, m6)
  else
    bd2 (pX6_refuse fu m1 (-4)) fun r10 y11 =>
    some (r10, y11, m6)
set_option maxHeartbeats 4000000 in
set_option maxRecDepth 100000 in
theorem tX6_times (l : Launch) (D : va_G) (z tt : Nat → Nat) (a1 : Nat → Nat) (a2 : Nat → Nat) (a3 : Nat → Nat) (a4 : Nat) (a5 : Nat → Nat) (a6 : Nat → Nat) (a7 : Nat → Nat) (m1 : Mem) (m2 : Mem) (m3 : Mem) (m4 : Mem) (m5 : Mem) (m6 : Mem) (m7 : Mem) (p1 : Int32) (fu : Nat) (rr : Int32) (m1' : Mem) (m6' : Mem) (hf : pX6_times fu m1 m2 m6 p1 = some (rr, m1', m6')) : MetI l yX6_times wsX6_times ({ frames := 2, cells := 0, slots := 0, locals := 45 } : Room) D z tt ([.ref (a1 0), .int p1] : List Value) (WFac z a1 (a2 0) (a3 0) a4 (a6 0) (a7 0) m1 ++ (WDay z a2 m2 ++ (WDay z a3 m3 ++ (WMin a4 (a5 0) m4 ++ (WDay z a5 m5 ++ (WArr z a6 m6 ++ (WLet z a7 m7))))))) rr (WFac z a1 (a2 0) (a3 0) a4 (a6 0) (a7 0) m1' ++ (WDay z a2 m2 ++ (WDay z a3 m3 ++ (WMin a4 (a5 0) m4 ++ (WDay z a5 m5 ++ (WArr z a6 m6' ++ (WLet z a7 m7))))))) := by
  intro sz
  refine Met.ofW (cc := cX6_times) (maxL := 2) (ret := (some .int)) (by decide) rfl ?_
  intro p e s m args below meth c s₁ B hml hv
  obtain ⟨rfl, hsz, hP, hK, hD0, hT, hN⟩ := hv
  have hx := B.exec
  have hb := B.bytes
  have hr := B.returns
  have hts : ∀ w ∈ wsA, w.before ([.ref (a1 0), .int p1] : List Value).toArray s = true := fun w h => atoms_spec (ws := wsX6_times) B.pre w (List.mem_cons_of_mem _ h)
  have hown : s.vm.findClass RX6 = some m.cls := findClass_of_methodNamed B.named
  have hlocks := B.notSynchronized
  subst hsz
  have hD := hD0.self (sz := s.heap.size)
  generalize hAe : va_A (WFac z a1 (a2 0) (a3 0) a4 (a6 0) (a7 0) m1 ++ (WDay z a2 m2 ++ (WDay z a3 m3 ++ (WMin a4 (a5 0) m4 ++ (WDay z a5 m5 ++ (WArr z a6 m6 ++ (WLet z a7 m7))))))) s.heap.size = A at hD hT ⊢
  have hA : ∀ q : Nat, s.heap.size ≤ q → A q := fun q h => by rw [← hAe]; exact Or.inr h
  have hS : va_S A s.heap s.heap [] := va_S.rf
  have hl := lv_entry ([.ref (a1 0), .int p1] : List Value) (n := 2) (Nat.le_of_ble_eq_true rfl)
  rw [lg_entry_eq]
  generalize (lg_sl ([.ref (a1 0), .int p1] : List Value) ++ List.replicate (2 - (lg_sl ([.ref (a1 0), .int p1] : List Value)).length) Slot.unset).toArray = ls at hl ⊢
  have hl : lv_has ls 2 [(0, .ref (a1 0)), (1, .int p1)] := hl
  unfold pX6_times at hf
  refine lv_iload_n hx hb dX6_times_0 rfl (lv_at hl 1 rfl) ?_
  refine lv_iconst (v := 1) hx hb dX6_times_1 (by decide) ?_
  refine lv_icmp_ge (tgt := 12) hx hb dX6_times_2 (by decide) (fun c1 => ?_) (fun c1 => ?_)
  · have hf := if_t c1 hf
    refine lv_iload_n hx hb dX6_times_12 rfl (lv_at hl 1 rfl) ?_
    refine lv_bipush (v := 60) hx hb dX6_times_13 (by decide) ?_
    refine lv_icmp_le (tgt := 25) hx hb dX6_times_15 (by decide) (fun c2 => ?_) (fun c2 => ?_)
    · have hf := if_t c2 hf
      refine lv_aload_n hx hb dX6_times_25 rfl (lv_at hl 0 rfl) ?_
      refine va_get (D := D) (ci := 6) (v := .ref (a6 0)) (C := RX6) (T := TX6) (N := 9) hx hb hts iX6 hown hK hP 0 rfl rfl 3 (by decide) (hts _ aw243) (fun _ h9 => h9) rfl dX6_times_26 ?_
      refine lv_aload_n hx hb dX6_times_29 rfl (lv_at hl 0 rfl) ?_
      refine va_get (D := D) (ci := 6) (v := .ref (a2 0)) (C := RX6) (T := TX6) (N := 9) hx hb hts iX6 hown hK hP 0 rfl rfl 0 (by decide) (hts _ aw240) (fun _ h9 => h9) rfl dX6_times_30 ?_
      obtain ⟨y3, q4, hf⟩ := bd_use hf
      have hfo : Foc (WFac z a1 (a2 0) (a3 0) a4 (a6 0) (a7 0) m1 ++ (WDay z a2 m2 ++ (WDay z a3 m3 ++ (WMin a4 (a5 0) m4 ++ (WDay z a5 m5 ++ (WArr z a6 m6 ++ (WLet z a7 m7))))))) (WArr z a6 m6 ++ (WDay z a2 m2)) (WFac z a1 (a2 0) (a3 0) a4 (a6 0) (a7 0) m1 ++ (WDay z a2 m2 ++ (WDay z a3 m3 ++ (WMin a4 (a5 0) m4 ++ (WDay z a5 m5 ++ (WArr z a6 y3 ++ (WLet z a7 m7))))))) (WArr z a6 y3 ++ (WDay z a2 m2)) := (foc_swap (foc_r (foc_app foc_all (foc_r (foc_r (foc_r (foc_l foc_all)))))))
      refine z_goV (ws1 := (WFac z a1 (a2 0) (a3 0) a4 (a6 0) (a7 0) m1 ++ (WDay z a2 m2 ++ (WDay z a3 m3 ++ (WMin a4 (a5 0) m4 ++ (WDay z a5 m5 ++ (WArr z a6 y3 ++ (WLet z a7 m7)))))))) (va_runV (As := [.ref (a2 0)]) (rest := []) ⟨hx, hb, hml, hown, hts⟩ (tX0_take l D z tt a6 a2 m6 m2  fu y3 q4 _) (cwV 1 hts (gV4 aw609 aw610 aw611 aw50 aw612) rfl rfl rfl (by decide +kernel) ⟨Nat.le_of_ble_eq_true rfl, Nat.le_of_ble_eq_true rfl⟩) (z_preV hK hP hD hS hA hT hN hfo (va_recv hK hP (ci := 0) (q0 := 49) rfl rfl)) rfl rfl hl.1 rfl (lv_room (Nat.le_of_ble_eq_true rfl)) dX6_times_33 ⟨Nat.zero_le _, Nat.zero_le _⟩) hP hD hS hA hfo (fun H locs hP hD hS => ?_)
      refine lv_aload_n hx hb dX6_times_36 rfl (lv_at hl 0 rfl) ?_
      refine va_get (D := D) (ci := 6) (v := .ref (a6 0)) (C := RX6) (T := TX6) (N := 9) hx hb hts iX6 hown hK hP 0 rfl rfl 3 (by decide) (hts _ aw243) (fun _ h9 => h9) rfl dX6_times_37 ?_
      refine lv_iload_n hx hb dX6_times_40 rfl (lv_at hl 1 rfl) ?_
      obtain ⟨r5, q6, hf⟩ := bd_use hf
      have hfo : Foc (WFac z a1 (a2 0) (a3 0) a4 (a6 0) (a7 0) m1 ++ (WDay z a2 m2 ++ (WDay z a3 m3 ++ (WMin a4 (a5 0) m4 ++ (WDay z a5 m5 ++ (WArr z a6 y3 ++ (WLet z a7 m7))))))) (WArr z a6 y3) (WFac z a1 (a2 0) (a3 0) a4 (a6 0) (a7 0) m1 ++ (WDay z a2 m2 ++ (WDay z a3 m3 ++ (WMin a4 (a5 0) m4 ++ (WDay z a5 m5 ++ (WArr z a6 y3 ++ (WLet z a7 m7))))))) (WArr z a6 y3) := (foc_r (foc_r (foc_r (foc_r (foc_r (foc_l foc_all))))))
      refine z_goI (ws1 := (WFac z a1 (a2 0) (a3 0) a4 (a6 0) (a7 0) m1 ++ (WDay z a2 m2 ++ (WDay z a3 m3 ++ (WMin a4 (a5 0) m4 ++ (WDay z a5 m5 ++ (WArr z a6 y3 ++ (WLet z a7 m7)))))))) (va_runV (As := [.int p1]) (rest := []) ⟨hx, hb, hml, hown, hts⟩ (tX0_waitedForTimes l D z tt a6 y3 p1 fu r5 q6 _) (cwV 1 hts (gV4 aw656 aw657 aw658 aw50 aw659) rfl rfl rfl (by decide +kernel) ⟨Nat.le_of_ble_eq_true rfl, Nat.le_of_ble_eq_true rfl⟩) (z_preV hK hP hD hS hA hT hN hfo (va_recv hK hP (ci := 0) (q0 := 49) rfl rfl)) rfl rfl hl.1 rfl (lv_room (Nat.le_of_ble_eq_true rfl)) dX6_times_41 ⟨Nat.zero_le _, Nat.zero_le _⟩) hP hD hS hA hfo (fun H locs hP hD hS => ?_)
      obtain ⟨rfl, rfl, rfl⟩ := so3 hf
      exact ret_i hx hb hr hlocks hK hP hD hS dX6_times_44
    · have hf := if_f c2 hf
      refine lv_aload_n hx hb dX6_times_18 rfl (lv_at hl 0 rfl) ?_
      refine lv_bipush (v := (-6)) hx hb dX6_times_19 (by decide) ?_
      obtain ⟨r7, y8, q9, hf⟩ := bd2_use hf
      have hfo : Foc (WFac z a1 (a2 0) (a3 0) a4 (a6 0) (a7 0) m1 ++ (WDay z a2 m2 ++ (WDay z a3 m3 ++ (WMin a4 (a5 0) m4 ++ (WDay z a5 m5 ++ (WArr z a6 m6 ++ (WLet z a7 m7))))))) (WFac z a1 (a2 0) (a3 0) a4 (a6 0) (a7 0) m1) (WFac z a1 (a2 0) (a3 0) a4 (a6 0) (a7 0) y8 ++ (WDay z a2 m2 ++ (WDay z a3 m3 ++ (WMin a4 (a5 0) m4 ++ (WDay z a5 m5 ++ (WArr z a6 m6 ++ (WLet z a7 m7))))))) (WFac z a1 (a2 0) (a3 0) a4 (a6 0) (a7 0) y8) := (foc_l foc_all)
      refine z_goI (ws1 := (WFac z a1 (a2 0) (a3 0) a4 (a6 0) (a7 0) y8 ++ (WDay z a2 m2 ++ (WDay z a3 m3 ++ (WMin a4 (a5 0) m4 ++ (WDay z a5 m5 ++ (WArr z a6 m6 ++ (WLet z a7 m7)))))))) (va_runV (As := [.int (-6)]) (rest := []) ⟨hx, hb, hml, hown, hts⟩ (tX6_refuse l D z tt (a2 0) (a3 0) a4 (a6 0) (a7 0) a1 m1 (-6) fu r7 y8 q9 _) (cwV 1 hts (gV4 aw272 aw274 aw0 aw45 aw275) rfl rfl rfl (by decide +kernel) ⟨Nat.le_of_ble_eq_true rfl, Nat.le_of_ble_eq_true rfl⟩) (z_preV hK hP hD hS hA hT hN hfo (va_recv hK hP (ci := 6) (q0 := 0) rfl rfl)) rfl rfl hl.1 rfl (lv_room (Nat.le_of_ble_eq_true rfl)) dX6_times_21 ⟨Nat.zero_le _, Nat.zero_le _⟩) hP hD hS hA hfo (fun H locs hP hD hS => ?_)
      obtain ⟨rfl, rfl, rfl⟩ := so3 hf
      exact ret_i hx hb hr hlocks hK hP hD hS dX6_times_24
  · have hf := if_f c1 hf
    refine lv_aload_n hx hb dX6_times_5 rfl (lv_at hl 0 rfl) ?_
    refine lv_bipush (v := (-4)) hx hb dX6_times_6 (by decide) ?_
    obtain ⟨r10, y11, q12, hf⟩ := bd2_use hf
    have hfo : Foc (WFac z a1 (a2 0) (a3 0) a4 (a6 0) (a7 0) m1 ++ (WDay z a2 m2 ++ (WDay z a3 m3 ++ (WMin a4 (a5 0) m4 ++ (WDay z a5 m5 ++ (WArr z a6 m6 ++ (WLet z a7 m7))))))) (WFac z a1 (a2 0) (a3 0) a4 (a6 0) (a7 0) m1) (WFac z a1 (a2 0) (a3 0) a4 (a6 0) (a7 0) y11 ++ (WDay z a2 m2 ++ (WDay z a3 m3 ++ (WMin a4 (a5 0) m4 ++ (WDay z a5 m5 ++ (WArr z a6 m6 ++ (WLet z a7 m7))))))) (WFac z a1 (a2 0) (a3 0) a4 (a6 0) (a7 0) y11) := (foc_l foc_all)
    refine z_goI (ws1 := (WFac z a1 (a2 0) (a3 0) a4 (a6 0) (a7 0) y11 ++ (WDay z a2 m2 ++ (WDay z a3 m3 ++ (WMin a4 (a5 0) m4 ++ (WDay z a5 m5 ++ (WArr z a6 m6 ++ (WLet z a7 m7)))))))) (va_runV (As := [.int (-4)]) (rest := []) ⟨hx, hb, hml, hown, hts⟩ (tX6_refuse l D z tt (a2 0) (a3 0) a4 (a6 0) (a7 0) a1 m1 (-4) fu r10 y11 q12 _) (cwV 1 hts (gV4 aw272 aw274 aw0 aw45 aw275) rfl rfl rfl (by decide +kernel) ⟨Nat.le_of_ble_eq_true rfl, Nat.le_of_ble_eq_true rfl⟩) (z_preV hK hP hD hS hA hT hN hfo (va_recv hK hP (ci := 6) (q0 := 0) rfl rfl)) rfl rfl hl.1 rfl (lv_room (Nat.le_of_ble_eq_true rfl)) dX6_times_8 ⟨Nat.zero_le _, Nat.zero_le _⟩) hP hD hS hA hfo (fun H locs hP hD hS => ?_)
    obtain ⟨rfl, rfl, rfl⟩ := so3 hf
    exact ret_i hx hb hr hlocks hK hP hD hS dX6_times_11
def pX6_better (fu : Nat) (m1 : Mem) (m2 : Mem) (m6 : Mem) (p1 : Int32) : Option (Int32 × Mem × Mem) :=
  if 1 ≤ p1 then
    if p1 ≤ 60 then
      bd (pX0_take fu m6 m2) fun y3 =>
      bd (pX0_bestSeats fu y3 p1) fun r5 =>
      some (r5, m1, y3)
    else
      bd2 (pX6_refuse fu m1 (-6)) fun r7 y8 =>
      some (r7, y8, m6)
  else
    bd2 (pX6_refuse fu m1 (-4)) fun r10 y11 =>
    some (r10, y11, m6)
set_option maxHeartbeats 4000000 in
set_option maxRecDepth 100000 in
theorem tX6_better (l : Launch) (D : va_G) (z tt : Nat → Nat) (a1 : Nat → Nat) (a2 : Nat → Nat) (a3 : Nat → Nat) (a4 : Nat) (a5 : Nat → Nat) (a6 : Nat → Nat) (a7 : Nat → Nat) (m1 : Mem) (m2 : Mem) (m3 : Mem) (m4 : Mem) (m5 : Mem) (m6 : Mem) (m7 : Mem) (p1 : Int32) (fu : Nat) (rr : Int32) (m1' : Mem) (m6' : Mem) (hf : pX6_better fu m1 m2 m6 p1 = some (rr, m1', m6')) : MetI l yX6_better wsX6_better ({ frames := 3, cells := 0, slots := 0, locals := 75 } : Room) D z tt ([.ref (a1 0), .int p1] : List Value) (WFac z a1 (a2 0) (a3 0) a4 (a6 0) (a7 0) m1 ++ (WDay z a2 m2 ++ (WDay z a3 m3 ++ (WMin a4 (a5 0) m4 ++ (WDay z a5 m5 ++ (WArr z a6 m6 ++ (WLet z a7 m7))))))) rr (WFac z a1 (a2 0) (a3 0) a4 (a6 0) (a7 0) m1' ++ (WDay z a2 m2 ++ (WDay z a3 m3 ++ (WMin a4 (a5 0) m4 ++ (WDay z a5 m5 ++ (WArr z a6 m6' ++ (WLet z a7 m7))))))) := by
  intro sz
  refine Met.ofW (cc := cX6_better) (maxL := 2) (ret := (some .int)) (by decide) rfl ?_
  intro p e s m args below meth c s₁ B hml hv
  obtain ⟨rfl, hsz, hP, hK, hD0, hT, hN⟩ := hv
  have hx := B.exec
  have hb := B.bytes
  have hr := B.returns
  have hts : ∀ w ∈ wsA, w.before ([.ref (a1 0), .int p1] : List Value).toArray s = true := fun w h => atoms_spec (ws := wsX6_better) B.pre w (List.mem_cons_of_mem _ h)
  have hown : s.vm.findClass RX6 = some m.cls := findClass_of_methodNamed B.named
  have hlocks := B.notSynchronized
  subst hsz
  have hD := hD0.self (sz := s.heap.size)
  generalize hAe : va_A (WFac z a1 (a2 0) (a3 0) a4 (a6 0) (a7 0) m1 ++ (WDay z a2 m2 ++ (WDay z a3 m3 ++ (WMin a4 (a5 0) m4 ++ (WDay z a5 m5 ++ (WArr z a6 m6 ++ (WLet z a7 m7))))))) s.heap.size = A at hD hT ⊢
  have hA : ∀ q : Nat, s.heap.size ≤ q → A q := fun q h => by rw [← hAe]; exact Or.inr h
  have hS : va_S A s.heap s.heap [] := va_S.rf
  have hl := lv_entry ([.ref (a1 0), .int p1] : List Value) (n := 2) (Nat.le_of_ble_eq_true rfl)
  rw [lg_entry_eq]
  generalize (lg_sl ([.ref (a1 0), .int p1] : List Value) ++ List.replicate (2 - (lg_sl ([.ref (a1 0), .int p1] : List Value)).length) Slot.unset).toArray = ls at hl ⊢
  have hl : lv_has ls 2 [(0, .ref (a1 0)), (1, .int p1)] := hl
  unfold pX6_better at hf
  refine lv_iload_n hx hb dX6_better_0 rfl (lv_at hl 1 rfl) ?_
  refine lv_iconst (v := 1) hx hb dX6_better_1 (by decide) ?_
  refine lv_icmp_ge (tgt := 12) hx hb dX6_better_2 (by decide) (fun c1 => ?_) (fun c1 => ?_)
  · have hf := if_t c1 hf
    refine lv_iload_n hx hb dX6_better_12 rfl (lv_at hl 1 rfl) ?_
    refine lv_bipush (v := 60) hx hb dX6_better_13 (by decide) ?_
    refine lv_icmp_le (tgt := 25) hx hb dX6_better_15 (by decide) (fun c2 => ?_) (fun c2 => ?_)
    · have hf := if_t c2 hf
      refine lv_aload_n hx hb dX6_better_25 rfl (lv_at hl 0 rfl) ?_
      refine va_get (D := D) (ci := 6) (v := .ref (a6 0)) (C := RX6) (T := TX6) (N := 9) hx hb hts iX6 hown hK hP 0 rfl rfl 3 (by decide) (hts _ aw243) (fun _ h9 => h9) rfl dX6_better_26 ?_
      refine lv_aload_n hx hb dX6_better_29 rfl (lv_at hl 0 rfl) ?_
      refine va_get (D := D) (ci := 6) (v := .ref (a2 0)) (C := RX6) (T := TX6) (N := 9) hx hb hts iX6 hown hK hP 0 rfl rfl 0 (by decide) (hts _ aw240) (fun _ h9 => h9) rfl dX6_better_30 ?_
      obtain ⟨y3, q4, hf⟩ := bd_use hf
      have hfo : Foc (WFac z a1 (a2 0) (a3 0) a4 (a6 0) (a7 0) m1 ++ (WDay z a2 m2 ++ (WDay z a3 m3 ++ (WMin a4 (a5 0) m4 ++ (WDay z a5 m5 ++ (WArr z a6 m6 ++ (WLet z a7 m7))))))) (WArr z a6 m6 ++ (WDay z a2 m2)) (WFac z a1 (a2 0) (a3 0) a4 (a6 0) (a7 0) m1 ++ (WDay z a2 m2 ++ (WDay z a3 m3 ++ (WMin a4 (a5 0) m4 ++ (WDay z a5 m5 ++ (WArr z a6 y3 ++ (WLet z a7 m7))))))) (WArr z a6 y3 ++ (WDay z a2 m2)) := (foc_swap (foc_r (foc_app foc_all (foc_r (foc_r (foc_r (foc_l foc_all)))))))
      refine z_goV (ws1 := (WFac z a1 (a2 0) (a3 0) a4 (a6 0) (a7 0) m1 ++ (WDay z a2 m2 ++ (WDay z a3 m3 ++ (WMin a4 (a5 0) m4 ++ (WDay z a5 m5 ++ (WArr z a6 y3 ++ (WLet z a7 m7)))))))) (va_runV (As := [.ref (a2 0)]) (rest := []) ⟨hx, hb, hml, hown, hts⟩ (tX0_take l D z tt a6 a2 m6 m2  fu y3 q4 _) (cwV 1 hts (gV4 aw609 aw610 aw611 aw50 aw612) rfl rfl rfl (by decide +kernel) ⟨Nat.le_of_ble_eq_true rfl, Nat.le_of_ble_eq_true rfl⟩) (z_preV hK hP hD hS hA hT hN hfo (va_recv hK hP (ci := 0) (q0 := 49) rfl rfl)) rfl rfl hl.1 rfl (lv_room (Nat.le_of_ble_eq_true rfl)) dX6_better_33 ⟨Nat.zero_le _, Nat.zero_le _⟩) hP hD hS hA hfo (fun H locs hP hD hS => ?_)
      refine lv_aload_n hx hb dX6_better_36 rfl (lv_at hl 0 rfl) ?_
      refine va_get (D := D) (ci := 6) (v := .ref (a6 0)) (C := RX6) (T := TX6) (N := 9) hx hb hts iX6 hown hK hP 0 rfl rfl 3 (by decide) (hts _ aw243) (fun _ h9 => h9) rfl dX6_better_37 ?_
      refine lv_iload_n hx hb dX6_better_40 rfl (lv_at hl 1 rfl) ?_
      obtain ⟨r5, q6, hf⟩ := bd_use hf
      have hfo : Foc (WFac z a1 (a2 0) (a3 0) a4 (a6 0) (a7 0) m1 ++ (WDay z a2 m2 ++ (WDay z a3 m3 ++ (WMin a4 (a5 0) m4 ++ (WDay z a5 m5 ++ (WArr z a6 y3 ++ (WLet z a7 m7))))))) (WArr z a6 y3) (WFac z a1 (a2 0) (a3 0) a4 (a6 0) (a7 0) m1 ++ (WDay z a2 m2 ++ (WDay z a3 m3 ++ (WMin a4 (a5 0) m4 ++ (WDay z a5 m5 ++ (WArr z a6 y3 ++ (WLet z a7 m7))))))) (WArr z a6 y3) := (foc_r (foc_r (foc_r (foc_r (foc_r (foc_l foc_all))))))
      refine z_goI (ws1 := (WFac z a1 (a2 0) (a3 0) a4 (a6 0) (a7 0) m1 ++ (WDay z a2 m2 ++ (WDay z a3 m3 ++ (WMin a4 (a5 0) m4 ++ (WDay z a5 m5 ++ (WArr z a6 y3 ++ (WLet z a7 m7)))))))) (va_runV (As := [.int p1]) (rest := []) ⟨hx, hb, hml, hown, hts⟩ (tX0_bestSeats l D z tt a6 y3 p1 fu r5 q6 _) (cwV 1 hts (gV4 aw667 aw668 aw669 aw50 aw670) rfl rfl rfl (by decide +kernel) ⟨Nat.le_of_ble_eq_true rfl, Nat.le_of_ble_eq_true rfl⟩) (z_preV hK hP hD hS hA hT hN hfo (va_recv hK hP (ci := 0) (q0 := 49) rfl rfl)) rfl rfl hl.1 rfl (lv_room (Nat.le_of_ble_eq_true rfl)) dX6_better_41 ⟨Nat.zero_le _, Nat.zero_le _⟩) hP hD hS hA hfo (fun H locs hP hD hS => ?_)
      obtain ⟨rfl, rfl, rfl⟩ := so3 hf
      exact ret_i hx hb hr hlocks hK hP hD hS dX6_better_44
    · have hf := if_f c2 hf
      refine lv_aload_n hx hb dX6_better_18 rfl (lv_at hl 0 rfl) ?_
      refine lv_bipush (v := (-6)) hx hb dX6_better_19 (by decide) ?_
      obtain ⟨r7, y8, q9, hf⟩ := bd2_use hf
      have hfo : Foc (WFac z a1 (a2 0) (a3 0) a4 (a6 0) (a7 0) m1 ++ (WDay z a2 m2 ++ (WDay z a3 m3 ++ (WMin a4 (a5 0) m4 ++ (WDay z a5 m5 ++ (WArr z a6 m6 ++ (WLet z a7 m7))))))) (WFac z a1 (a2 0) (a3 0) a4 (a6 0) (a7 0) m1) (WFac z a1 (a2 0) (a3 0) a4 (a6 0) (a7 0) y8 ++ (WDay z a2 m2 ++ (WDay z a3 m3 ++ (WMin a4 (a5 0) m4 ++ (WDay z a5 m5 ++ (WArr z a6 m6 ++ (WLet z a7 m7))))))) (WFac z a1 (a2 0) (a3 0) a4 (a6 0) (a7 0) y8) := (foc_l foc_all)
      refine z_goI (ws1 := (WFac z a1 (a2 0) (a3 0) a4 (a6 0) (a7 0) y8 ++ (WDay z a2 m2 ++ (WDay z a3 m3 ++ (WMin a4 (a5 0) m4 ++ (WDay z a5 m5 ++ (WArr z a6 m6 ++ (WLet z a7 m7)))))))) (va_runV (As := [.int (-6)]) (rest := []) ⟨hx, hb, hml, hown, hts⟩ (tX6_refuse l D z tt (a2 0) (a3 0) a4 (a6 0) (a7 0) a1 m1 (-6) fu r7 y8 q9 _) (cwV 1 hts (gV4 aw272 aw274 aw0 aw45 aw275) rfl rfl rfl (by decide +kernel) ⟨Nat.le_of_ble_eq_true rfl, Nat.le_of_ble_eq_true rfl⟩) (z_preV hK hP hD hS hA hT hN hfo (va_recv hK hP (ci := 6) (q0 := 0) rfl rfl)) rfl rfl hl.1 rfl (lv_room (Nat.le_of_ble_eq_true rfl)) dX6_better_21 ⟨Nat.zero_le _, Nat.zero_le _⟩) hP hD hS hA hfo (fun H locs hP hD hS => ?_)
      obtain ⟨rfl, rfl, rfl⟩ := so3 hf
      exact ret_i hx hb hr hlocks hK hP hD hS dX6_better_24
  · have hf := if_f c1 hf
    refine lv_aload_n hx hb dX6_better_5 rfl (lv_at hl 0 rfl) ?_
    refine lv_bipush (v := (-4)) hx hb dX6_better_6 (by decide) ?_
    obtain ⟨r10, y11, q12, hf⟩ := bd2_use hf
    have hfo : Foc (WFac z a1 (a2 0) (a3 0) a4 (a6 0) (a7 0) m1 ++ (WDay z a2 m2 ++ (WDay z a3 m3 ++ (WMin a4 (a5 0) m4 ++ (WDay z a5 m5 ++ (WArr z a6 m6 ++ (WLet z a7 m7))))))) (WFac z a1 (a2 0) (a3 0) a4 (a6 0) (a7 0) m1) (WFac z a1 (a2 0) (a3 0) a4 (a6 0) (a7 0) y11 ++ (WDay z a2 m2 ++ (WDay z a3 m3 ++ (WMin a4 (a5 0) m4 ++ (WDay z a5 m5 ++ (WArr z a6 m6 ++ (WLet z a7 m7))))))) (WFac z a1 (a2 0) (a3 0) a4 (a6 0) (a7 0) y11) := (foc_l foc_all)
    refine z_goI (ws1 := (WFac z a1 (a2 0) (a3 0) a4 (a6 0) (a7 0) y11 ++ (WDay z a2 m2 ++ (WDay z a3 m3 ++ (WMin a4 (a5 0) m4 ++ (WDay z a5 m5 ++ (WArr z a6 m6 ++ (WLet z a7 m7)))))))) (va_runV (As := [.int (-4)]) (rest := []) ⟨hx, hb, hml, hown, hts⟩ (tX6_refuse l D z tt (a2 0) (a3 0) a4 (a6 0) (a7 0) a1 m1 (-4) fu r10 y11 q12 _) (cwV 1 hts (gV4 aw272 aw274 aw0 aw45 aw275) rfl rfl rfl (by decide +kernel) ⟨Nat.le_of_ble_eq_true rfl, Nat.le_of_ble_eq_true rfl⟩) (z_preV hK hP hD hS hA hT hN hfo (va_recv hK hP (ci := 6) (q0 := 0) rfl rfl)) rfl rfl hl.1 rfl (lv_room (Nat.le_of_ble_eq_true rfl)) dX6_better_8 ⟨Nat.zero_le _, Nat.zero_le _⟩) hP hD hS hA hfo (fun H locs hP hD hS => ?_)
    obtain ⟨rfl, rfl, rfl⟩ := so3 hf
    exact ret_i hx hb hr hlocks hK hP hD hS dX6_better_11
def pX6_follow (fu : Nat) (m2 : Mem) (m5 : Mem) : Option (Int32 × Mem) :=
  bd (pX5_take fu m5 m2) fun y1 =>
  bd2 (pX5_comerToFollow fu y1 m2) fun r3 y4 =>
  some (r3, y4)
set_option maxHeartbeats 4000000 in
set_option maxRecDepth 100000 in
theorem tX6_follow (l : Launch) (D : va_G) (z tt : Nat → Nat) (a1 : Nat → Nat) (a2 : Nat → Nat) (a3 : Nat → Nat) (a4 : Nat) (a5 : Nat → Nat) (a6 : Nat → Nat) (a7 : Nat → Nat) (m1 : Mem) (m2 : Mem) (m3 : Mem) (m4 : Mem) (m5 : Mem) (m6 : Mem) (m7 : Mem)  (fu : Nat) (rr : Int32) (m5' : Mem) (hf : pX6_follow fu m2 m5 = some (rr, m5')) : MetI l yX6_follow wsX6_follow ({ frames := 6, cells := 0, slots := 0, locals := 138 } : Room) D z tt ([.ref (a1 0)] : List Value) (WFac z a1 (a2 0) (a3 0) a4 (a6 0) (a7 0) m1 ++ (WDay z a2 m2 ++ (WDay z a3 m3 ++ (WMin a4 (a5 0) m4 ++ (WDay z a5 m5 ++ (WArr z a6 m6 ++ (WLet z a7 m7))))))) rr (WFac z a1 (a2 0) (a3 0) a4 (a6 0) (a7 0) m1 ++ (WDay z a2 m2 ++ (WDay z a3 m3 ++ (WMin a4 (a5 0) m4 ++ (WDay z a5 m5' ++ (WArr z a6 m6 ++ (WLet z a7 m7))))))) := by
  intro sz
  refine Met.ofW (cc := cX6_follow) (maxL := 1) (ret := (some .int)) (by decide) rfl ?_
  intro p e s m args below meth c s₁ B hml hv
  obtain ⟨rfl, hsz, hP, hK, hD0, hT, hN⟩ := hv
  have hx := B.exec
  have hb := B.bytes
  have hr := B.returns
  have hts : ∀ w ∈ wsA, w.before ([.ref (a1 0)] : List Value).toArray s = true := fun w h => atoms_spec (ws := wsX6_follow) B.pre w (List.mem_cons_of_mem _ h)
  have hown : s.vm.findClass RX6 = some m.cls := findClass_of_methodNamed B.named
  have hlocks := B.notSynchronized
  subst hsz
  have hD := hD0.self (sz := s.heap.size)
  generalize hAe : va_A (WFac z a1 (a2 0) (a3 0) a4 (a6 0) (a7 0) m1 ++ (WDay z a2 m2 ++ (WDay z a3 m3 ++ (WMin a4 (a5 0) m4 ++ (WDay z a5 m5 ++ (WArr z a6 m6 ++ (WLet z a7 m7))))))) s.heap.size = A at hD hT ⊢
  have hA : ∀ q : Nat, s.heap.size ≤ q → A q := fun q h => by rw [← hAe]; exact Or.inr h
  have hS : va_S A s.heap s.heap [] := va_S.rf
  have hl := lv_entry ([.ref (a1 0)] : List Value) (n := 1) (Nat.le_of_ble_eq_true rfl)
  rw [lg_entry_eq]
  generalize (lg_sl ([.ref (a1 0)] : List Value) ++ List.replicate (1 - (lg_sl ([.ref (a1 0)] : List Value)).length) Slot.unset).toArray = ls at hl ⊢
  have hl : lv_has ls 1 [(0, .ref (a1 0))] := hl
  unfold pX6_follow at hf
  refine lv_aload_n hx hb dX6_follow_0 rfl (lv_at hl 0 rfl) ?_
  refine va_get (D := D) (ci := 6) (v := .ref a4) (C := RX6) (T := TX6) (N := 9) hx hb hts iX6 hown hK hP 0 rfl rfl 2 (by decide) (hts _ aw242) (fun _ h9 => h9) rfl dX6_follow_1 ?_
  refine lv_aload_n hx hb dX6_follow_4 rfl (lv_at hl 0 rfl) ?_
  refine va_get (D := D) (ci := 6) (v := .ref (a2 0)) (C := RX6) (T := TX6) (N := 9) hx hb hts iX6 hown hK hP 0 rfl rfl 0 (by decide) (hts _ aw240) (fun _ h9 => h9) rfl dX6_follow_5 ?_
  obtain ⟨y1, q2, hf⟩ := bd_use hf
  have hfo : Foc (WFac z a1 (a2 0) (a3 0) a4 (a6 0) (a7 0) m1 ++ (WDay z a2 m2 ++ (WDay z a3 m3 ++ (WMin a4 (a5 0) m4 ++ (WDay z a5 m5 ++ (WArr z a6 m6 ++ (WLet z a7 m7))))))) (WMin a4 (a5 0) m4 ++ (WDay z a5 m5 ++ (WDay z a2 m2))) (WFac z a1 (a2 0) (a3 0) a4 (a6 0) (a7 0) m1 ++ (WDay z a2 m2 ++ (WDay z a3 m3 ++ (WMin a4 (a5 0) m4 ++ (WDay z a5 y1 ++ (WArr z a6 m6 ++ (WLet z a7 m7))))))) (WMin a4 (a5 0) m4 ++ (WDay z a5 y1 ++ (WDay z a2 m2))) := (foc_rot (foc_r (foc_app foc_all (foc_r (foc_app foc_all (foc_l foc_all))))))
  refine z_goV (ws1 := (WFac z a1 (a2 0) (a3 0) a4 (a6 0) (a7 0) m1 ++ (WDay z a2 m2 ++ (WDay z a3 m3 ++ (WMin a4 (a5 0) m4 ++ (WDay z a5 y1 ++ (WArr z a6 m6 ++ (WLet z a7 m7)))))))) (va_runV (As := [.ref (a2 0)]) (rest := []) ⟨hx, hb, hml, hown, hts⟩ (tX5_take l D z tt a4 a5 a2 m4 m5 m2  fu y1 q2 _) (cwV 1 hts (gV4 aw284 aw285 aw286 aw49 aw287) rfl rfl rfl (by decide +kernel) ⟨Nat.le_of_ble_eq_true rfl, Nat.le_of_ble_eq_true rfl⟩) (z_preV hK hP hD hS hA hT hN hfo (va_recv hK hP (ci := 5) (q0 := 33) rfl rfl)) rfl rfl hl.1 rfl (lv_room (Nat.le_of_ble_eq_true rfl)) dX6_follow_8 ⟨Nat.zero_le _, Nat.zero_le _⟩) hP hD hS hA hfo (fun H locs hP hD hS => ?_)
  refine lv_aload_n hx hb dX6_follow_11 rfl (lv_at hl 0 rfl) ?_
  refine va_get (D := D) (ci := 6) (v := .ref a4) (C := RX6) (T := TX6) (N := 9) hx hb hts iX6 hown hK hP 0 rfl rfl 2 (by decide) (hts _ aw242) (fun _ h9 => h9) rfl dX6_follow_12 ?_
  refine lv_aload_n hx hb dX6_follow_15 rfl (lv_at hl 0 rfl) ?_
  refine va_get (D := D) (ci := 6) (v := .ref (a2 0)) (C := RX6) (T := TX6) (N := 9) hx hb hts iX6 hown hK hP 0 rfl rfl 0 (by decide) (hts _ aw240) (fun _ h9 => h9) rfl dX6_follow_16 ?_
  obtain ⟨r3, y4, q5, hf⟩ := bd2_use hf
  have hfo : Foc (WFac z a1 (a2 0) (a3 0) a4 (a6 0) (a7 0) m1 ++ (WDay z a2 m2 ++ (WDay z a3 m3 ++ (WMin a4 (a5 0) m4 ++ (WDay z a5 y1 ++ (WArr z a6 m6 ++ (WLet z a7 m7))))))) (WMin a4 (a5 0) m4 ++ (WDay z a5 y1 ++ (WDay z a2 m2))) (WFac z a1 (a2 0) (a3 0) a4 (a6 0) (a7 0) m1 ++ (WDay z a2 m2 ++ (WDay z a3 m3 ++ (WMin a4 (a5 0) m4 ++ (WDay z a5 y4 ++ (WArr z a6 m6 ++ (WLet z a7 m7))))))) (WMin a4 (a5 0) m4 ++ (WDay z a5 y4 ++ (WDay z a2 m2))) := (foc_rot (foc_r (foc_app foc_all (foc_r (foc_app foc_all (foc_l foc_all))))))
  refine z_goI (ws1 := (WFac z a1 (a2 0) (a3 0) a4 (a6 0) (a7 0) m1 ++ (WDay z a2 m2 ++ (WDay z a3 m3 ++ (WMin a4 (a5 0) m4 ++ (WDay z a5 y4 ++ (WArr z a6 m6 ++ (WLet z a7 m7)))))))) (va_runV (As := [.ref (a2 0)]) (rest := []) ⟨hx, hb, hml, hown, hts⟩ (tX5_comerToFollow l D z tt a4 a5 a2 m4 y1 m2  fu r3 y4 q5 _) (cwV 1 hts (gV4 aw677 aw678 aw679 aw49 aw680) rfl rfl rfl (by decide +kernel) ⟨Nat.le_of_ble_eq_true rfl, Nat.le_of_ble_eq_true rfl⟩) (z_preV hK hP hD hS hA hT hN hfo (va_recv hK hP (ci := 5) (q0 := 33) rfl rfl)) rfl rfl hl.1 rfl (lv_room (Nat.le_of_ble_eq_true rfl)) dX6_follow_19 ⟨Nat.zero_le _, Nat.zero_le _⟩) hP hD hS hA hfo (fun H locs hP hD hS => ?_)
  obtain ⟨rfl, rfl⟩ := so2 hf
  exact ret_i hx hb hr hlocks hK hP hD hS dX6_follow_22
def pX6_row (fu : Nat) (m1 : Mem) (p1 : Int32) : Option (Int32 × Mem) :=
  if 0 ≤ p1 then
    jn1 (fun (u0 : Unit) =>
      bd2 (pX6_refuse fu m1 (-6)) fun r3 y4 =>
      some (r3, y4)) fun k2 =>
    if 99 < p1 then
      k2 ()
    else
      if (m1 0 7) < 12 then
        ck (m1 0 7) 12 <|
        lt' (up2 m1 1 (m1 0 7).toNatClampNeg p1) fun y8 =>
        lt' (up2 y8 0 7 ((y8 0 7) + 1)) fun y10 =>
        some ((y10 0 7), y10)
      else
        k2 ()
  else
    bd2 (pX6_refuse fu m1 (-4)) fun r11 y12 =>
    some (r11, y12)
set_option maxHeartbeats 4000000 in
set_option maxRecDepth 100000 in
theorem tX6_row (l : Launch) (D : va_G) (z tt : Nat → Nat) (a1 : Nat → Nat) (a2 : Nat → Nat) (a3 : Nat → Nat) (a4 : Nat) (a5 : Nat → Nat) (a6 : Nat → Nat) (a7 : Nat → Nat) (m1 : Mem) (m2 : Mem) (m3 : Mem) (m4 : Mem) (m5 : Mem) (m6 : Mem) (m7 : Mem) (p1 : Int32) (fu : Nat) (rr : Int32) (m1' : Mem) (hf : pX6_row fu m1 p1 = some (rr, m1')) : MetI l yX6_row wsX6_row ({ frames := 1, cells := 0, slots := 0, locals := 22 } : Room) D z tt ([.ref (a1 0), .int p1] : List Value) (WFac z a1 (a2 0) (a3 0) a4 (a6 0) (a7 0) m1 ++ (WDay z a2 m2 ++ (WDay z a3 m3 ++ (WMin a4 (a5 0) m4 ++ (WDay z a5 m5 ++ (WArr z a6 m6 ++ (WLet z a7 m7))))))) rr (WFac z a1 (a2 0) (a3 0) a4 (a6 0) (a7 0) m1' ++ (WDay z a2 m2 ++ (WDay z a3 m3 ++ (WMin a4 (a5 0) m4 ++ (WDay z a5 m5 ++ (WArr z a6 m6 ++ (WLet z a7 m7))))))) := by
  intro sz
  refine Met.ofW (cc := cX6_row) (maxL := 2) (ret := (some .int)) (by decide) rfl ?_
  intro p e s m args below meth c s₁ B hml hv
  obtain ⟨rfl, hsz, hP, hK, hD0, hT, hN⟩ := hv
  have hx := B.exec
  have hb := B.bytes
  have hr := B.returns
  have hts : ∀ w ∈ wsA, w.before ([.ref (a1 0), .int p1] : List Value).toArray s = true := fun w h => atoms_spec (ws := wsX6_row) B.pre w (List.mem_cons_of_mem _ h)
  have hown : s.vm.findClass RX6 = some m.cls := findClass_of_methodNamed B.named
  have hlocks := B.notSynchronized
  subst hsz
  have hD := hD0.self (sz := s.heap.size)
  generalize hAe : va_A (WFac z a1 (a2 0) (a3 0) a4 (a6 0) (a7 0) m1 ++ (WDay z a2 m2 ++ (WDay z a3 m3 ++ (WMin a4 (a5 0) m4 ++ (WDay z a5 m5 ++ (WArr z a6 m6 ++ (WLet z a7 m7))))))) s.heap.size = A at hD hT ⊢
  have hA : ∀ q : Nat, s.heap.size ≤ q → A q := fun q h => by rw [← hAe]; exact Or.inr h
  have hS : va_S A s.heap s.heap [] := va_S.rf
  have hl := lv_entry ([.ref (a1 0), .int p1] : List Value) (n := 2) (Nat.le_of_ble_eq_true rfl)
  rw [lg_entry_eq]
  generalize (lg_sl ([.ref (a1 0), .int p1] : List Value) ++ List.replicate (2 - (lg_sl ([.ref (a1 0), .int p1] : List Value)).length) Slot.unset).toArray = ls at hl ⊢
  have hl : lv_has ls 2 [(0, .ref (a1 0)), (1, .int p1)] := hl
  unfold pX6_row at hf
  refine lv_iload_n hx hb dX6_row_0 rfl (lv_at hl 1 rfl) ?_
  refine lv_if_ge (tgt := 11) hx hb dX6_row_1 (by decide) (fun c1 => ?_) (fun c1 => ?_)
  · have hf := if_t c1 hf
    refine lv_iload_n hx hb dX6_row_11 rfl (lv_at hl 1 rfl) ?_
    refine lv_bipush (v := 99) hx hb dX6_row_12 (by decide) ?_
    obtain ⟨k2, ek2, hf⟩ := jn1_use hf
    have B29_k2 : ∀ (u0 : Unit) (H : Heap) (locs : List Loc), va_P D vwCl (WFac z a1 (a2 0) (a3 0) a4 (a6 0) (a7 0) m1 ++ (WDay z a2 m2 ++ (WDay z a3 m3 ++ (WMin a4 (a5 0) m4 ++ (WDay z a5 m5 ++ (WArr z a6 m6 ++ (WLet z a7 m7))))))) H → va_D A (WFac z a1 (a2 0) (a3 0) a4 (a6 0) (a7 0) m1 ++ (WDay z a2 m2 ++ (WDay z a3 m3 ++ (WMin a4 (a5 0) m4 ++ (WDay z a5 m5 ++ (WArr z a6 m6 ++ (WLet z a7 m7))))))) → va_S A s.heap H locs → ∀ (ls : Array Slot), lv_has ls 2 [(0, .ref (a1 0))] → k2 u0 = some (rr, m1') → GI p l e (headSpec wsX6_row ({ frames := 1, cells := 0, slots := 0, locals := 22 } : Room)).room s m ([.ref (a1 0), .int p1] : List Value).toArray below meth c A D z rr (WFac z a1 (a2 0) (a3 0) a4 (a6 0) (a7 0) m1' ++ (WDay z a2 m2 ++ (WDay z a3 m3 ++ (WMin a4 (a5 0) m4 ++ (WDay z a5 m5 ++ (WArr z a6 m6 ++ (WLet z a7 m7))))))) H locs (F0 m 29 ls []) := by
      intro u0 H locs hP hD hS ls hl hf
      have hf := jn1_ap ek2 hf
      refine lv_aload_n hx hb dX6_row_29 rfl (lv_at hl 0 rfl) ?_
      refine lv_bipush (v := (-6)) hx hb dX6_row_30 (by decide) ?_
      obtain ⟨r3, y4, q5, hf⟩ := bd2_use hf
      have hfo : Foc (WFac z a1 (a2 0) (a3 0) a4 (a6 0) (a7 0) m1 ++ (WDay z a2 m2 ++ (WDay z a3 m3 ++ (WMin a4 (a5 0) m4 ++ (WDay z a5 m5 ++ (WArr z a6 m6 ++ (WLet z a7 m7))))))) (WFac z a1 (a2 0) (a3 0) a4 (a6 0) (a7 0) m1) (WFac z a1 (a2 0) (a3 0) a4 (a6 0) (a7 0) y4 ++ (WDay z a2 m2 ++ (WDay z a3 m3 ++ (WMin a4 (a5 0) m4 ++ (WDay z a5 m5 ++ (WArr z a6 m6 ++ (WLet z a7 m7))))))) (WFac z a1 (a2 0) (a3 0) a4 (a6 0) (a7 0) y4) := (foc_l foc_all)
      refine z_goI (ws1 := (WFac z a1 (a2 0) (a3 0) a4 (a6 0) (a7 0) y4 ++ (WDay z a2 m2 ++ (WDay z a3 m3 ++ (WMin a4 (a5 0) m4 ++ (WDay z a5 m5 ++ (WArr z a6 m6 ++ (WLet z a7 m7)))))))) (va_runV (As := [.int (-6)]) (rest := []) ⟨hx, hb, hml, hown, hts⟩ (tX6_refuse l D z tt (a2 0) (a3 0) a4 (a6 0) (a7 0) a1 m1 (-6) fu r3 y4 q5 _) (cwV 1 hts (gV4 aw272 aw274 aw0 aw45 aw275) rfl rfl rfl (by decide +kernel) ⟨Nat.le_of_ble_eq_true rfl, Nat.le_of_ble_eq_true rfl⟩) (z_preV hK hP hD hS hA hT hN hfo (va_recv hK hP (ci := 6) (q0 := 0) rfl rfl)) rfl rfl hl.1 rfl (lv_room (Nat.le_of_ble_eq_true rfl)) dX6_row_32 ⟨Nat.zero_le _, Nat.zero_le _⟩) hP hD hS hA hfo (fun H locs hP hD hS => ?_)
      obtain ⟨rfl, rfl⟩ := so2 hf
      exact ret_i hx hb hr hlocks hK hP hD hS dX6_row_35
    refine lv_icmp_gt (tgt := 29) hx hb dX6_row_14 (by decide) (fun c6 => ?_) (fun c6 => ?_)
    · have hf := if_t c6 hf
      exact B29_k2 _ _ _ hP hD hS _ (lv_sub hl [0] rfl) hf
    · have hf := if_f c6 hf
      refine lv_aload_n hx hb dX6_row_17 rfl (lv_at hl 0 rfl) ?_
      refine va_get (D := D) (ci := 6) (v := .int (m1 0 7)) (C := RX6) (T := TX6) (N := 9) hx hb hts iX6 hown hK hP 0 rfl rfl 7 (by decide) (hts _ aw247) (fun _ h9 => h9) rfl dX6_row_18 ?_
      refine lv_aload_n hx hb dX6_row_21 rfl (lv_at hl 0 rfl) ?_
      refine va_get (D := D) (ci := 6) (v := .ref (a1 1)) (C := RX6) (T := TX6) (N := 9) hx hb hts iX6 hown hK hP 0 rfl rfl 5 (by decide) (hts _ aw245) (fun _ h9 => h9) rfl dX6_row_22 ?_
      refine z_alen hx hb hK hP 1 0 rfl rfl (v := 12) rfl dX6_row_25 ?_
      refine lv_icmp_lt (tgt := 36) hx hb dX6_row_26 (by decide) (fun c7 => ?_) (fun c7 => ?_)
      · have hf := if_t c7 hf
        refine lv_aload_n hx hb dX6_row_36 rfl (lv_at hl 0 rfl) ?_
        refine va_get (D := D) (ci := 6) (v := .ref (a1 1)) (C := RX6) (T := TX6) (N := 9) hx hb hts iX6 hown hK hP 0 rfl rfl 5 (by decide) (hts _ aw245) (fun _ h9 => h9) rfl dX6_row_37 ?_
        refine lv_aload_n hx hb dX6_row_40 rfl (lv_at hl 0 rfl) ?_
        refine va_get (D := D) (ci := 6) (v := .int (m1 0 7)) (C := RX6) (T := TX6) (N := 9) hx hb hts iX6 hown hK hP 0 rfl rfl 7 (by decide) (hts _ aw247) (fun _ h9 => h9) rfl dX6_row_41 ?_
        refine lv_iload_n hx hb dX6_row_44 rfl (lv_at hl 1 rfl) ?_
        obtain ⟨h9, hf⟩ := ck_use hf
        refine z_iast hx hb hK hP hD hS 1 rfl h9 dX6_row_45 (fun (w9 : Mem) => (WFac z a1 (a2 0) (a3 0) a4 (a6 0) (a7 0) w9 ++ (WDay z a2 m2 ++ (WDay z a3 m3 ++ (WMin a4 (a5 0) m4 ++ (WDay z a5 m5 ++ (WArr z a6 m6 ++ (WLet z a7 m7)))))))) (up2 m1 1 (m1 0 7).toNatClampNeg p1) rfl (fun y8 ey8 H locs hP hD hS => ?_)
        have hf := lt_use ey8 hf
        refine lv_aload_n hx hb dX6_row_46 rfl (lv_at hl 0 rfl) ?_
        refine lv_dup hx hb dX6_row_47 rfl ?_
        refine va_get (D := D) (ci := 6) (v := .int (y8 0 7)) (C := RX6) (T := TX6) (N := 9) hx hb hts iX6 hown hK hP 0 rfl rfl 7 (by decide) (hts _ aw247) (fun _ h9 => h9) rfl dX6_row_48 ?_
        refine lv_iconst (v := 1) hx hb dX6_row_51 (by decide) ?_
        refine lv_iadd hx hb dX6_row_52 ?_
        refine z_put (ci := 6) (v := .int ((y8 0 7) + 1)) (ty := .int) (C := RX6) (T := TX6) (N := 9) hx hb hts iX6 tyX6 tyX6_ok nmX6 hown hK hP hD hS 0 rfl rfl 7 (by decide) (hts _ aw247) (fun _ h9 => h9) rfl (by decide +kernel) rfl rfl (Nat.le_of_ble_eq_true rfl) dX6_row_53 (fun (w9 : Mem) => (WFac z a1 (a2 0) (a3 0) a4 (a6 0) (a7 0) w9 ++ (WDay z a2 m2 ++ (WDay z a3 m3 ++ (WMin a4 (a5 0) m4 ++ (WDay z a5 m5 ++ (WArr z a6 m6 ++ (WLet z a7 m7)))))))) (up2 y8 0 7 ((y8 0 7) + 1)) rfl (fun y10 ey10 H locs hP hD hS => ?_)
        have hf := lt_use ey10 hf
        refine lv_aload_n hx hb dX6_row_56 rfl (lv_at hl 0 rfl) ?_
        refine va_get (D := D) (ci := 6) (v := .int (y10 0 7)) (C := RX6) (T := TX6) (N := 9) hx hb hts iX6 hown hK hP 0 rfl rfl 7 (by decide) (hts _ aw247) (fun _ h9 => h9) rfl dX6_row_57 ?_
        obtain ⟨rfl, rfl⟩ := so2 hf
        exact ret_i hx hb hr hlocks hK hP hD hS dX6_row_60
      · have hf := if_f c7 hf
        exact B29_k2 _ _ _ hP hD hS _ (lv_sub hl [0] rfl) hf
  · have hf := if_f c1 hf
    refine lv_aload_n hx hb dX6_row_4 rfl (lv_at hl 0 rfl) ?_
    refine lv_bipush (v := (-4)) hx hb dX6_row_5 (by decide) ?_
    obtain ⟨r11, y12, q13, hf⟩ := bd2_use hf
    have hfo : Foc (WFac z a1 (a2 0) (a3 0) a4 (a6 0) (a7 0) m1 ++ (WDay z a2 m2 ++ (WDay z a3 m3 ++ (WMin a4 (a5 0) m4 ++ (WDay z a5 m5 ++ (WArr z a6 m6 ++ (WLet z a7 m7))))))) (WFac z a1 (a2 0) (a3 0) a4 (a6 0) (a7 0) m1) (WFac z a1 (a2 0) (a3 0) a4 (a6 0) (a7 0) y12 ++ (WDay z a2 m2 ++ (WDay z a3 m3 ++ (WMin a4 (a5 0) m4 ++ (WDay z a5 m5 ++ (WArr z a6 m6 ++ (WLet z a7 m7))))))) (WFac z a1 (a2 0) (a3 0) a4 (a6 0) (a7 0) y12) := (foc_l foc_all)
    refine z_goI (ws1 := (WFac z a1 (a2 0) (a3 0) a4 (a6 0) (a7 0) y12 ++ (WDay z a2 m2 ++ (WDay z a3 m3 ++ (WMin a4 (a5 0) m4 ++ (WDay z a5 m5 ++ (WArr z a6 m6 ++ (WLet z a7 m7)))))))) (va_runV (As := [.int (-4)]) (rest := []) ⟨hx, hb, hml, hown, hts⟩ (tX6_refuse l D z tt (a2 0) (a3 0) a4 (a6 0) (a7 0) a1 m1 (-4) fu r11 y12 q13 _) (cwV 1 hts (gV4 aw272 aw274 aw0 aw45 aw275) rfl rfl rfl (by decide +kernel) ⟨Nat.le_of_ble_eq_true rfl, Nat.le_of_ble_eq_true rfl⟩) (z_preV hK hP hD hS hA hT hN hfo (va_recv hK hP (ci := 6) (q0 := 0) rfl rfl)) rfl rfl hl.1 rfl (lv_room (Nat.le_of_ble_eq_true rfl)) dX6_row_7 ⟨Nat.zero_le _, Nat.zero_le _⟩) hP hD hS hA hfo (fun H locs hP hD hS => ?_)
    obtain ⟨rfl, rfl⟩ := so2 hf
    exact ret_i hx hb hr hlocks hK hP hD hS dX6_row_10
def pX6_judge (fu : Nat) (m1 : Mem) (m2 : Mem) (m5 : Mem) : Option (Int32 × Mem × Mem) :=
  bd (pX5_take fu m5 m2) fun y1 =>
  bd2 (pX5_firstOtherLevel fu y1 (m1 1) (m1 0 7)) fun r3 y4 =>
  lt' (up2 m1 0 7 0) fun y6 =>
  some (r3, y6, y4)
set_option maxHeartbeats 4000000 in
set_option maxRecDepth 100000 in
theorem tX6_judge (l : Launch) (D : va_G) (z tt : Nat → Nat) (a1 : Nat → Nat) (a2 : Nat → Nat) (a3 : Nat → Nat) (a4 : Nat) (a5 : Nat → Nat) (a6 : Nat → Nat) (a7 : Nat → Nat) (m1 : Mem) (m2 : Mem) (m3 : Mem) (m4 : Mem) (m5 : Mem) (m6 : Mem) (m7 : Mem)  (fu : Nat) (rr : Int32) (m1' : Mem) (m5' : Mem) (hf : pX6_judge fu m1 m2 m5 = some (rr, m1', m5')) : MetI l yX6_judge wsX6_judge ({ frames := 6, cells := 0, slots := 0, locals := 136 } : Room) D z tt ([.ref (a1 0)] : List Value) (WFac z a1 (a2 0) (a3 0) a4 (a6 0) (a7 0) m1 ++ (WDay z a2 m2 ++ (WDay z a3 m3 ++ (WMin a4 (a5 0) m4 ++ (WDay z a5 m5 ++ (WArr z a6 m6 ++ (WLet z a7 m7))))))) rr (WFac z a1 (a2 0) (a3 0) a4 (a6 0) (a7 0) m1' ++ (WDay z a2 m2 ++ (WDay z a3 m3 ++ (WMin a4 (a5 0) m4 ++ (WDay z a5 m5' ++ (WArr z a6 m6 ++ (WLet z a7 m7))))))) := by
  intro sz
  refine Met.ofW (cc := cX6_judge) (maxL := 2) (ret := (some .int)) (by decide) rfl ?_
  intro p e s m args below meth c s₁ B hml hv
  obtain ⟨rfl, hsz, hP, hK, hD0, hT, hN⟩ := hv
  have hx := B.exec
  have hb := B.bytes
  have hr := B.returns
  have hts : ∀ w ∈ wsA, w.before ([.ref (a1 0)] : List Value).toArray s = true := fun w h => atoms_spec (ws := wsX6_judge) B.pre w (List.mem_cons_of_mem _ h)
  have hown : s.vm.findClass RX6 = some m.cls := findClass_of_methodNamed B.named
  have hlocks := B.notSynchronized
  subst hsz
  have hD := hD0.self (sz := s.heap.size)
  generalize hAe : va_A (WFac z a1 (a2 0) (a3 0) a4 (a6 0) (a7 0) m1 ++ (WDay z a2 m2 ++ (WDay z a3 m3 ++ (WMin a4 (a5 0) m4 ++ (WDay z a5 m5 ++ (WArr z a6 m6 ++ (WLet z a7 m7))))))) s.heap.size = A at hD hT ⊢
  have hA : ∀ q : Nat, s.heap.size ≤ q → A q := fun q h => by rw [← hAe]; exact Or.inr h
  have hS : va_S A s.heap s.heap [] := va_S.rf
  have hl := lv_entry ([.ref (a1 0)] : List Value) (n := 2) (Nat.le_of_ble_eq_true rfl)
  rw [lg_entry_eq]
  generalize (lg_sl ([.ref (a1 0)] : List Value) ++ List.replicate (2 - (lg_sl ([.ref (a1 0)] : List Value)).length) Slot.unset).toArray = ls at hl ⊢
  have hl : lv_has ls 2 [(0, .ref (a1 0))] := hl
  unfold pX6_judge at hf
  refine lv_aload_n hx hb dX6_judge_0 rfl (lv_at hl 0 rfl) ?_
  refine va_get (D := D) (ci := 6) (v := .ref a4) (C := RX6) (T := TX6) (N := 9) hx hb hts iX6 hown hK hP 0 rfl rfl 2 (by decide) (hts _ aw242) (fun _ h9 => h9) rfl dX6_judge_1 ?_
  refine lv_aload_n hx hb dX6_judge_4 rfl (lv_at hl 0 rfl) ?_
  refine va_get (D := D) (ci := 6) (v := .ref (a2 0)) (C := RX6) (T := TX6) (N := 9) hx hb hts iX6 hown hK hP 0 rfl rfl 0 (by decide) (hts _ aw240) (fun _ h9 => h9) rfl dX6_judge_5 ?_
  obtain ⟨y1, q2, hf⟩ := bd_use hf
  have hfo : Foc (WFac z a1 (a2 0) (a3 0) a4 (a6 0) (a7 0) m1 ++ (WDay z a2 m2 ++ (WDay z a3 m3 ++ (WMin a4 (a5 0) m4 ++ (WDay z a5 m5 ++ (WArr z a6 m6 ++ (WLet z a7 m7))))))) (WMin a4 (a5 0) m4 ++ (WDay z a5 m5 ++ (WDay z a2 m2))) (WFac z a1 (a2 0) (a3 0) a4 (a6 0) (a7 0) m1 ++ (WDay z a2 m2 ++ (WDay z a3 m3 ++ (WMin a4 (a5 0) m4 ++ (WDay z a5 y1 ++ (WArr z a6 m6 ++ (WLet z a7 m7))))))) (WMin a4 (a5 0) m4 ++ (WDay z a5 y1 ++ (WDay z a2 m2))) := (foc_rot (foc_r (foc_app foc_all (foc_r (foc_app foc_all (foc_l foc_all))))))
  refine z_goV (ws1 := (WFac z a1 (a2 0) (a3 0) a4 (a6 0) (a7 0) m1 ++ (WDay z a2 m2 ++ (WDay z a3 m3 ++ (WMin a4 (a5 0) m4 ++ (WDay z a5 y1 ++ (WArr z a6 m6 ++ (WLet z a7 m7)))))))) (va_runV (As := [.ref (a2 0)]) (rest := []) ⟨hx, hb, hml, hown, hts⟩ (tX5_take l D z tt a4 a5 a2 m4 m5 m2  fu y1 q2 _) (cwV 1 hts (gV4 aw284 aw285 aw286 aw49 aw287) rfl rfl rfl (by decide +kernel) ⟨Nat.le_of_ble_eq_true rfl, Nat.le_of_ble_eq_true rfl⟩) (z_preV hK hP hD hS hA hT hN hfo (va_recv hK hP (ci := 5) (q0 := 33) rfl rfl)) rfl rfl hl.1 rfl (lv_room (Nat.le_of_ble_eq_true rfl)) dX6_judge_8 ⟨Nat.zero_le _, Nat.zero_le _⟩) hP hD hS hA hfo (fun H locs hP hD hS => ?_)
  refine lv_aload_n hx hb dX6_judge_11 rfl (lv_at hl 0 rfl) ?_
  refine va_get (D := D) (ci := 6) (v := .ref a4) (C := RX6) (T := TX6) (N := 9) hx hb hts iX6 hown hK hP 0 rfl rfl 2 (by decide) (hts _ aw242) (fun _ h9 => h9) rfl dX6_judge_12 ?_
  refine lv_aload_n hx hb dX6_judge_15 rfl (lv_at hl 0 rfl) ?_
  refine va_get (D := D) (ci := 6) (v := .ref (a1 1)) (C := RX6) (T := TX6) (N := 9) hx hb hts iX6 hown hK hP 0 rfl rfl 5 (by decide) (hts _ aw245) (fun _ h9 => h9) rfl dX6_judge_16 ?_
  refine lv_aload_n hx hb dX6_judge_19 rfl (lv_at hl 0 rfl) ?_
  refine va_get (D := D) (ci := 6) (v := .int (m1 0 7)) (C := RX6) (T := TX6) (N := 9) hx hb hts iX6 hown hK hP 0 rfl rfl 7 (by decide) (hts _ aw247) (fun _ h9 => h9) rfl dX6_judge_20 ?_
  obtain ⟨r3, y4, q5, hf⟩ := bd2_use hf
  have hfo : Foc (WFac z a1 (a2 0) (a3 0) a4 (a6 0) (a7 0) m1 ++ (WDay z a2 m2 ++ (WDay z a3 m3 ++ (WMin a4 (a5 0) m4 ++ (WDay z a5 y1 ++ (WArr z a6 m6 ++ (WLet z a7 m7))))))) (WMin a4 (a5 0) m4 ++ (WDay z a5 y1 ++ (WRow z (a1 1) 12 (m1 1)))) (WFac z a1 (a2 0) (a3 0) a4 (a6 0) (a7 0) m1 ++ (WDay z a2 m2 ++ (WDay z a3 m3 ++ (WMin a4 (a5 0) m4 ++ (WDay z a5 y4 ++ (WArr z a6 m6 ++ (WLet z a7 m7))))))) (WMin a4 (a5 0) m4 ++ (WDay z a5 y4 ++ (WRow z (a1 1) 12 (m1 1)))) := (foc_rot (foc_app (foc_els (k := 1) rfl) (foc_r (foc_r (foc_app foc_all (foc_l foc_all))))))
  refine z_goI (ws1 := (WFac z a1 (a2 0) (a3 0) a4 (a6 0) (a7 0) m1 ++ (WDay z a2 m2 ++ (WDay z a3 m3 ++ (WMin a4 (a5 0) m4 ++ (WDay z a5 y4 ++ (WArr z a6 m6 ++ (WLet z a7 m7)))))))) (va_runV (As := [.ref (a1 1), .int (m1 0 7)]) (rest := []) ⟨hx, hb, hml, hown, hts⟩ (tX5_firstOtherLevel l D z tt a4 a5 (a1 1) m4 y1 (m1 1) (m1 0 7) fu r3 y4 q5 _) (cwV 2 hts (gV4 aw690 aw691 aw692 aw49 aw693) rfl rfl rfl (by decide +kernel) ⟨Nat.le_of_ble_eq_true rfl, Nat.le_of_ble_eq_true rfl⟩) (z_preV hK hP hD hS hA hT hN hfo (va_recv hK hP (ci := 5) (q0 := 33) rfl rfl)) rfl rfl hl.1 rfl (lv_room (Nat.le_of_ble_eq_true rfl)) dX6_judge_23 ⟨Nat.zero_le _, Nat.zero_le _⟩) hP hD hS hA hfo (fun H locs hP hD hS => ?_)
  refine lv_istore_n (lv' := [(1, .int r3), (0, .ref (a1 0))]) hx hb dX6_judge_26 rfl hl (by decide) rfl (fun ls hl => ?_)
  refine lv_aload_n hx hb dX6_judge_27 rfl (lv_at hl 1 rfl) ?_
  refine lv_iconst (v := 0) hx hb dX6_judge_28 (by decide) ?_
  refine z_put (ci := 6) (v := .int 0) (ty := .int) (C := RX6) (T := TX6) (N := 9) hx hb hts iX6 tyX6 tyX6_ok nmX6 hown hK hP hD hS 0 rfl rfl 7 (by decide) (hts _ aw247) (fun _ h9 => h9) rfl (by decide +kernel) rfl rfl (Nat.le_of_ble_eq_true rfl) dX6_judge_29 (fun (w9 : Mem) => (WFac z a1 (a2 0) (a3 0) a4 (a6 0) (a7 0) w9 ++ (WDay z a2 m2 ++ (WDay z a3 m3 ++ (WMin a4 (a5 0) m4 ++ (WDay z a5 y4 ++ (WArr z a6 m6 ++ (WLet z a7 m7)))))))) (up2 m1 0 7 0) rfl (fun y6 ey6 H locs hP hD hS => ?_)
  have hf := lt_use ey6 hf
  refine lv_iload_n hx hb dX6_judge_32 rfl (lv_at hl 0 rfl) ?_
  obtain ⟨rfl, rfl, rfl⟩ := so3 hf
  exact ret_i hx hb hr hlocks hK hP hD hS dX6_judge_33
def pX6_fits (fu : Nat) (m1 : Mem) (m2 : Mem) (p1 : Int32) : Option (Int32 × Mem) :=
  if 0 ≤ p1 then
    if p1 ≤ 11 then
      bd (pX2_kindsThatFill fu m2 p1) fun r3 =>
      some (r3, m1)
    else
      bd2 (pX6_refuse fu m1 (-6)) fun r5 y6 =>
      some (r5, y6)
  else
    bd2 (pX6_refuse fu m1 (-4)) fun r8 y9 =>
    some (r8, y9)
set_option maxHeartbeats 4000000 in
set_option maxRecDepth 100000 in
theorem tX6_fits (l : Launch) (D : va_G) (z tt : Nat → Nat) (a1 : Nat → Nat) (a2 : Nat → Nat) (a3 : Nat → Nat) (a4 : Nat) (a5 : Nat → Nat) (a6 : Nat → Nat) (a7 : Nat → Nat) (m1 : Mem) (m2 : Mem) (m3 : Mem) (m4 : Mem) (m5 : Mem) (m6 : Mem) (m7 : Mem) (p1 : Int32) (fu : Nat) (rr : Int32) (m1' : Mem) (hf : pX6_fits fu m1 m2 p1 = some (rr, m1')) : MetI l yX6_fits wsX6_fits ({ frames := 3, cells := 0, slots := 0, locals := 69 } : Room) D z tt ([.ref (a1 0), .int p1] : List Value) (WFac z a1 (a2 0) (a3 0) a4 (a6 0) (a7 0) m1 ++ (WDay z a2 m2 ++ (WDay z a3 m3 ++ (WMin a4 (a5 0) m4 ++ (WDay z a5 m5 ++ (WArr z a6 m6 ++ (WLet z a7 m7))))))) rr (WFac z a1 (a2 0) (a3 0) a4 (a6 0) (a7 0) m1' ++ (WDay z a2 m2 ++ (WDay z a3 m3 ++ (WMin a4 (a5 0) m4 ++ (WDay z a5 m5 ++ (WArr z a6 m6 ++ (WLet z a7 m7))))))) := by
  intro sz
  refine Met.ofW (cc := cX6_fits) (maxL := 2) (ret := (some .int)) (by decide) rfl ?_
  intro p e s m args below meth c s₁ B hml hv
  obtain ⟨rfl, hsz, hP, hK, hD0, hT, hN⟩ := hv
  have hx := B.exec
  have hb := B.bytes
  have hr := B.returns
  have hts : ∀ w ∈ wsA, w.before ([.ref (a1 0), .int p1] : List Value).toArray s = true := fun w h => atoms_spec (ws := wsX6_fits) B.pre w (List.mem_cons_of_mem _ h)
  have hown : s.vm.findClass RX6 = some m.cls := findClass_of_methodNamed B.named
  have hlocks := B.notSynchronized
  subst hsz
  have hD := hD0.self (sz := s.heap.size)
  generalize hAe : va_A (WFac z a1 (a2 0) (a3 0) a4 (a6 0) (a7 0) m1 ++ (WDay z a2 m2 ++ (WDay z a3 m3 ++ (WMin a4 (a5 0) m4 ++ (WDay z a5 m5 ++ (WArr z a6 m6 ++ (WLet z a7 m7))))))) s.heap.size = A at hD hT ⊢
  have hA : ∀ q : Nat, s.heap.size ≤ q → A q := fun q h => by rw [← hAe]; exact Or.inr h
  have hS : va_S A s.heap s.heap [] := va_S.rf
  have hl := lv_entry ([.ref (a1 0), .int p1] : List Value) (n := 2) (Nat.le_of_ble_eq_true rfl)
  rw [lg_entry_eq]
  generalize (lg_sl ([.ref (a1 0), .int p1] : List Value) ++ List.replicate (2 - (lg_sl ([.ref (a1 0), .int p1] : List Value)).length) Slot.unset).toArray = ls at hl ⊢
  have hl : lv_has ls 2 [(0, .ref (a1 0)), (1, .int p1)] := hl
  unfold pX6_fits at hf
  refine lv_iload_n hx hb dX6_fits_0 rfl (lv_at hl 1 rfl) ?_
  refine lv_if_ge (tgt := 11) hx hb dX6_fits_1 (by decide) (fun c1 => ?_) (fun c1 => ?_)
  · have hf := if_t c1 hf
    refine lv_iload_n hx hb dX6_fits_11 rfl (lv_at hl 1 rfl) ?_
    refine lv_bipush (v := 11) hx hb dX6_fits_12 (by decide) ?_
    refine lv_icmp_le (tgt := 24) hx hb dX6_fits_14 (by decide) (fun c2 => ?_) (fun c2 => ?_)
    · have hf := if_t c2 hf
      refine lv_aload_n hx hb dX6_fits_24 rfl (lv_at hl 0 rfl) ?_
      refine va_get (D := D) (ci := 6) (v := .ref (a2 0)) (C := RX6) (T := TX6) (N := 9) hx hb hts iX6 hown hK hP 0 rfl rfl 0 (by decide) (hts _ aw240) (fun _ h9 => h9) rfl dX6_fits_25 ?_
      refine lv_iload_n hx hb dX6_fits_28 rfl (lv_at hl 1 rfl) ?_
      obtain ⟨r3, q4, hf⟩ := bd_use hf
      have hfo : Foc (WFac z a1 (a2 0) (a3 0) a4 (a6 0) (a7 0) m1 ++ (WDay z a2 m2 ++ (WDay z a3 m3 ++ (WMin a4 (a5 0) m4 ++ (WDay z a5 m5 ++ (WArr z a6 m6 ++ (WLet z a7 m7))))))) (WDay z a2 m2) (WFac z a1 (a2 0) (a3 0) a4 (a6 0) (a7 0) m1 ++ (WDay z a2 m2 ++ (WDay z a3 m3 ++ (WMin a4 (a5 0) m4 ++ (WDay z a5 m5 ++ (WArr z a6 m6 ++ (WLet z a7 m7))))))) (WDay z a2 m2) := (foc_r (foc_l foc_all))
      refine z_goI (ws1 := (WFac z a1 (a2 0) (a3 0) a4 (a6 0) (a7 0) m1 ++ (WDay z a2 m2 ++ (WDay z a3 m3 ++ (WMin a4 (a5 0) m4 ++ (WDay z a5 m5 ++ (WArr z a6 m6 ++ (WLet z a7 m7)))))))) (va_runV (As := [.int p1]) (rest := []) ⟨hx, hb, hml, hown, hts⟩ (tX2_kindsThatFill l D z tt a2 m2 p1 fu r3 q4 _) (cwV 1 hts (gV4 aw698 aw699 aw700 aw46 aw701) rfl rfl rfl (by decide +kernel) ⟨Nat.le_of_ble_eq_true rfl, Nat.le_of_ble_eq_true rfl⟩) (z_preV hK hP hD hS hA hT hN hfo (va_recv hK hP (ci := 2) (q0 := 3) rfl rfl)) rfl rfl hl.1 rfl (lv_room (Nat.le_of_ble_eq_true rfl)) dX6_fits_29 ⟨Nat.zero_le _, Nat.zero_le _⟩) hP hD hS hA hfo (fun H locs hP hD hS => ?_)
      obtain ⟨rfl, rfl⟩ := so2 hf
      exact ret_i hx hb hr hlocks hK hP hD hS dX6_fits_32
    · have hf := if_f c2 hf
      refine lv_aload_n hx hb dX6_fits_17 rfl (lv_at hl 0 rfl) ?_
      refine lv_bipush (v := (-6)) hx hb dX6_fits_18 (by decide) ?_
      obtain ⟨r5, y6, q7, hf⟩ := bd2_use hf
      have hfo : Foc (WFac z a1 (a2 0) (a3 0) a4 (a6 0) (a7 0) m1 ++ (WDay z a2 m2 ++ (WDay z a3 m3 ++ (WMin a4 (a5 0) m4 ++ (WDay z a5 m5 ++ (WArr z a6 m6 ++ (WLet z a7 m7))))))) (WFac z a1 (a2 0) (a3 0) a4 (a6 0) (a7 0) m1) (WFac z a1 (a2 0) (a3 0) a4 (a6 0) (a7 0) y6 ++ (WDay z a2 m2 ++ (WDay z a3 m3 ++ (WMin a4 (a5 0) m4 ++ (WDay z a5 m5 ++ (WArr z a6 m6 ++ (WLet z a7 m7))))))) (WFac z a1 (a2 0) (a3 0) a4 (a6 0) (a7 0) y6) := (foc_l foc_all)
      refine z_goI (ws1 := (WFac z a1 (a2 0) (a3 0) a4 (a6 0) (a7 0) y6 ++ (WDay z a2 m2 ++ (WDay z a3 m3 ++ (WMin a4 (a5 0) m4 ++ (WDay z a5 m5 ++ (WArr z a6 m6 ++ (WLet z a7 m7)))))))) (va_runV (As := [.int (-6)]) (rest := []) ⟨hx, hb, hml, hown, hts⟩ (tX6_refuse l D z tt (a2 0) (a3 0) a4 (a6 0) (a7 0) a1 m1 (-6) fu r5 y6 q7 _) (cwV 1 hts (gV4 aw272 aw274 aw0 aw45 aw275) rfl rfl rfl (by decide +kernel) ⟨Nat.le_of_ble_eq_true rfl, Nat.le_of_ble_eq_true rfl⟩) (z_preV hK hP hD hS hA hT hN hfo (va_recv hK hP (ci := 6) (q0 := 0) rfl rfl)) rfl rfl hl.1 rfl (lv_room (Nat.le_of_ble_eq_true rfl)) dX6_fits_20 ⟨Nat.zero_le _, Nat.zero_le _⟩) hP hD hS hA hfo (fun H locs hP hD hS => ?_)
      obtain ⟨rfl, rfl⟩ := so2 hf
      exact ret_i hx hb hr hlocks hK hP hD hS dX6_fits_23
  · have hf := if_f c1 hf
    refine lv_aload_n hx hb dX6_fits_4 rfl (lv_at hl 0 rfl) ?_
    refine lv_bipush (v := (-4)) hx hb dX6_fits_5 (by decide) ?_
    obtain ⟨r8, y9, q10, hf⟩ := bd2_use hf
    have hfo : Foc (WFac z a1 (a2 0) (a3 0) a4 (a6 0) (a7 0) m1 ++ (WDay z a2 m2 ++ (WDay z a3 m3 ++ (WMin a4 (a5 0) m4 ++ (WDay z a5 m5 ++ (WArr z a6 m6 ++ (WLet z a7 m7))))))) (WFac z a1 (a2 0) (a3 0) a4 (a6 0) (a7 0) m1) (WFac z a1 (a2 0) (a3 0) a4 (a6 0) (a7 0) y9 ++ (WDay z a2 m2 ++ (WDay z a3 m3 ++ (WMin a4 (a5 0) m4 ++ (WDay z a5 m5 ++ (WArr z a6 m6 ++ (WLet z a7 m7))))))) (WFac z a1 (a2 0) (a3 0) a4 (a6 0) (a7 0) y9) := (foc_l foc_all)
    refine z_goI (ws1 := (WFac z a1 (a2 0) (a3 0) a4 (a6 0) (a7 0) y9 ++ (WDay z a2 m2 ++ (WDay z a3 m3 ++ (WMin a4 (a5 0) m4 ++ (WDay z a5 m5 ++ (WArr z a6 m6 ++ (WLet z a7 m7)))))))) (va_runV (As := [.int (-4)]) (rest := []) ⟨hx, hb, hml, hown, hts⟩ (tX6_refuse l D z tt (a2 0) (a3 0) a4 (a6 0) (a7 0) a1 m1 (-4) fu r8 y9 q10 _) (cwV 1 hts (gV4 aw272 aw274 aw0 aw45 aw275) rfl rfl rfl (by decide +kernel) ⟨Nat.le_of_ble_eq_true rfl, Nat.le_of_ble_eq_true rfl⟩) (z_preV hK hP hD hS hA hT hN hfo (va_recv hK hP (ci := 6) (q0 := 0) rfl rfl)) rfl rfl hl.1 rfl (lv_room (Nat.le_of_ble_eq_true rfl)) dX6_fits_7 ⟨Nat.zero_le _, Nat.zero_le _⟩) hP hD hS hA hfo (fun H locs hP hD hS => ?_)
    obtain ⟨rfl, rfl⟩ := so2 hf
    exact ret_i hx hb hr hlocks hK hP hD hS dX6_fits_10
def pX6_seeds (fu : Nat) (m1 : Mem) (m2 : Mem) (m4 : Mem) (m5 : Mem) (p1 : Int32) (p2 : Int32) (p3 : Int32) : Option (Int32 × Mem × Mem × Mem) :=
  if 1 ≤ p1 then
    if p1 ≤ 20 then
      jn1 (fun (u0 : Unit) =>
        bd (pX5_take fu m5 m2) fun y4 =>
        jn1 (fun (x6 : Int32) =>
          bd3 (pX5_drawnDays fu m4 y4 p1 p2 x6) fun r8 y9 y10 =>
          some (r8, m1, y9, y10)) fun k7 =>
        if p3 = 0 then
          k7 1
        else
          k7 0) fun k3 =>
      if p3 = 0 then
        k3 ()
      else
        if p3 = 1 then
          k3 ()
        else
          bd2 (pX6_refuse fu m1 (-2)) fun r15 y16 =>
          some (r15, y16, m4, m5)
    else
      bd2 (pX6_refuse fu m1 (-6)) fun r18 y19 =>
      some (r18, y19, m4, m5)
  else
    bd2 (pX6_refuse fu m1 (-4)) fun r21 y22 =>
    some (r21, y22, m4, m5)
set_option maxHeartbeats 4000000 in
set_option maxRecDepth 100000 in
theorem tX6_seeds (l : Launch) (D : va_G) (z tt : Nat → Nat) (a1 : Nat → Nat) (a2 : Nat → Nat) (a3 : Nat → Nat) (a4 : Nat) (a5 : Nat → Nat) (a6 : Nat → Nat) (a7 : Nat → Nat) (m1 : Mem) (m2 : Mem) (m3 : Mem) (m4 : Mem) (m5 : Mem) (m6 : Mem) (m7 : Mem) (p1 : Int32) (p2 : Int32) (p3 : Int32) (fu : Nat) (rr : Int32) (m1' : Mem) (m4' : Mem) (m5' : Mem) (hf : pX6_seeds fu m1 m2 m4 m5 p1 p2 p3 = some (rr, m1', m4', m5')) : MetI l yX6_seeds wsX6_seeds ({ frames := 6, cells := 0, slots := 0, locals := 139 } : Room) D z tt ([.ref (a1 0), .int p1, .int p2, .int p3] : List Value) (WFac z a1 (a2 0) (a3 0) a4 (a6 0) (a7 0) m1 ++ (WDay z a2 m2 ++ (WDay z a3 m3 ++ (WMin a4 (a5 0) m4 ++ (WDay z a5 m5 ++ (WArr z a6 m6 ++ (WLet z a7 m7))))))) rr (WFac z a1 (a2 0) (a3 0) a4 (a6 0) (a7 0) m1' ++ (WDay z a2 m2 ++ (WDay z a3 m3 ++ (WMin a4 (a5 0) m4' ++ (WDay z a5 m5' ++ (WArr z a6 m6 ++ (WLet z a7 m7))))))) := by
  intro sz
  refine Met.ofW (cc := cX6_seeds) (maxL := 4) (ret := (some .int)) (by decide) rfl ?_
  intro p e s m args below meth c s₁ B hml hv
  obtain ⟨rfl, hsz, hP, hK, hD0, hT, hN⟩ := hv
  have hx := B.exec
  have hb := B.bytes
  have hr := B.returns
  have hts : ∀ w ∈ wsA, w.before ([.ref (a1 0), .int p1, .int p2, .int p3] : List Value).toArray s = true := fun w h => atoms_spec (ws := wsX6_seeds) B.pre w (List.mem_cons_of_mem _ h)
  have hown : s.vm.findClass RX6 = some m.cls := findClass_of_methodNamed B.named
  have hlocks := B.notSynchronized
  subst hsz
  have hD := hD0.self (sz := s.heap.size)
  generalize hAe : va_A (WFac z a1 (a2 0) (a3 0) a4 (a6 0) (a7 0) m1 ++ (WDay z a2 m2 ++ (WDay z a3 m3 ++ (WMin a4 (a5 0) m4 ++ (WDay z a5 m5 ++ (WArr z a6 m6 ++ (WLet z a7 m7))))))) s.heap.size = A at hD hT ⊢
  have hA : ∀ q : Nat, s.heap.size ≤ q → A q := fun q h => by rw [← hAe]; exact Or.inr h
  have hS : va_S A s.heap s.heap [] := va_S.rf
  have hl := lv_entry ([.ref (a1 0), .int p1, .int p2, .int p3] : List Value) (n := 4) (Nat.le_of_ble_eq_true rfl)
  rw [lg_entry_eq]
  generalize (lg_sl ([.ref (a1 0), .int p1, .int p2, .int p3] : List Value) ++ List.replicate (4 - (lg_sl ([.ref (a1 0), .int p1, .int p2, .int p3] : List Value)).length) Slot.unset).toArray = ls at hl ⊢
  have hl : lv_has ls 4 [(0, .ref (a1 0)), (1, .int p1), (2, .int p2), (3, .int p3)] := hl
  unfold pX6_seeds at hf
  refine lv_iload_n hx hb dX6_seeds_0 rfl (lv_at hl 1 rfl) ?_
  refine lv_iconst (v := 1) hx hb dX6_seeds_1 (by decide) ?_
  refine lv_icmp_ge (tgt := 12) hx hb dX6_seeds_2 (by decide) (fun c1 => ?_) (fun c1 => ?_)
  · have hf := if_t c1 hf
    refine lv_iload_n hx hb dX6_seeds_12 rfl (lv_at hl 1 rfl) ?_
    refine lv_bipush (v := 20) hx hb dX6_seeds_13 (by decide) ?_
    refine lv_icmp_le (tgt := 25) hx hb dX6_seeds_15 (by decide) (fun c2 => ?_) (fun c2 => ?_)
    · have hf := if_t c2 hf
      refine lv_iload_n hx hb dX6_seeds_25 rfl (lv_at hl 3 rfl) ?_
      obtain ⟨k3, ek3, hf⟩ := jn1_use hf
      have B41_k3 : ∀ (u0 : Unit) (H : Heap) (locs : List Loc), va_P D vwCl (WFac z a1 (a2 0) (a3 0) a4 (a6 0) (a7 0) m1 ++ (WDay z a2 m2 ++ (WDay z a3 m3 ++ (WMin a4 (a5 0) m4 ++ (WDay z a5 m5 ++ (WArr z a6 m6 ++ (WLet z a7 m7))))))) H → va_D A (WFac z a1 (a2 0) (a3 0) a4 (a6 0) (a7 0) m1 ++ (WDay z a2 m2 ++ (WDay z a3 m3 ++ (WMin a4 (a5 0) m4 ++ (WDay z a5 m5 ++ (WArr z a6 m6 ++ (WLet z a7 m7))))))) → va_S A s.heap H locs → ∀ (ls : Array Slot), lv_has ls 4 [(0, .ref (a1 0)), (1, .int p1), (2, .int p2), (3, .int p3)] → k3 u0 = some (rr, m1', m4', m5') → GI p l e (headSpec wsX6_seeds ({ frames := 6, cells := 0, slots := 0, locals := 139 } : Room)).room s m ([.ref (a1 0), .int p1, .int p2, .int p3] : List Value).toArray below meth c A D z rr (WFac z a1 (a2 0) (a3 0) a4 (a6 0) (a7 0) m1' ++ (WDay z a2 m2 ++ (WDay z a3 m3 ++ (WMin a4 (a5 0) m4' ++ (WDay z a5 m5' ++ (WArr z a6 m6 ++ (WLet z a7 m7))))))) H locs (F0 m 41 ls []) := by
        intro u0 H locs hP hD hS ls hl hf
        have hf := jn1_ap ek3 hf
        refine lv_aload_n hx hb dX6_seeds_41 rfl (lv_at hl 0 rfl) ?_
        refine va_get (D := D) (ci := 6) (v := .ref a4) (C := RX6) (T := TX6) (N := 9) hx hb hts iX6 hown hK hP 0 rfl rfl 2 (by decide) (hts _ aw242) (fun _ h9 => h9) rfl dX6_seeds_42 ?_
        refine lv_aload_n hx hb dX6_seeds_45 rfl (lv_at hl 0 rfl) ?_
        refine va_get (D := D) (ci := 6) (v := .ref (a2 0)) (C := RX6) (T := TX6) (N := 9) hx hb hts iX6 hown hK hP 0 rfl rfl 0 (by decide) (hts _ aw240) (fun _ h9 => h9) rfl dX6_seeds_46 ?_
        obtain ⟨y4, q5, hf⟩ := bd_use hf
        have hfo : Foc (WFac z a1 (a2 0) (a3 0) a4 (a6 0) (a7 0) m1 ++ (WDay z a2 m2 ++ (WDay z a3 m3 ++ (WMin a4 (a5 0) m4 ++ (WDay z a5 m5 ++ (WArr z a6 m6 ++ (WLet z a7 m7))))))) (WMin a4 (a5 0) m4 ++ (WDay z a5 m5 ++ (WDay z a2 m2))) (WFac z a1 (a2 0) (a3 0) a4 (a6 0) (a7 0) m1 ++ (WDay z a2 m2 ++ (WDay z a3 m3 ++ (WMin a4 (a5 0) m4 ++ (WDay z a5 y4 ++ (WArr z a6 m6 ++ (WLet z a7 m7))))))) (WMin a4 (a5 0) m4 ++ (WDay z a5 y4 ++ (WDay z a2 m2))) := (foc_rot (foc_r (foc_app foc_all (foc_r (foc_app foc_all (foc_l foc_all))))))
        refine z_goV (ws1 := (WFac z a1 (a2 0) (a3 0) a4 (a6 0) (a7 0) m1 ++ (WDay z a2 m2 ++ (WDay z a3 m3 ++ (WMin a4 (a5 0) m4 ++ (WDay z a5 y4 ++ (WArr z a6 m6 ++ (WLet z a7 m7)))))))) (va_runV (As := [.ref (a2 0)]) (rest := []) ⟨hx, hb, hml, hown, hts⟩ (tX5_take l D z tt a4 a5 a2 m4 m5 m2  fu y4 q5 _) (cwV 1 hts (gV4 aw284 aw285 aw286 aw49 aw287) rfl rfl rfl (by decide +kernel) ⟨Nat.le_of_ble_eq_true rfl, Nat.le_of_ble_eq_true rfl⟩) (z_preV hK hP hD hS hA hT hN hfo (va_recv hK hP (ci := 5) (q0 := 33) rfl rfl)) rfl rfl hl.1 rfl (lv_room (Nat.le_of_ble_eq_true rfl)) dX6_seeds_49 ⟨Nat.zero_le _, Nat.zero_le _⟩) hP hD hS hA hfo (fun H locs hP hD hS => ?_)
        refine lv_aload_n hx hb dX6_seeds_52 rfl (lv_at hl 0 rfl) ?_
        refine va_get (D := D) (ci := 6) (v := .ref a4) (C := RX6) (T := TX6) (N := 9) hx hb hts iX6 hown hK hP 0 rfl rfl 2 (by decide) (hts _ aw242) (fun _ h9 => h9) rfl dX6_seeds_53 ?_
        refine lv_iload_n hx hb dX6_seeds_56 rfl (lv_at hl 1 rfl) ?_
        refine lv_iload_n hx hb dX6_seeds_57 rfl (lv_at hl 2 rfl) ?_
        refine lv_iload_n hx hb dX6_seeds_58 rfl (lv_at hl 3 rfl) ?_
        obtain ⟨k7, ek7, hf⟩ := jn1_use hf
        have B67_k7 : ∀ (x6 : Int32) (H : Heap) (locs : List Loc), va_P D vwCl (WFac z a1 (a2 0) (a3 0) a4 (a6 0) (a7 0) m1 ++ (WDay z a2 m2 ++ (WDay z a3 m3 ++ (WMin a4 (a5 0) m4 ++ (WDay z a5 y4 ++ (WArr z a6 m6 ++ (WLet z a7 m7))))))) H → va_D A (WFac z a1 (a2 0) (a3 0) a4 (a6 0) (a7 0) m1 ++ (WDay z a2 m2 ++ (WDay z a3 m3 ++ (WMin a4 (a5 0) m4 ++ (WDay z a5 y4 ++ (WArr z a6 m6 ++ (WLet z a7 m7))))))) → va_S A s.heap H locs → ∀ (ls : Array Slot), lv_has ls 4 [] → k7 x6 = some (rr, m1', m4', m5') → GI p l e (headSpec wsX6_seeds ({ frames := 6, cells := 0, slots := 0, locals := 139 } : Room)).room s m ([.ref (a1 0), .int p1, .int p2, .int p3] : List Value).toArray below meth c A D z rr (WFac z a1 (a2 0) (a3 0) a4 (a6 0) (a7 0) m1' ++ (WDay z a2 m2 ++ (WDay z a3 m3 ++ (WMin a4 (a5 0) m4' ++ (WDay z a5 m5' ++ (WArr z a6 m6 ++ (WLet z a7 m7))))))) H locs (F0 m 67 ls [.int x6, .int p2, .int p1, .ref a4]) := by
          intro x6 H locs hP hD hS ls hl hf
          have hf := jn1_ap ek7 hf
          obtain ⟨r8, y9, y10, q11, hf⟩ := bd3_use hf
          have hfo : Foc (WFac z a1 (a2 0) (a3 0) a4 (a6 0) (a7 0) m1 ++ (WDay z a2 m2 ++ (WDay z a3 m3 ++ (WMin a4 (a5 0) m4 ++ (WDay z a5 y4 ++ (WArr z a6 m6 ++ (WLet z a7 m7))))))) (WMin a4 (a5 0) m4 ++ (WDay z a5 y4)) (WFac z a1 (a2 0) (a3 0) a4 (a6 0) (a7 0) m1 ++ (WDay z a2 m2 ++ (WDay z a3 m3 ++ (WMin a4 (a5 0) y9 ++ (WDay z a5 y10 ++ (WArr z a6 m6 ++ (WLet z a7 m7))))))) (WMin a4 (a5 0) y9 ++ (WDay z a5 y10)) := (foc_r (foc_r (foc_r (foc_app foc_all (foc_l foc_all)))))
          refine z_goI (ws1 := (WFac z a1 (a2 0) (a3 0) a4 (a6 0) (a7 0) m1 ++ (WDay z a2 m2 ++ (WDay z a3 m3 ++ (WMin a4 (a5 0) y9 ++ (WDay z a5 y10 ++ (WArr z a6 m6 ++ (WLet z a7 m7)))))))) (va_runV (As := [.int p1, .int p2, .int x6]) (rest := []) ⟨hx, hb, hml, hown, hts⟩ (tX5_drawnDays l D z tt a4 a5 m4 y4 p1 p2 x6 fu r8 y9 y10 q11 _) (cwV 3 hts (gV4 aw706 aw707 aw708 aw49 aw709) rfl rfl rfl (by decide +kernel) ⟨Nat.le_of_ble_eq_true rfl, Nat.le_of_ble_eq_true rfl⟩) (z_preV hK hP hD hS hA hT hN hfo (va_recv hK hP (ci := 5) (q0 := 33) rfl rfl)) rfl rfl hl.1 rfl (lv_room (Nat.le_of_ble_eq_true rfl)) dX6_seeds_67 ⟨Nat.zero_le _, Nat.zero_le _⟩) hP hD hS hA hfo (fun H locs hP hD hS => ?_)
          obtain ⟨rfl, rfl, rfl, rfl⟩ := so4 hf
          exact ret_i hx hb hr hlocks hK hP hD hS dX6_seeds_70
        refine lv_if_ne (tgt := 66) hx hb dX6_seeds_59 (by decide) (fun c12 => ?_) (fun c12 => ?_)
        · have hf := if_f c12 hf
          refine lv_iconst (v := 0) hx hb dX6_seeds_66 (by decide) ?_
          exact B67_k7 _ _ _ hP hD hS _ (lv_sub hl [] rfl) hf
        · have hf := if_t c12 hf
          refine lv_iconst (v := 1) hx hb dX6_seeds_62 (by decide) ?_
          refine lv_goto (tgt := 67) hx hb dX6_seeds_63 (by decide) ?_
          exact B67_k7 _ _ _ hP hD hS _ (lv_sub hl [] rfl) hf
      refine lv_if_eq (tgt := 41) hx hb dX6_seeds_26 (by decide) (fun c13 => ?_) (fun c13 => ?_)
      · have hf := if_t c13 hf
        exact B41_k3 _ _ _ hP hD hS _ (lv_sub hl [0, 1, 2, 3] rfl) hf
      · have hf := if_f c13 hf
        refine lv_iload_n hx hb dX6_seeds_29 rfl (lv_at hl 3 rfl) ?_
        refine lv_iconst (v := 1) hx hb dX6_seeds_30 (by decide) ?_
        refine lv_icmp_eq (tgt := 41) hx hb dX6_seeds_31 (by decide) (fun c14 => ?_) (fun c14 => ?_)
        · have hf := if_t c14 hf
          exact B41_k3 _ _ _ hP hD hS _ (lv_sub hl [0, 1, 2, 3] rfl) hf
        · have hf := if_f c14 hf
          refine lv_aload_n hx hb dX6_seeds_34 rfl (lv_at hl 0 rfl) ?_
          refine lv_bipush (v := (-2)) hx hb dX6_seeds_35 (by decide) ?_
          obtain ⟨r15, y16, q17, hf⟩ := bd2_use hf
          have hfo : Foc (WFac z a1 (a2 0) (a3 0) a4 (a6 0) (a7 0) m1 ++ (WDay z a2 m2 ++ (WDay z a3 m3 ++ (WMin a4 (a5 0) m4 ++ (WDay z a5 m5 ++ (WArr z a6 m6 ++ (WLet z a7 m7))))))) (WFac z a1 (a2 0) (a3 0) a4 (a6 0) (a7 0) m1) (WFac z a1 (a2 0) (a3 0) a4 (a6 0) (a7 0) y16 ++ (WDay z a2 m2 ++ (WDay z a3 m3 ++ (WMin a4 (a5 0) m4 ++ (WDay z a5 m5 ++ (WArr z a6 m6 ++ (WLet z a7 m7))))))) (WFac z a1 (a2 0) (a3 0) a4 (a6 0) (a7 0) y16) := (foc_l foc_all)
          refine z_goI (ws1 := (WFac z a1 (a2 0) (a3 0) a4 (a6 0) (a7 0) y16 ++ (WDay z a2 m2 ++ (WDay z a3 m3 ++ (WMin a4 (a5 0) m4 ++ (WDay z a5 m5 ++ (WArr z a6 m6 ++ (WLet z a7 m7)))))))) (va_runV (As := [.int (-2)]) (rest := []) ⟨hx, hb, hml, hown, hts⟩ (tX6_refuse l D z tt (a2 0) (a3 0) a4 (a6 0) (a7 0) a1 m1 (-2) fu r15 y16 q17 _) (cwV 1 hts (gV4 aw272 aw274 aw0 aw45 aw275) rfl rfl rfl (by decide +kernel) ⟨Nat.le_of_ble_eq_true rfl, Nat.le_of_ble_eq_true rfl⟩) (z_preV hK hP hD hS hA hT hN hfo (va_recv hK hP (ci := 6) (q0 := 0) rfl rfl)) rfl rfl hl.1 rfl (lv_room (Nat.le_of_ble_eq_true rfl)) dX6_seeds_37 ⟨Nat.zero_le _, Nat.zero_le _⟩) hP hD hS hA hfo (fun H locs hP hD hS => ?_)
          obtain ⟨rfl, rfl, rfl, rfl⟩ := so4 hf
          exact ret_i hx hb hr hlocks hK hP hD hS dX6_seeds_40
    · have hf := if_f c2 hf
      refine lv_aload_n hx hb dX6_seeds_18 rfl (lv_at hl 0 rfl) ?_
      refine lv_bipush (v := (-6)) hx hb dX6_seeds_19 (by decide) ?_
      obtain ⟨r18, y19, q20, hf⟩ := bd2_use hf
      have hfo : Foc (WFac z a1 (a2 0) (a3 0) a4 (a6 0) (a7 0) m1 ++ (WDay z a2 m2 ++ (WDay z a3 m3 ++ (WMin a4 (a5 0) m4 ++ (WDay z a5 m5 ++ (WArr z a6 m6 ++ (WLet z a7 m7))))))) (WFac z a1 (a2 0) (a3 0) a4 (a6 0) (a7 0) m1) (WFac z a1 (a2 0) (a3 0) a4 (a6 0) (a7 0) y19 ++ (WDay z a2 m2 ++ (WDay z a3 m3 ++ (WMin a4 (a5 0) m4 ++ (WDay z a5 m5 ++ (WArr z a6 m6 ++ (WLet z a7 m7))))))) (WFac z a1 (a2 0) (a3 0) a4 (a6 0) (a7 0) y19) := (foc_l foc_all)
      refine z_goI (ws1 := (WFac z a1 (a2 0) (a3 0) a4 (a6 0) (a7 0) y19 ++ (WDay z a2 m2 ++ (WDay z a3 m3 ++ (WMin a4 (a5 0) m4 ++ (WDay z a5 m5 ++ (WArr z a6 m6 ++ (WLet z a7 m7)))))))) (va_runV (As := [.int (-6)]) (rest := []) ⟨hx, hb, hml, hown, hts⟩ (tX6_refuse l D z tt (a2 0) (a3 0) a4 (a6 0) (a7 0) a1 m1 (-6) fu r18 y19 q20 _) (cwV 1 hts (gV4 aw272 aw274 aw0 aw45 aw275) rfl rfl rfl (by decide +kernel) ⟨Nat.le_of_ble_eq_true rfl, Nat.le_of_ble_eq_true rfl⟩) (z_preV hK hP hD hS hA hT hN hfo (va_recv hK hP (ci := 6) (q0 := 0) rfl rfl)) rfl rfl hl.1 rfl (lv_room (Nat.le_of_ble_eq_true rfl)) dX6_seeds_21 ⟨Nat.zero_le _, Nat.zero_le _⟩) hP hD hS hA hfo (fun H locs hP hD hS => ?_)
      obtain ⟨rfl, rfl, rfl, rfl⟩ := so4 hf
      exact ret_i hx hb hr hlocks hK hP hD hS dX6_seeds_24
  · have hf := if_f c1 hf
    refine lv_aload_n hx hb dX6_seeds_5 rfl (lv_at hl 0 rfl) ?_
    refine lv_bipush (v := (-4)) hx hb dX6_seeds_6 (by decide) ?_
    obtain ⟨r21, y22, q23, hf⟩ := bd2_use hf
    have hfo : Foc (WFac z a1 (a2 0) (a3 0) a4 (a6 0) (a7 0) m1 ++ (WDay z a2 m2 ++ (WDay z a3 m3 ++ (WMin a4 (a5 0) m4 ++ (WDay z a5 m5 ++ (WArr z a6 m6 ++ (WLet z a7 m7))))))) (WFac z a1 (a2 0) (a3 0) a4 (a6 0) (a7 0) m1) (WFac z a1 (a2 0) (a3 0) a4 (a6 0) (a7 0) y22 ++ (WDay z a2 m2 ++ (WDay z a3 m3 ++ (WMin a4 (a5 0) m4 ++ (WDay z a5 m5 ++ (WArr z a6 m6 ++ (WLet z a7 m7))))))) (WFac z a1 (a2 0) (a3 0) a4 (a6 0) (a7 0) y22) := (foc_l foc_all)
    refine z_goI (ws1 := (WFac z a1 (a2 0) (a3 0) a4 (a6 0) (a7 0) y22 ++ (WDay z a2 m2 ++ (WDay z a3 m3 ++ (WMin a4 (a5 0) m4 ++ (WDay z a5 m5 ++ (WArr z a6 m6 ++ (WLet z a7 m7)))))))) (va_runV (As := [.int (-4)]) (rest := []) ⟨hx, hb, hml, hown, hts⟩ (tX6_refuse l D z tt (a2 0) (a3 0) a4 (a6 0) (a7 0) a1 m1 (-4) fu r21 y22 q23 _) (cwV 1 hts (gV4 aw272 aw274 aw0 aw45 aw275) rfl rfl rfl (by decide +kernel) ⟨Nat.le_of_ble_eq_true rfl, Nat.le_of_ble_eq_true rfl⟩) (z_preV hK hP hD hS hA hT hN hfo (va_recv hK hP (ci := 6) (q0 := 0) rfl rfl)) rfl rfl hl.1 rfl (lv_room (Nat.le_of_ble_eq_true rfl)) dX6_seeds_8 ⟨Nat.zero_le _, Nat.zero_le _⟩) hP hD hS hA hfo (fun H locs hP hD hS => ?_)
    obtain ⟨rfl, rfl, rfl, rfl⟩ := so4 hf
    exact ret_i hx hb hr hlocks hK hP hD hS dX6_seeds_11
def pX6_image (fu : Nat) (m1 : Mem) (m2 : Mem) (m3 : Mem) : Option (Int32 × Mem × Mem) :=
  bd (pX2_copy fu m3 m2) fun y1 =>
  lt' (up2 m1 0 8 1) fun y3 =>
  some ((m2 0 6), y3, y1)
set_option maxHeartbeats 4000000 in
set_option maxRecDepth 100000 in
theorem tX6_image (l : Launch) (D : va_G) (z tt : Nat → Nat) (a1 : Nat → Nat) (a2 : Nat → Nat) (a3 : Nat → Nat) (a4 : Nat) (a5 : Nat → Nat) (a6 : Nat → Nat) (a7 : Nat → Nat) (m1 : Mem) (m2 : Mem) (m3 : Mem) (m4 : Mem) (m5 : Mem) (m6 : Mem) (m7 : Mem)  (fu : Nat) (rr : Int32) (m1' : Mem) (m3' : Mem) (hf : pX6_image fu m1 m2 m3 = some (rr, m1', m3')) : MetI l yX6_image wsX6_image ({ frames := 3, cells := 0, slots := 0, locals := 65 } : Room) D z tt ([.ref (a1 0)] : List Value) (WFac z a1 (a2 0) (a3 0) a4 (a6 0) (a7 0) m1 ++ (WDay z a2 m2 ++ (WDay z a3 m3 ++ (WMin a4 (a5 0) m4 ++ (WDay z a5 m5 ++ (WArr z a6 m6 ++ (WLet z a7 m7))))))) rr (WFac z a1 (a2 0) (a3 0) a4 (a6 0) (a7 0) m1' ++ (WDay z a2 m2 ++ (WDay z a3 m3' ++ (WMin a4 (a5 0) m4 ++ (WDay z a5 m5 ++ (WArr z a6 m6 ++ (WLet z a7 m7))))))) := by
  intro sz
  refine Met.ofW (cc := cX6_image) (maxL := 1) (ret := (some .int)) (by decide) rfl ?_
  intro p e s m args below meth c s₁ B hml hv
  obtain ⟨rfl, hsz, hP, hK, hD0, hT, hN⟩ := hv
  have hx := B.exec
  have hb := B.bytes
  have hr := B.returns
  have hts : ∀ w ∈ wsA, w.before ([.ref (a1 0)] : List Value).toArray s = true := fun w h => atoms_spec (ws := wsX6_image) B.pre w (List.mem_cons_of_mem _ h)
  have hown : s.vm.findClass RX6 = some m.cls := findClass_of_methodNamed B.named
  have hlocks := B.notSynchronized
  subst hsz
  have hD := hD0.self (sz := s.heap.size)
  generalize hAe : va_A (WFac z a1 (a2 0) (a3 0) a4 (a6 0) (a7 0) m1 ++ (WDay z a2 m2 ++ (WDay z a3 m3 ++ (WMin a4 (a5 0) m4 ++ (WDay z a5 m5 ++ (WArr z a6 m6 ++ (WLet z a7 m7))))))) s.heap.size = A at hD hT ⊢
  have hA : ∀ q : Nat, s.heap.size ≤ q → A q := fun q h => by rw [← hAe]; exact Or.inr h
  have hS : va_S A s.heap s.heap [] := va_S.rf
  have hl := lv_entry ([.ref (a1 0)] : List Value) (n := 1) (Nat.le_of_ble_eq_true rfl)
  rw [lg_entry_eq]
  generalize (lg_sl ([.ref (a1 0)] : List Value) ++ List.replicate (1 - (lg_sl ([.ref (a1 0)] : List Value)).length) Slot.unset).toArray = ls at hl ⊢
  have hl : lv_has ls 1 [(0, .ref (a1 0))] := hl
  unfold pX6_image at hf
  refine lv_aload_n hx hb dX6_image_0 rfl (lv_at hl 0 rfl) ?_
  refine va_get (D := D) (ci := 6) (v := .ref (a3 0)) (C := RX6) (T := TX6) (N := 9) hx hb hts iX6 hown hK hP 0 rfl rfl 1 (by decide) (hts _ aw241) (fun _ h9 => h9) rfl dX6_image_1 ?_
  refine lv_aload_n hx hb dX6_image_4 rfl (lv_at hl 0 rfl) ?_
  refine va_get (D := D) (ci := 6) (v := .ref (a2 0)) (C := RX6) (T := TX6) (N := 9) hx hb hts iX6 hown hK hP 0 rfl rfl 0 (by decide) (hts _ aw240) (fun _ h9 => h9) rfl dX6_image_5 ?_
  obtain ⟨y1, q2, hf⟩ := bd_use hf
  have hfo : Foc (WFac z a1 (a2 0) (a3 0) a4 (a6 0) (a7 0) m1 ++ (WDay z a2 m2 ++ (WDay z a3 m3 ++ (WMin a4 (a5 0) m4 ++ (WDay z a5 m5 ++ (WArr z a6 m6 ++ (WLet z a7 m7))))))) (WDay z a3 m3 ++ (WDay z a2 m2)) (WFac z a1 (a2 0) (a3 0) a4 (a6 0) (a7 0) m1 ++ (WDay z a2 m2 ++ (WDay z a3 y1 ++ (WMin a4 (a5 0) m4 ++ (WDay z a5 m5 ++ (WArr z a6 m6 ++ (WLet z a7 m7))))))) (WDay z a3 y1 ++ (WDay z a2 m2)) := (foc_swap (foc_r (foc_app foc_all (foc_l foc_all))))
  refine z_goV (ws1 := (WFac z a1 (a2 0) (a3 0) a4 (a6 0) (a7 0) m1 ++ (WDay z a2 m2 ++ (WDay z a3 y1 ++ (WMin a4 (a5 0) m4 ++ (WDay z a5 m5 ++ (WArr z a6 m6 ++ (WLet z a7 m7)))))))) (va_runV (As := [.ref (a2 0)]) (rest := []) ⟨hx, hb, hml, hown, hts⟩ (tX2_copy l D z tt a3 a2 m3 m2  fu y1 q2 _) (cwV 1 hts (gV4 aw368 aw289 aw290 aw46 aw291) rfl rfl rfl (by decide +kernel) ⟨Nat.le_of_ble_eq_true rfl, Nat.le_of_ble_eq_true rfl⟩) (z_preV hK hP hD hS hA hT hN hfo (va_recv hK hP (ci := 2) (q0 := 18) rfl rfl)) rfl rfl hl.1 rfl (lv_room (Nat.le_of_ble_eq_true rfl)) dX6_image_8 ⟨Nat.zero_le _, Nat.zero_le _⟩) hP hD hS hA hfo (fun H locs hP hD hS => ?_)
  refine lv_aload_n hx hb dX6_image_11 rfl (lv_at hl 0 rfl) ?_
  refine lv_iconst (v := 1) hx hb dX6_image_12 (by decide) ?_
  refine z_put (ci := 6) (v := .int 1) (ty := .boolean) (C := RX6) (T := TX6) (N := 9) hx hb hts iX6 tyX6 tyX6_ok nmX6 hown hK hP hD hS 0 rfl rfl 8 (by decide) (hts _ aw248) (fun _ h9 => h9) rfl (by decide +kernel) rfl rfl (Nat.le_of_ble_eq_true rfl) dX6_image_13 (fun (w9 : Mem) => (WFac z a1 (a2 0) (a3 0) a4 (a6 0) (a7 0) w9 ++ (WDay z a2 m2 ++ (WDay z a3 y1 ++ (WMin a4 (a5 0) m4 ++ (WDay z a5 m5 ++ (WArr z a6 m6 ++ (WLet z a7 m7)))))))) (up2 m1 0 8 1) rfl (fun y3 ey3 H locs hP hD hS => ?_)
  have hf := lt_use ey3 hf
  refine lv_aload_n hx hb dX6_image_16 rfl (lv_at hl 0 rfl) ?_
  refine va_get (D := D) (ci := 6) (v := .ref (a2 0)) (C := RX6) (T := TX6) (N := 9) hx hb hts iX6 hown hK hP 0 rfl rfl 0 (by decide) (hts _ aw240) (fun _ h9 => h9) rfl dX6_image_17 ?_
  refine va_get (D := D) (ci := 2) (v := .int (m2 0 6)) (C := RX2) (T := TX2) (N := 8) hx hb hts iX2 hown hK hP 3 rfl rfl 6 (by decide) (hts _ aw171) (fun _ h9 => h9) rfl dX6_image_20 ?_
  obtain ⟨rfl, rfl, rfl⟩ := so3 hf
  exact ret_i hx hb hr hlocks hK hP hD hS dX6_image_23
def pX6_restore (fu : Nat) (m1 : Mem) (m2 : Mem) (m3 : Mem) : Option (Int32 × Mem × Mem) :=
  if (m1 0 8) = 0 then
    bd2 (pX6_refuse fu m1 (-3)) fun r4 y5 =>
    some (r4, y5, m2)
  else
    bd (pX2_copy fu m2 m3) fun y2 =>
    some ((y2 0 6), m1, y2)
set_option maxHeartbeats 4000000 in
set_option maxRecDepth 100000 in
theorem tX6_restore (l : Launch) (D : va_G) (z tt : Nat → Nat) (a1 : Nat → Nat) (a2 : Nat → Nat) (a3 : Nat → Nat) (a4 : Nat) (a5 : Nat → Nat) (a6 : Nat → Nat) (a7 : Nat → Nat) (m1 : Mem) (m2 : Mem) (m3 : Mem) (m4 : Mem) (m5 : Mem) (m6 : Mem) (m7 : Mem)  (fu : Nat) (rr : Int32) (m1' : Mem) (m2' : Mem) (hf : pX6_restore fu m1 m2 m3 = some (rr, m1', m2')) : MetI l yX6_restore wsX6_restore ({ frames := 3, cells := 0, slots := 0, locals := 65 } : Room) D z tt ([.ref (a1 0)] : List Value) (WFac z a1 (a2 0) (a3 0) a4 (a6 0) (a7 0) m1 ++ (WDay z a2 m2 ++ (WDay z a3 m3 ++ (WMin a4 (a5 0) m4 ++ (WDay z a5 m5 ++ (WArr z a6 m6 ++ (WLet z a7 m7))))))) rr (WFac z a1 (a2 0) (a3 0) a4 (a6 0) (a7 0) m1' ++ (WDay z a2 m2' ++ (WDay z a3 m3 ++ (WMin a4 (a5 0) m4 ++ (WDay z a5 m5 ++ (WArr z a6 m6 ++ (WLet z a7 m7))))))) := by
  intro sz
  refine Met.ofW (cc := cX6_restore) (maxL := 1) (ret := (some .int)) (by decide) rfl ?_
  intro p e s m args below meth c s₁ B hml hv
  obtain ⟨rfl, hsz, hP, hK, hD0, hT, hN⟩ := hv
  have hx := B.exec
  have hb := B.bytes
  have hr := B.returns
  have hts : ∀ w ∈ wsA, w.before ([.ref (a1 0)] : List Value).toArray s = true := fun w h => atoms_spec (ws := wsX6_restore) B.pre w (List.mem_cons_of_mem _ h)
  have hown : s.vm.findClass RX6 = some m.cls := findClass_of_methodNamed B.named
  have hlocks := B.notSynchronized
  subst hsz
  have hD := hD0.self (sz := s.heap.size)
  generalize hAe : va_A (WFac z a1 (a2 0) (a3 0) a4 (a6 0) (a7 0) m1 ++ (WDay z a2 m2 ++ (WDay z a3 m3 ++ (WMin a4 (a5 0) m4 ++ (WDay z a5 m5 ++ (WArr z a6 m6 ++ (WLet z a7 m7))))))) s.heap.size = A at hD hT ⊢
  have hA : ∀ q : Nat, s.heap.size ≤ q → A q := fun q h => by rw [← hAe]; exact Or.inr h
  have hS : va_S A s.heap s.heap [] := va_S.rf
  have hl := lv_entry ([.ref (a1 0)] : List Value) (n := 1) (Nat.le_of_ble_eq_true rfl)
  rw [lg_entry_eq]
  generalize (lg_sl ([.ref (a1 0)] : List Value) ++ List.replicate (1 - (lg_sl ([.ref (a1 0)] : List Value)).length) Slot.unset).toArray = ls at hl ⊢
  have hl : lv_has ls 1 [(0, .ref (a1 0))] := hl
  unfold pX6_restore at hf
  refine lv_aload_n hx hb dX6_restore_0 rfl (lv_at hl 0 rfl) ?_
  refine va_get (D := D) (ci := 6) (v := .int (m1 0 8)) (C := RX6) (T := TX6) (N := 9) hx hb hts iX6 hown hK hP 0 rfl rfl 8 (by decide) (hts _ aw248) (fun _ h9 => h9) rfl dX6_restore_1 ?_
  refine lv_if_ne (tgt := 14) hx hb dX6_restore_4 (by decide) (fun c1 => ?_) (fun c1 => ?_)
  · have hf := if_f c1 hf
    refine lv_aload_n hx hb dX6_restore_14 rfl (lv_at hl 0 rfl) ?_
    refine va_get (D := D) (ci := 6) (v := .ref (a2 0)) (C := RX6) (T := TX6) (N := 9) hx hb hts iX6 hown hK hP 0 rfl rfl 0 (by decide) (hts _ aw240) (fun _ h9 => h9) rfl dX6_restore_15 ?_
    refine lv_aload_n hx hb dX6_restore_18 rfl (lv_at hl 0 rfl) ?_
    refine va_get (D := D) (ci := 6) (v := .ref (a3 0)) (C := RX6) (T := TX6) (N := 9) hx hb hts iX6 hown hK hP 0 rfl rfl 1 (by decide) (hts _ aw241) (fun _ h9 => h9) rfl dX6_restore_19 ?_
    obtain ⟨y2, q3, hf⟩ := bd_use hf
    have hfo : Foc (WFac z a1 (a2 0) (a3 0) a4 (a6 0) (a7 0) m1 ++ (WDay z a2 m2 ++ (WDay z a3 m3 ++ (WMin a4 (a5 0) m4 ++ (WDay z a5 m5 ++ (WArr z a6 m6 ++ (WLet z a7 m7))))))) (WDay z a2 m2 ++ (WDay z a3 m3)) (WFac z a1 (a2 0) (a3 0) a4 (a6 0) (a7 0) m1 ++ (WDay z a2 y2 ++ (WDay z a3 m3 ++ (WMin a4 (a5 0) m4 ++ (WDay z a5 m5 ++ (WArr z a6 m6 ++ (WLet z a7 m7))))))) (WDay z a2 y2 ++ (WDay z a3 m3)) := (foc_r (foc_app foc_all (foc_l foc_all)))
    refine z_goV (ws1 := (WFac z a1 (a2 0) (a3 0) a4 (a6 0) (a7 0) m1 ++ (WDay z a2 y2 ++ (WDay z a3 m3 ++ (WMin a4 (a5 0) m4 ++ (WDay z a5 m5 ++ (WArr z a6 m6 ++ (WLet z a7 m7)))))))) (va_runV (As := [.ref (a3 0)]) (rest := []) ⟨hx, hb, hml, hown, hts⟩ (tX2_copy l D z tt a2 a3 m2 m3  fu y2 q3 _) (cwV 1 hts (gV4 aw368 aw289 aw290 aw46 aw291) rfl rfl rfl (by decide +kernel) ⟨Nat.le_of_ble_eq_true rfl, Nat.le_of_ble_eq_true rfl⟩) (z_preV hK hP hD hS hA hT hN hfo (va_recv hK hP (ci := 2) (q0 := 3) rfl rfl)) rfl rfl hl.1 rfl (lv_room (Nat.le_of_ble_eq_true rfl)) dX6_restore_22 ⟨Nat.zero_le _, Nat.zero_le _⟩) hP hD hS hA hfo (fun H locs hP hD hS => ?_)
    refine lv_aload_n hx hb dX6_restore_25 rfl (lv_at hl 0 rfl) ?_
    refine va_get (D := D) (ci := 6) (v := .ref (a2 0)) (C := RX6) (T := TX6) (N := 9) hx hb hts iX6 hown hK hP 0 rfl rfl 0 (by decide) (hts _ aw240) (fun _ h9 => h9) rfl dX6_restore_26 ?_
    refine va_get (D := D) (ci := 2) (v := .int (y2 0 6)) (C := RX2) (T := TX2) (N := 8) hx hb hts iX2 hown hK hP 3 rfl rfl 6 (by decide) (hts _ aw171) (fun _ h9 => h9) rfl dX6_restore_29 ?_
    obtain ⟨rfl, rfl, rfl⟩ := so3 hf
    exact ret_i hx hb hr hlocks hK hP hD hS dX6_restore_32
  · have hf := if_t c1 hf
    refine lv_aload_n hx hb dX6_restore_7 rfl (lv_at hl 0 rfl) ?_
    refine lv_bipush (v := (-3)) hx hb dX6_restore_8 (by decide) ?_
    obtain ⟨r4, y5, q6, hf⟩ := bd2_use hf
    have hfo : Foc (WFac z a1 (a2 0) (a3 0) a4 (a6 0) (a7 0) m1 ++ (WDay z a2 m2 ++ (WDay z a3 m3 ++ (WMin a4 (a5 0) m4 ++ (WDay z a5 m5 ++ (WArr z a6 m6 ++ (WLet z a7 m7))))))) (WFac z a1 (a2 0) (a3 0) a4 (a6 0) (a7 0) m1) (WFac z a1 (a2 0) (a3 0) a4 (a6 0) (a7 0) y5 ++ (WDay z a2 m2 ++ (WDay z a3 m3 ++ (WMin a4 (a5 0) m4 ++ (WDay z a5 m5 ++ (WArr z a6 m6 ++ (WLet z a7 m7))))))) (WFac z a1 (a2 0) (a3 0) a4 (a6 0) (a7 0) y5) := (foc_l foc_all)
    refine z_goI (ws1 := (WFac z a1 (a2 0) (a3 0) a4 (a6 0) (a7 0) y5 ++ (WDay z a2 m2 ++ (WDay z a3 m3 ++ (WMin a4 (a5 0) m4 ++ (WDay z a5 m5 ++ (WArr z a6 m6 ++ (WLet z a7 m7)))))))) (va_runV (As := [.int (-3)]) (rest := []) ⟨hx, hb, hml, hown, hts⟩ (tX6_refuse l D z tt (a2 0) (a3 0) a4 (a6 0) (a7 0) a1 m1 (-3) fu r4 y5 q6 _) (cwV 1 hts (gV4 aw272 aw274 aw0 aw45 aw275) rfl rfl rfl (by decide +kernel) ⟨Nat.le_of_ble_eq_true rfl, Nat.le_of_ble_eq_true rfl⟩) (z_preV hK hP hD hS hA hT hN hfo (va_recv hK hP (ci := 6) (q0 := 0) rfl rfl)) rfl rfl hl.1 rfl (lv_room (Nat.le_of_ble_eq_true rfl)) dX6_restore_10 ⟨Nat.zero_le _, Nat.zero_le _⟩) hP hD hS hA hfo (fun H locs hP hD hS => ?_)
    obtain ⟨rfl, rfl, rfl⟩ := so3 hf
    exact ret_i hx hb hr hlocks hK hP hD hS dX6_restore_13
def pX6_count (fu : Nat) (m1 : Mem) (m2 : Mem) (m7 : Mem) (p1 : Int32) : Option Int32 :=
  jn1 (fun (u0 : Unit) =>
    jn1 (fun (u0 : Unit) =>
      if p1 = 0 then
        some (m2 0 4)
      else
      if p1 = 1 then
        some (m2 0 6)
      else
      if p1 = 2 then
        some (m2 0 5)
      else
      if p1 = 3 then
        bd (pX2_comersWith fu m2 2) fun r7 =>
        some r7
      else
      if p1 = 4 then
        bd (pX2_comersWith fu m2 3) fun r10 =>
        some r10
      else
      if p1 = 5 then
        bd (pX2_isOver fu m2) fun r13 =>
        if r13 = 0 then
          some 0
        else
          some 1
      else
      if p1 = 6 then
        bd (pX2_allWaited fu m2) fun r17 =>
        some r17
      else
      if p1 = 7 then
        some (m7 0 1)
      else
      if p1 = 8 then
        some (m1 0 7)
      else
      some (-9)) fun k2 =>
    if p1 < 20 then
      k2 ()
    else
      if 27 < p1 then
        k2 ()
      else
        ck (p1 - 20) 8 <|
        some (m2 1 (p1 - 20).toNatClampNeg)) fun k1 =>
  if p1 < 11 then
    k1 ()
  else
    if 16 < p1 then
      k1 ()
    else
      ck (p1 - 10) 7 <|
      some (m1 2 (p1 - 10).toNatClampNeg)
set_option maxHeartbeats 4000000 in
set_option maxRecDepth 100000 in
theorem tX6_count (l : Launch) (D : va_G) (z tt : Nat → Nat) (a1 : Nat → Nat) (a2 : Nat → Nat) (a3 : Nat → Nat) (a4 : Nat) (a5 : Nat → Nat) (a6 : Nat → Nat) (a7 : Nat → Nat) (m1 : Mem) (m2 : Mem) (m3 : Mem) (m4 : Mem) (m5 : Mem) (m6 : Mem) (m7 : Mem) (p1 : Int32) (fu : Nat) (rr : Int32) (hf : pX6_count fu m1 m2 m7 p1 = some rr) : MetI l yX6_count wsX6_count ({ frames := 3, cells := 0, slots := 0, locals := 62 } : Room) D z tt ([.ref (a1 0), .int p1] : List Value) (WFac z a1 (a2 0) (a3 0) a4 (a6 0) (a7 0) m1 ++ (WDay z a2 m2 ++ (WDay z a3 m3 ++ (WMin a4 (a5 0) m4 ++ (WDay z a5 m5 ++ (WArr z a6 m6 ++ (WLet z a7 m7))))))) rr (WFac z a1 (a2 0) (a3 0) a4 (a6 0) (a7 0) m1 ++ (WDay z a2 m2 ++ (WDay z a3 m3 ++ (WMin a4 (a5 0) m4 ++ (WDay z a5 m5 ++ (WArr z a6 m6 ++ (WLet z a7 m7))))))) := by
  intro sz
  refine Met.ofW (cc := cX6_count) (maxL := 2) (ret := (some .int)) (by decide) rfl ?_
  intro p e s m args below meth c s₁ B hml hv
  obtain ⟨rfl, hsz, hP, hK, hD0, hT, hN⟩ := hv
  have hx := B.exec
  have hb := B.bytes
  have hr := B.returns
  have hts : ∀ w ∈ wsA, w.before ([.ref (a1 0), .int p1] : List Value).toArray s = true := fun w h => atoms_spec (ws := wsX6_count) B.pre w (List.mem_cons_of_mem _ h)
  have hown : s.vm.findClass RX6 = some m.cls := findClass_of_methodNamed B.named
  have hlocks := B.notSynchronized
  subst hsz
  have hD := hD0.self (sz := s.heap.size)
  generalize hAe : va_A (WFac z a1 (a2 0) (a3 0) a4 (a6 0) (a7 0) m1 ++ (WDay z a2 m2 ++ (WDay z a3 m3 ++ (WMin a4 (a5 0) m4 ++ (WDay z a5 m5 ++ (WArr z a6 m6 ++ (WLet z a7 m7))))))) s.heap.size = A at hD hT ⊢
  have hA : ∀ q : Nat, s.heap.size ≤ q → A q := fun q h => by rw [← hAe]; exact Or.inr h
  have hS : va_S A s.heap s.heap [] := va_S.rf
  have hl := lv_entry ([.ref (a1 0), .int p1] : List Value) (n := 2) (Nat.le_of_ble_eq_true rfl)
  rw [lg_entry_eq]
  generalize (lg_sl ([.ref (a1 0), .int p1] : List Value) ++ List.replicate (2 - (lg_sl ([.ref (a1 0), .int p1] : List Value)).length) Slot.unset).toArray = ls at hl ⊢
  have hl : lv_has ls 2 [(0, .ref (a1 0)), (1, .int p1)] := hl
  unfold pX6_count at hf
  refine lv_iload_n hx hb dX6_count_0 rfl (lv_at hl 1 rfl) ?_
  refine lv_bipush (v := 11) hx hb dX6_count_1 (by decide) ?_
  obtain ⟨k1, ek1, hf⟩ := jn1_use hf
  have B22_k1 : ∀ (u0 : Unit) (H : Heap) (locs : List Loc), va_P D vwCl (WFac z a1 (a2 0) (a3 0) a4 (a6 0) (a7 0) m1 ++ (WDay z a2 m2 ++ (WDay z a3 m3 ++ (WMin a4 (a5 0) m4 ++ (WDay z a5 m5 ++ (WArr z a6 m6 ++ (WLet z a7 m7))))))) H → va_D A (WFac z a1 (a2 0) (a3 0) a4 (a6 0) (a7 0) m1 ++ (WDay z a2 m2 ++ (WDay z a3 m3 ++ (WMin a4 (a5 0) m4 ++ (WDay z a5 m5 ++ (WArr z a6 m6 ++ (WLet z a7 m7))))))) → va_S A s.heap H locs → ∀ (ls : Array Slot), lv_has ls 2 [(0, .ref (a1 0)), (1, .int p1)] → k1 u0 = some rr → GI p l e (headSpec wsX6_count ({ frames := 3, cells := 0, slots := 0, locals := 62 } : Room)).room s m ([.ref (a1 0), .int p1] : List Value).toArray below meth c A D z rr (WFac z a1 (a2 0) (a3 0) a4 (a6 0) (a7 0) m1 ++ (WDay z a2 m2 ++ (WDay z a3 m3 ++ (WMin a4 (a5 0) m4 ++ (WDay z a5 m5 ++ (WArr z a6 m6 ++ (WLet z a7 m7))))))) H locs (F0 m 22 ls []) := by
    intro u0 H locs hP hD hS ls hl hf
    have hf := jn1_ap ek1 hf
    refine lv_iload_n hx hb dX6_count_22 rfl (lv_at hl 1 rfl) ?_
    refine lv_bipush (v := 20) hx hb dX6_count_23 (by decide) ?_
    obtain ⟨k2, ek2, hf⟩ := jn1_use hf
    have B47_k2 : ∀ (u0 : Unit) (H : Heap) (locs : List Loc), va_P D vwCl (WFac z a1 (a2 0) (a3 0) a4 (a6 0) (a7 0) m1 ++ (WDay z a2 m2 ++ (WDay z a3 m3 ++ (WMin a4 (a5 0) m4 ++ (WDay z a5 m5 ++ (WArr z a6 m6 ++ (WLet z a7 m7))))))) H → va_D A (WFac z a1 (a2 0) (a3 0) a4 (a6 0) (a7 0) m1 ++ (WDay z a2 m2 ++ (WDay z a3 m3 ++ (WMin a4 (a5 0) m4 ++ (WDay z a5 m5 ++ (WArr z a6 m6 ++ (WLet z a7 m7))))))) → va_S A s.heap H locs → ∀ (ls : Array Slot), lv_has ls 2 [(0, .ref (a1 0)), (1, .int p1)] → k2 u0 = some rr → GI p l e (headSpec wsX6_count ({ frames := 3, cells := 0, slots := 0, locals := 62 } : Room)).room s m ([.ref (a1 0), .int p1] : List Value).toArray below meth c A D z rr (WFac z a1 (a2 0) (a3 0) a4 (a6 0) (a7 0) m1 ++ (WDay z a2 m2 ++ (WDay z a3 m3 ++ (WMin a4 (a5 0) m4 ++ (WDay z a5 m5 ++ (WArr z a6 m6 ++ (WLet z a7 m7))))))) H locs (F0 m 47 ls []) := by
      intro u0 H locs hP hD hS ls hl hf
      have hf := jn1_ap ek2 hf
      refine lv_iload_n hx hb dX6_count_47 rfl (lv_at hl 1 rfl) ?_
      by_cases c3 : p1 = 0
      · have hf := if_t c3 hf
        refine z_tin (K := 0) hx hb c3 dX6_count_48 ⟨rfl, by decide, by decide⟩ (tgt := 100) (by decide) ?_
        refine lv_aload_n hx hb dX6_count_100 rfl (lv_at hl 0 rfl) ?_
        refine va_get (D := D) (ci := 6) (v := .ref (a2 0)) (C := RX6) (T := TX6) (N := 9) hx hb hts iX6 hown hK hP 0 rfl rfl 0 (by decide) (hts _ aw240) (fun _ h9 => h9) rfl dX6_count_101 ?_
        refine va_get (D := D) (ci := 2) (v := .int (m2 0 4)) (C := RX2) (T := TX2) (N := 8) hx hb hts iX2 hown hK hP 3 rfl rfl 4 (by decide) (hts _ aw167) (fun _ h9 => h9) rfl dX6_count_104 ?_
        obtain rfl := so1 hf
        exact ret_i hx hb hr hlocks hK hP hD hS dX6_count_107
      have hf := if_f c3 hf
      by_cases c4 : p1 = 1
      · have hf := if_t c4 hf
        refine z_tin (K := 1) hx hb c4 dX6_count_48 ⟨rfl, by decide, by decide⟩ (tgt := 108) (by decide) ?_
        refine lv_aload_n hx hb dX6_count_108 rfl (lv_at hl 0 rfl) ?_
        refine va_get (D := D) (ci := 6) (v := .ref (a2 0)) (C := RX6) (T := TX6) (N := 9) hx hb hts iX6 hown hK hP 0 rfl rfl 0 (by decide) (hts _ aw240) (fun _ h9 => h9) rfl dX6_count_109 ?_
        refine va_get (D := D) (ci := 2) (v := .int (m2 0 6)) (C := RX2) (T := TX2) (N := 8) hx hb hts iX2 hown hK hP 3 rfl rfl 6 (by decide) (hts _ aw171) (fun _ h9 => h9) rfl dX6_count_112 ?_
        obtain rfl := so1 hf
        exact ret_i hx hb hr hlocks hK hP hD hS dX6_count_115
      have hf := if_f c4 hf
      by_cases c5 : p1 = 2
      · have hf := if_t c5 hf
        refine z_tin (K := 2) hx hb c5 dX6_count_48 ⟨rfl, by decide, by decide⟩ (tgt := 116) (by decide) ?_
        refine lv_aload_n hx hb dX6_count_116 rfl (lv_at hl 0 rfl) ?_
        refine va_get (D := D) (ci := 6) (v := .ref (a2 0)) (C := RX6) (T := TX6) (N := 9) hx hb hts iX6 hown hK hP 0 rfl rfl 0 (by decide) (hts _ aw240) (fun _ h9 => h9) rfl dX6_count_117 ?_
        refine va_get (D := D) (ci := 2) (v := .int (m2 0 5)) (C := RX2) (T := TX2) (N := 8) hx hb hts iX2 hown hK hP 3 rfl rfl 5 (by decide) (hts _ aw169) (fun _ h9 => h9) rfl dX6_count_120 ?_
        obtain rfl := so1 hf
        exact ret_i hx hb hr hlocks hK hP hD hS dX6_count_123
      have hf := if_f c5 hf
      by_cases c6 : p1 = 3
      · have hf := if_t c6 hf
        refine z_tin (K := 3) hx hb c6 dX6_count_48 ⟨rfl, by decide, by decide⟩ (tgt := 124) (by decide) ?_
        refine lv_aload_n hx hb dX6_count_124 rfl (lv_at hl 0 rfl) ?_
        refine va_get (D := D) (ci := 6) (v := .ref (a2 0)) (C := RX6) (T := TX6) (N := 9) hx hb hts iX6 hown hK hP 0 rfl rfl 0 (by decide) (hts _ aw240) (fun _ h9 => h9) rfl dX6_count_125 ?_
        refine lv_iconst (v := 2) hx hb dX6_count_128 (by decide) ?_
        obtain ⟨r7, q8, hf⟩ := bd_use hf
        have hfo : Foc (WFac z a1 (a2 0) (a3 0) a4 (a6 0) (a7 0) m1 ++ (WDay z a2 m2 ++ (WDay z a3 m3 ++ (WMin a4 (a5 0) m4 ++ (WDay z a5 m5 ++ (WArr z a6 m6 ++ (WLet z a7 m7))))))) (WDay z a2 m2) (WFac z a1 (a2 0) (a3 0) a4 (a6 0) (a7 0) m1 ++ (WDay z a2 m2 ++ (WDay z a3 m3 ++ (WMin a4 (a5 0) m4 ++ (WDay z a5 m5 ++ (WArr z a6 m6 ++ (WLet z a7 m7))))))) (WDay z a2 m2) := (foc_r (foc_l foc_all))
        refine z_goI (ws1 := (WFac z a1 (a2 0) (a3 0) a4 (a6 0) (a7 0) m1 ++ (WDay z a2 m2 ++ (WDay z a3 m3 ++ (WMin a4 (a5 0) m4 ++ (WDay z a5 m5 ++ (WArr z a6 m6 ++ (WLet z a7 m7)))))))) (va_runV (As := [.int 2]) (rest := []) ⟨hx, hb, hml, hown, hts⟩ (tX2_comersWith l D z tt a2 m2 2 fu r7 q8 _) (cwV 1 hts (gV4 aw728 aw427 aw428 aw46 aw429) rfl rfl rfl (by decide +kernel) ⟨Nat.le_of_ble_eq_true rfl, Nat.le_of_ble_eq_true rfl⟩) (z_preV hK hP hD hS hA hT hN hfo (va_recv hK hP (ci := 2) (q0 := 3) rfl rfl)) rfl rfl hl.1 rfl (lv_room (Nat.le_of_ble_eq_true rfl)) dX6_count_129 ⟨Nat.zero_le _, Nat.zero_le _⟩) hP hD hS hA hfo (fun H locs hP hD hS => ?_)
        obtain rfl := so1 hf
        exact ret_i hx hb hr hlocks hK hP hD hS dX6_count_132
      have hf := if_f c6 hf
      by_cases c9 : p1 = 4
      · have hf := if_t c9 hf
        refine z_tin (K := 4) hx hb c9 dX6_count_48 ⟨rfl, by decide, by decide⟩ (tgt := 133) (by decide) ?_
        refine lv_aload_n hx hb dX6_count_133 rfl (lv_at hl 0 rfl) ?_
        refine va_get (D := D) (ci := 6) (v := .ref (a2 0)) (C := RX6) (T := TX6) (N := 9) hx hb hts iX6 hown hK hP 0 rfl rfl 0 (by decide) (hts _ aw240) (fun _ h9 => h9) rfl dX6_count_134 ?_
        refine lv_iconst (v := 3) hx hb dX6_count_137 (by decide) ?_
        obtain ⟨r10, q11, hf⟩ := bd_use hf
        have hfo : Foc (WFac z a1 (a2 0) (a3 0) a4 (a6 0) (a7 0) m1 ++ (WDay z a2 m2 ++ (WDay z a3 m3 ++ (WMin a4 (a5 0) m4 ++ (WDay z a5 m5 ++ (WArr z a6 m6 ++ (WLet z a7 m7))))))) (WDay z a2 m2) (WFac z a1 (a2 0) (a3 0) a4 (a6 0) (a7 0) m1 ++ (WDay z a2 m2 ++ (WDay z a3 m3 ++ (WMin a4 (a5 0) m4 ++ (WDay z a5 m5 ++ (WArr z a6 m6 ++ (WLet z a7 m7))))))) (WDay z a2 m2) := (foc_r (foc_l foc_all))
        refine z_goI (ws1 := (WFac z a1 (a2 0) (a3 0) a4 (a6 0) (a7 0) m1 ++ (WDay z a2 m2 ++ (WDay z a3 m3 ++ (WMin a4 (a5 0) m4 ++ (WDay z a5 m5 ++ (WArr z a6 m6 ++ (WLet z a7 m7)))))))) (va_runV (As := [.int 3]) (rest := []) ⟨hx, hb, hml, hown, hts⟩ (tX2_comersWith l D z tt a2 m2 3 fu r10 q11 _) (cwV 1 hts (gV4 aw728 aw427 aw428 aw46 aw429) rfl rfl rfl (by decide +kernel) ⟨Nat.le_of_ble_eq_true rfl, Nat.le_of_ble_eq_true rfl⟩) (z_preV hK hP hD hS hA hT hN hfo (va_recv hK hP (ci := 2) (q0 := 3) rfl rfl)) rfl rfl hl.1 rfl (lv_room (Nat.le_of_ble_eq_true rfl)) dX6_count_138 ⟨Nat.zero_le _, Nat.zero_le _⟩) hP hD hS hA hfo (fun H locs hP hD hS => ?_)
        obtain rfl := so1 hf
        exact ret_i hx hb hr hlocks hK hP hD hS dX6_count_141
      have hf := if_f c9 hf
      by_cases c12 : p1 = 5
      · have hf := if_t c12 hf
        refine z_tin (K := 5) hx hb c12 dX6_count_48 ⟨rfl, by decide, by decide⟩ (tgt := 142) (by decide) ?_
        refine lv_aload_n hx hb dX6_count_142 rfl (lv_at hl 0 rfl) ?_
        refine va_get (D := D) (ci := 6) (v := .ref (a2 0)) (C := RX6) (T := TX6) (N := 9) hx hb hts iX6 hown hK hP 0 rfl rfl 0 (by decide) (hts _ aw240) (fun _ h9 => h9) rfl dX6_count_143 ?_
        obtain ⟨r13, q14, hf⟩ := bd_use hf
        have hfo : Foc (WFac z a1 (a2 0) (a3 0) a4 (a6 0) (a7 0) m1 ++ (WDay z a2 m2 ++ (WDay z a3 m3 ++ (WMin a4 (a5 0) m4 ++ (WDay z a5 m5 ++ (WArr z a6 m6 ++ (WLet z a7 m7))))))) (WDay z a2 m2) (WFac z a1 (a2 0) (a3 0) a4 (a6 0) (a7 0) m1 ++ (WDay z a2 m2 ++ (WDay z a3 m3 ++ (WMin a4 (a5 0) m4 ++ (WDay z a5 m5 ++ (WArr z a6 m6 ++ (WLet z a7 m7))))))) (WDay z a2 m2) := (foc_r (foc_l foc_all))
        refine z_goI (ws1 := (WFac z a1 (a2 0) (a3 0) a4 (a6 0) (a7 0) m1 ++ (WDay z a2 m2 ++ (WDay z a3 m3 ++ (WMin a4 (a5 0) m4 ++ (WDay z a5 m5 ++ (WArr z a6 m6 ++ (WLet z a7 m7)))))))) (va_runV (As := []) (rest := []) ⟨hx, hb, hml, hown, hts⟩ (tX2_isOver l D z tt a2 m2  fu r13 q14 _) (cwV 0 hts (gV4 aw422 aw423 aw424 aw46 aw425) rfl rfl rfl (by decide +kernel) ⟨Nat.le_of_ble_eq_true rfl, Nat.le_of_ble_eq_true rfl⟩) (z_preV hK hP hD hS hA hT hN hfo (va_recv hK hP (ci := 2) (q0 := 3) rfl rfl)) rfl rfl hl.1 rfl (lv_room (Nat.le_of_ble_eq_true rfl)) dX6_count_146 ⟨Nat.zero_le _, Nat.zero_le _⟩) hP hD hS hA hfo (fun H locs hP hD hS => ?_)
        refine lv_if_eq (tgt := 156) hx hb dX6_count_149 (by decide) (fun c15 => ?_) (fun c15 => ?_)
        · have hf := if_t c15 hf
          refine lv_iconst (v := 0) hx hb dX6_count_156 (by decide) ?_
          obtain rfl := so1 hf
          exact ret_i hx hb hr hlocks hK hP hD hS dX6_count_157
        · have hf := if_f c15 hf
          refine lv_iconst (v := 1) hx hb dX6_count_152 (by decide) ?_
          refine lv_goto (tgt := 157) hx hb dX6_count_153 (by decide) ?_
          obtain rfl := so1 hf
          exact ret_i hx hb hr hlocks hK hP hD hS dX6_count_157
      have hf := if_f c12 hf
      by_cases c16 : p1 = 6
      · have hf := if_t c16 hf
        refine z_tin (K := 6) hx hb c16 dX6_count_48 ⟨rfl, by decide, by decide⟩ (tgt := 158) (by decide) ?_
        refine lv_aload_n hx hb dX6_count_158 rfl (lv_at hl 0 rfl) ?_
        refine va_get (D := D) (ci := 6) (v := .ref (a2 0)) (C := RX6) (T := TX6) (N := 9) hx hb hts iX6 hown hK hP 0 rfl rfl 0 (by decide) (hts _ aw240) (fun _ h9 => h9) rfl dX6_count_159 ?_
        obtain ⟨r17, q18, hf⟩ := bd_use hf
        have hfo : Foc (WFac z a1 (a2 0) (a3 0) a4 (a6 0) (a7 0) m1 ++ (WDay z a2 m2 ++ (WDay z a3 m3 ++ (WMin a4 (a5 0) m4 ++ (WDay z a5 m5 ++ (WArr z a6 m6 ++ (WLet z a7 m7))))))) (WDay z a2 m2) (WFac z a1 (a2 0) (a3 0) a4 (a6 0) (a7 0) m1 ++ (WDay z a2 m2 ++ (WDay z a3 m3 ++ (WMin a4 (a5 0) m4 ++ (WDay z a5 m5 ++ (WArr z a6 m6 ++ (WLet z a7 m7))))))) (WDay z a2 m2) := (foc_r (foc_l foc_all))
        refine z_goI (ws1 := (WFac z a1 (a2 0) (a3 0) a4 (a6 0) (a7 0) m1 ++ (WDay z a2 m2 ++ (WDay z a3 m3 ++ (WMin a4 (a5 0) m4 ++ (WDay z a5 m5 ++ (WArr z a6 m6 ++ (WLet z a7 m7)))))))) (va_runV (As := []) (rest := []) ⟨hx, hb, hml, hown, hts⟩ (tX2_allWaited l D z tt a2 m2  fu r17 q18 _) (cwV 0 hts (gV4 aw729 aw529 aw530 aw46 aw531) rfl rfl rfl (by decide +kernel) ⟨Nat.le_of_ble_eq_true rfl, Nat.le_of_ble_eq_true rfl⟩) (z_preV hK hP hD hS hA hT hN hfo (va_recv hK hP (ci := 2) (q0 := 3) rfl rfl)) rfl rfl hl.1 rfl (lv_room (Nat.le_of_ble_eq_true rfl)) dX6_count_162 ⟨Nat.zero_le _, Nat.zero_le _⟩) hP hD hS hA hfo (fun H locs hP hD hS => ?_)
        obtain rfl := so1 hf
        exact ret_i hx hb hr hlocks hK hP hD hS dX6_count_165
      have hf := if_f c16 hf
      by_cases c19 : p1 = 7
      · have hf := if_t c19 hf
        refine z_tin (K := 7) hx hb c19 dX6_count_48 ⟨rfl, by decide, by decide⟩ (tgt := 166) (by decide) ?_
        refine lv_aload_n hx hb dX6_count_166 rfl (lv_at hl 0 rfl) ?_
        refine va_get (D := D) (ci := 6) (v := .ref (a7 0)) (C := RX6) (T := TX6) (N := 9) hx hb hts iX6 hown hK hP 0 rfl rfl 4 (by decide) (hts _ aw244) (fun _ h9 => h9) rfl dX6_count_167 ?_
        refine va_get (D := D) (ci := 4) (v := .int (m7 0 1)) (C := RX4) (T := TX4) (N := 3) hx hb hts iX4 hown hK hP 52 rfl rfl 1 (by decide) (hts _ aw231) (fun _ h9 => h9) rfl dX6_count_170 ?_
        obtain rfl := so1 hf
        exact ret_i hx hb hr hlocks hK hP hD hS dX6_count_173
      have hf := if_f c19 hf
      by_cases c20 : p1 = 8
      · have hf := if_t c20 hf
        refine z_tin (K := 8) hx hb c20 dX6_count_48 ⟨rfl, by decide, by decide⟩ (tgt := 174) (by decide) ?_
        refine lv_aload_n hx hb dX6_count_174 rfl (lv_at hl 0 rfl) ?_
        refine va_get (D := D) (ci := 6) (v := .int (m1 0 7)) (C := RX6) (T := TX6) (N := 9) hx hb hts iX6 hown hK hP 0 rfl rfl 7 (by decide) (hts _ aw247) (fun _ h9 => h9) rfl dX6_count_175 ?_
        obtain rfl := so1 hf
        exact ret_i hx hb hr hlocks hK hP hD hS dX6_count_178
      have hf := if_f c20 hf
      refine lv_tableOut (tgt := 179) hx hb dX6_count_48 (by have qc3 := lv_neT c3 (show (0 : Int32).toInt = 0 from by decide); have qc4 := lv_neT c4 (show (1 : Int32).toInt = 1 from by decide); have qc5 := lv_neT c5 (show (2 : Int32).toInt = 2 from by decide); have qc6 := lv_neT c6 (show (3 : Int32).toInt = 3 from by decide); have qc9 := lv_neT c9 (show (4 : Int32).toInt = 4 from by decide); have qc12 := lv_neT c12 (show (5 : Int32).toInt = 5 from by decide); have qc16 := lv_neT c16 (show (6 : Int32).toInt = 6 from by decide); have qc19 := lv_neT c19 (show (7 : Int32).toInt = 7 from by decide); have qc20 := lv_neT c20 (show (8 : Int32).toInt = 8 from by decide); omega) (by decide) ?_
      refine lv_bipush (v := (-9)) hx hb dX6_count_179 (by decide) ?_
      obtain rfl := so1 hf
      exact ret_i hx hb hr hlocks hK hP hD hS dX6_count_181
    refine lv_icmp_lt (tgt := 47) hx hb dX6_count_25 (by decide) (fun c21 => ?_) (fun c21 => ?_)
    · have hf := if_t c21 hf
      exact B47_k2 _ _ _ hP hD hS _ (lv_sub hl [0, 1] rfl) hf
    · have hf := if_f c21 hf
      refine lv_iload_n hx hb dX6_count_28 rfl (lv_at hl 1 rfl) ?_
      refine lv_bipush (v := 27) hx hb dX6_count_29 (by decide) ?_
      refine lv_icmp_gt (tgt := 47) hx hb dX6_count_31 (by decide) (fun c22 => ?_) (fun c22 => ?_)
      · have hf := if_t c22 hf
        exact B47_k2 _ _ _ hP hD hS _ (lv_sub hl [0, 1] rfl) hf
      · have hf := if_f c22 hf
        refine lv_aload_n hx hb dX6_count_34 rfl (lv_at hl 0 rfl) ?_
        refine va_get (D := D) (ci := 6) (v := .ref (a2 0)) (C := RX6) (T := TX6) (N := 9) hx hb hts iX6 hown hK hP 0 rfl rfl 0 (by decide) (hts _ aw240) (fun _ h9 => h9) rfl dX6_count_35 ?_
        refine va_get (D := D) (ci := 2) (v := .ref (a2 1)) (C := RX2) (T := TX2) (N := 8) hx hb hts iX2 hown hK hP 3 rfl rfl 0 (by decide) (hts _ aw153) (fun _ h9 => h9) rfl dX6_count_38 ?_
        refine lv_iload_n hx hb dX6_count_41 rfl (lv_at hl 1 rfl) ?_
        refine lv_bipush (v := 20) hx hb dX6_count_42 (by decide) ?_
        refine lv_isub hx hb dX6_count_44 ?_
        obtain ⟨h23, hf⟩ := ck_use hf
        refine z_iald hx hb hK hP 4 rfl h23 dX6_count_45 ?_
        obtain rfl := so1 hf
        exact ret_i hx hb hr hlocks hK hP hD hS dX6_count_46
  refine lv_icmp_lt (tgt := 22) hx hb dX6_count_3 (by decide) (fun c24 => ?_) (fun c24 => ?_)
  · have hf := if_t c24 hf
    exact B22_k1 _ _ _ hP hD hS _ (lv_sub hl [0, 1] rfl) hf
  · have hf := if_f c24 hf
    refine lv_iload_n hx hb dX6_count_6 rfl (lv_at hl 1 rfl) ?_
    refine lv_bipush (v := 16) hx hb dX6_count_7 (by decide) ?_
    refine lv_icmp_gt (tgt := 22) hx hb dX6_count_9 (by decide) (fun c25 => ?_) (fun c25 => ?_)
    · have hf := if_t c25 hf
      exact B22_k1 _ _ _ hP hD hS _ (lv_sub hl [0, 1] rfl) hf
    · have hf := if_f c25 hf
      refine lv_aload_n hx hb dX6_count_12 rfl (lv_at hl 0 rfl) ?_
      refine va_get (D := D) (ci := 6) (v := .ref (a1 2)) (C := RX6) (T := TX6) (N := 9) hx hb hts iX6 hown hK hP 0 rfl rfl 6 (by decide) (hts _ aw246) (fun _ h9 => h9) rfl dX6_count_13 ?_
      refine lv_iload_n hx hb dX6_count_16 rfl (lv_at hl 1 rfl) ?_
      refine lv_bipush (v := 10) hx hb dX6_count_17 (by decide) ?_
      refine lv_isub hx hb dX6_count_19 ?_
      obtain ⟨h26, hf⟩ := ck_use hf
      refine z_iald hx hb hK hP 2 rfl h26 dX6_count_20 ?_
      obtain rfl := so1 hf
      exact ret_i hx hb hr hlocks hK hP hD hS dX6_count_21
