def pX6_refuse (fu : Nat) (m1 : Mem) (p1 : Int32) : Option (Int32 × Mem) :=
  if (-p1) ≤ 0 then
    some (p1, m1)
  else
    if 7 ≤ (-p1) then
      some (p1, m1)
    else
      ck (-p1) 7 <|
      ck (-p1) 7 <|
      lt' (up2 m1 2 (-p1).toNatClampNeg ((m1 2 (-p1).toNatClampNeg) + 1)) fun y4 =>
      some (p1, y4)
set_option maxHeartbeats 4000000 in
set_option maxRecDepth 100000 in
theorem tX6_refuse (l : Launch) (D : va_G) (z tt : Nat → Nat) (bn bk bm ba bl : Nat) (a1 : Nat → Nat) (m1 : Mem) (p1 : Int32) (fu : Nat) (rr : Int32) (m1' : Mem) (hf : pX6_refuse fu m1 p1 = some (rr, m1')) : MetI l yX6_refuse wsX6_refuse ({ frames := 0, cells := 0, slots := 0, locals := 0 } : Room) D z tt ([.ref (a1 0), .int p1] : List Value) (WFac z a1 bn bk bm ba bl m1) rr (WFac z a1 bn bk bm ba bl m1') := by
  intro sz
  refine Met.ofW (cc := cX6_refuse) (maxL := 3) (ret := (some .int)) (by decide) rfl ?_
  intro p e s m args below meth c s₁ B hml hv
  obtain ⟨rfl, hsz, hP, hK, hD0, hT, hN⟩ := hv
  have hx := B.exec
  have hb := B.bytes
  have hr := B.returns
  have hts : ∀ w ∈ wsA, w.before ([.ref (a1 0), .int p1] : List Value).toArray s = true := fun w h => atoms_spec (ws := wsX6_refuse) B.pre w (List.mem_cons_of_mem _ h)
  have hown : s.vm.findClass RX6 = some m.cls := findClass_of_methodNamed B.named
  have hlocks := B.notSynchronized
  subst hsz
  have hD := hD0.self (sz := s.heap.size)
  generalize hAe : va_A (WFac z a1 bn bk bm ba bl m1) s.heap.size = A at hD hT ⊢
  have hA : ∀ q : Nat, s.heap.size ≤ q → A q := fun q h => by rw [← hAe]; exact Or.inr h
  have hS : va_S A s.heap s.heap [] := va_S.rf
  have hl := lv_entry ([.ref (a1 0), .int p1] : List Value) (n := 3) (Nat.le_of_ble_eq_true rfl)
  rw [lg_entry_eq]
  generalize (lg_sl ([.ref (a1 0), .int p1] : List Value) ++ List.replicate (3 - (lg_sl ([.ref (a1 0), .int p1] : List Value)).length) Slot.unset).toArray = ls at hl ⊢
  have hl : lv_has ls 3 [(0, .ref (a1 0)), (1, .int p1)] := hl
  unfold pX6_refuse at hf
  refine lv_iload_n hx hb dX6_refuse_0 rfl (lv_at hl 1 rfl) ?_
  refine lv_ineg hx hb dX6_refuse_1 ?_
  refine lv_istore_n (lv' := [(2, .int (-p1)), (0, .ref (a1 0)), (1, .int p1)]) hx hb dX6_refuse_2 rfl hl (by decide) rfl (fun ls hl => ?_)
  refine lv_iload_n hx hb dX6_refuse_3 rfl (lv_at hl 0 rfl) ?_
  refine lv_if_le (tgt := 26) hx hb dX6_refuse_4 (by decide) (fun c1 => ?_) (fun c1 => ?_)
  · have hf := if_t c1 hf
    refine lv_iload_n hx hb dX6_refuse_26 rfl (lv_at hl 2 rfl) ?_
    obtain ⟨rfl, rfl⟩ := so2 hf
    exact ret_i hx hb hr hlocks hK hP hD hS dX6_refuse_27
  · have hf := if_f c1 hf
    refine lv_iload_n hx hb dX6_refuse_7 rfl (lv_at hl 0 rfl) ?_
    refine lv_aload_n hx hb dX6_refuse_8 rfl (lv_at hl 1 rfl) ?_
    refine va_get (D := D) (ci := 6) (v := .ref (a1 2)) (C := RX6) (T := TX6) (N := 9) hx hb hts iX6 hown hK hP 0 rfl rfl 6 (by decide) (hts _ aw246) (fun _ h9 => h9) rfl dX6_refuse_9 ?_
    refine z_alen hx hb hK hP 2 0 rfl rfl (v := 7) rfl dX6_refuse_12 ?_
    refine lv_icmp_ge (tgt := 26) hx hb dX6_refuse_13 (by decide) (fun c2 => ?_) (fun c2 => ?_)
    · have hf := if_t c2 hf
      refine lv_iload_n hx hb dX6_refuse_26 rfl (lv_at hl 2 rfl) ?_
      obtain ⟨rfl, rfl⟩ := so2 hf
      exact ret_i hx hb hr hlocks hK hP hD hS dX6_refuse_27
    · have hf := if_f c2 hf
      refine lv_aload_n hx hb dX6_refuse_16 rfl (lv_at hl 1 rfl) ?_
      refine va_get (D := D) (ci := 6) (v := .ref (a1 2)) (C := RX6) (T := TX6) (N := 9) hx hb hts iX6 hown hK hP 0 rfl rfl 6 (by decide) (hts _ aw246) (fun _ h9 => h9) rfl dX6_refuse_17 ?_
      refine lv_iload_n hx hb dX6_refuse_20 rfl (lv_at hl 0 rfl) ?_
      refine lv_dup2_11 hx hb dX6_refuse_21 rfl rfl ?_
      obtain ⟨h3, hf⟩ := ck_use hf
      refine z_iald hx hb hK hP 2 rfl h3 dX6_refuse_22 ?_
      refine lv_iconst (v := 1) hx hb dX6_refuse_23 (by decide) ?_
      refine lv_iadd hx hb dX6_refuse_24 ?_
      obtain ⟨h5, hf⟩ := ck_use hf
      refine z_iast hx hb hK hP hD hS 2 rfl h5 dX6_refuse_25 (fun (w9 : Mem) => (WFac z a1 bn bk bm ba bl w9)) (up2 m1 2 (-p1).toNatClampNeg ((m1 2 (-p1).toNatClampNeg) + 1)) rfl (fun y4 ey4 H locs hP hD hS => ?_)
      have hf := lt_use ey4 hf
      refine lv_iload_n hx hb dX6_refuse_26 rfl (lv_at hl 2 rfl) ?_
      obtain ⟨rfl, rfl⟩ := so2 hf
      exact ret_i hx hb hr hlocks hK hP hD hS dX6_refuse_27
def pX6_feed (fu : Nat) (m1 : Mem) (m7 : Mem) (p1 : Int32) : Option (Int32 × Mem × Mem) :=
  if 0 ≤ p1 then
    jn1 (fun (u0 : Unit) =>
      bd2 (pX6_refuse fu m1 (-6)) fun r3 y4 =>
      some (r3, y4, m7)) fun k2 =>
    if 255 < p1 then
      k2 ()
    else
      if (m7 0 1) < 96 then
        bd2 (pX4_append fu m7 p1) fun r8 y9 =>
        some (r8, m1, y9)
      else
        k2 ()
  else
    bd2 (pX6_refuse fu m1 (-4)) fun r11 y12 =>
    some (r11, y12, m7)
set_option maxHeartbeats 4000000 in
set_option maxRecDepth 100000 in
theorem tX6_feed (l : Launch) (D : va_G) (z tt : Nat → Nat) (a1 : Nat → Nat) (a2 : Nat → Nat) (a3 : Nat → Nat) (a4 : Nat) (a5 : Nat → Nat) (a6 : Nat → Nat) (a7 : Nat → Nat) (m1 : Mem) (m2 : Mem) (m3 : Mem) (m4 : Mem) (m5 : Mem) (m6 : Mem) (m7 : Mem) (p1 : Int32) (fu : Nat) (rr : Int32) (m1' : Mem) (m7' : Mem) (hf : pX6_feed fu m1 m7 p1 = some (rr, m1', m7')) : MetI l yX6_feed wsX6_feed ({ frames := 1, cells := 0, slots := 0, locals := 22 } : Room) D z tt ([.ref (a1 0), .int p1] : List Value) (WFac z a1 (a2 0) (a3 0) a4 (a6 0) (a7 0) m1 ++ (WDay z a2 m2 ++ (WDay z a3 m3 ++ (WMin a4 (a5 0) m4 ++ (WDay z a5 m5 ++ (WArr z a6 m6 ++ (WLet z a7 m7))))))) rr (WFac z a1 (a2 0) (a3 0) a4 (a6 0) (a7 0) m1' ++ (WDay z a2 m2 ++ (WDay z a3 m3 ++ (WMin a4 (a5 0) m4 ++ (WDay z a5 m5 ++ (WArr z a6 m6 ++ (WLet z a7 m7'))))))) := by
  intro sz
  refine Met.ofW (cc := cX6_feed) (maxL := 2) (ret := (some .int)) (by decide) rfl ?_
  intro p e s m args below meth c s₁ B hml hv
  obtain ⟨rfl, hsz, hP, hK, hD0, hT, hN⟩ := hv
  have hx := B.exec
  have hb := B.bytes
  have hr := B.returns
  have hts : ∀ w ∈ wsA, w.before ([.ref (a1 0), .int p1] : List Value).toArray s = true := fun w h => atoms_spec (ws := wsX6_feed) B.pre w (List.mem_cons_of_mem _ h)
  have hown : s.vm.findClass RX6 = some m.cls := findClass_of_methodNamed B.named
  have hlocks := B.notSynchronized
  subst hsz
  have hD := hD0.self (sz := s.heap.size)
  generalize hAe : va_A (WFac z a1 (a2 0) (a3 0) a4 (a6 0) (a7 0) m1 ++ (WDay z a2 m2 ++ (WDay z a3 m3 ++ (WMin a4 (a5 0) m4 ++ (WDay z a5 m5 ++ (WArr z a6 m6 ++ (WLet z a7 m7))))))) s.heap.size = A at hD hT ⊢
  have hA : ∀ q : Nat, s.heap.size ≤ q → A q := fun q h => by rw [← hAe]; exact Or.inr h
  have hS : va_S A s.heap s.heap [] := va_S.rf
  have hl := lv_entry ([.ref (a1 0), .int p1] : List Value) (n := 2) (Nat.le_of_ble_eq_true rfl)
  rw [lg_entry_eq]
  generalize (lg_sl ([.ref (a1 0), .int p1] : List Value) ++ List.replicate (2 - (lg_sl ([.ref (a1 0), .int p1] : List Value)).length) Slot.unset).toArray = ls at hl ⊢
  have hl : lv_has ls 2 [(0, .ref (a1 0)), (1, .int p1)] := hl
  unfold pX6_feed at hf
  refine lv_iload_n hx hb dX6_feed_0 rfl (lv_at hl 1 rfl) ?_
  refine lv_if_ge (tgt := 11) hx hb dX6_feed_1 (by decide) (fun c1 => ?_) (fun c1 => ?_)
  · have hf := if_t c1 hf
    refine lv_iload_n hx hb dX6_feed_11 rfl (lv_at hl 1 rfl) ?_
    refine lv_sipush (v := 255) hx hb dX6_feed_12 (by decide) ?_
    obtain ⟨k2, ek2, hf⟩ := jn1_use hf
    have B30_k2 : ∀ (u0 : Unit) (H : Heap) (locs : List Loc), va_P D vwCl (WFac z a1 (a2 0) (a3 0) a4 (a6 0) (a7 0) m1 ++ (WDay z a2 m2 ++ (WDay z a3 m3 ++ (WMin a4 (a5 0) m4 ++ (WDay z a5 m5 ++ (WArr z a6 m6 ++ (WLet z a7 m7))))))) H → va_D A (WFac z a1 (a2 0) (a3 0) a4 (a6 0) (a7 0) m1 ++ (WDay z a2 m2 ++ (WDay z a3 m3 ++ (WMin a4 (a5 0) m4 ++ (WDay z a5 m5 ++ (WArr z a6 m6 ++ (WLet z a7 m7))))))) → va_S A s.heap H locs → ∀ (ls : Array Slot), lv_has ls 2 [(0, .ref (a1 0))] → k2 u0 = some (rr, m1', m7') → GI p l e (headSpec wsX6_feed ({ frames := 1, cells := 0, slots := 0, locals := 22 } : Room)).room s m ([.ref (a1 0), .int p1] : List Value).toArray below meth c A D z rr (WFac z a1 (a2 0) (a3 0) a4 (a6 0) (a7 0) m1' ++ (WDay z a2 m2 ++ (WDay z a3 m3 ++ (WMin a4 (a5 0) m4 ++ (WDay z a5 m5 ++ (WArr z a6 m6 ++ (WLet z a7 m7'))))))) H locs (F0 m 30 ls []) := by
      intro u0 H locs hP hD hS ls hl hf
      have hf := jn1_ap ek2 hf
      refine lv_aload_n hx hb dX6_feed_30 rfl (lv_at hl 0 rfl) ?_
      refine lv_bipush (v := (-6)) hx hb dX6_feed_31 (by decide) ?_
      obtain ⟨r3, y4, q5, hf⟩ := bd2_use hf
      have hfo : Foc (WFac z a1 (a2 0) (a3 0) a4 (a6 0) (a7 0) m1 ++ (WDay z a2 m2 ++ (WDay z a3 m3 ++ (WMin a4 (a5 0) m4 ++ (WDay z a5 m5 ++ (WArr z a6 m6 ++ (WLet z a7 m7))))))) (WFac z a1 (a2 0) (a3 0) a4 (a6 0) (a7 0) m1) (WFac z a1 (a2 0) (a3 0) a4 (a6 0) (a7 0) y4 ++ (WDay z a2 m2 ++ (WDay z a3 m3 ++ (WMin a4 (a5 0) m4 ++ (WDay z a5 m5 ++ (WArr z a6 m6 ++ (WLet z a7 m7))))))) (WFac z a1 (a2 0) (a3 0) a4 (a6 0) (a7 0) y4) := (foc_l foc_all)
      refine z_goI (ws1 := (WFac z a1 (a2 0) (a3 0) a4 (a6 0) (a7 0) y4 ++ (WDay z a2 m2 ++ (WDay z a3 m3 ++ (WMin a4 (a5 0) m4 ++ (WDay z a5 m5 ++ (WArr z a6 m6 ++ (WLet z a7 m7)))))))) (va_runV (As := [.int (-6)]) (rest := []) ⟨hx, hb, hml, hown, hts⟩ (tX6_refuse l D z tt (a2 0) (a3 0) a4 (a6 0) (a7 0) a1 m1 (-6) fu r3 y4 q5 _) (cwV 1 hts (gV4 aw272 aw274 aw0 aw45 aw275) rfl rfl rfl (by decide +kernel) ⟨Nat.le_of_ble_eq_true rfl, Nat.le_of_ble_eq_true rfl⟩) (z_preV hK hP hD hS hA hT hN hfo (va_recv hK hP (ci := 6) (q0 := 0) rfl rfl)) rfl rfl hl.1 rfl (lv_room (Nat.le_of_ble_eq_true rfl)) dX6_feed_33 ⟨Nat.zero_le _, Nat.zero_le _⟩) hP hD hS hA hfo (fun H locs hP hD hS => ?_)
      obtain ⟨rfl, rfl, rfl⟩ := so3 hf
      exact ret_i hx hb hr hlocks hK hP hD hS dX6_feed_36
    refine lv_icmp_gt (tgt := 30) hx hb dX6_feed_15 (by decide) (fun c6 => ?_) (fun c6 => ?_)
    · have hf := if_t c6 hf
      exact B30_k2 _ _ _ hP hD hS _ (lv_sub hl [0] rfl) hf
    · have hf := if_f c6 hf
      refine lv_aload_n hx hb dX6_feed_18 rfl (lv_at hl 0 rfl) ?_
      refine va_get (D := D) (ci := 6) (v := .ref (a7 0)) (C := RX6) (T := TX6) (N := 9) hx hb hts iX6 hown hK hP 0 rfl rfl 4 (by decide) (hts _ aw244) (fun _ h9 => h9) rfl dX6_feed_19 ?_
      refine va_get (D := D) (ci := 4) (v := .int (m7 0 1)) (C := RX4) (T := TX4) (N := 3) hx hb hts iX4 hown hK hP 52 rfl rfl 1 (by decide) (hts _ aw231) (fun _ h9 => h9) rfl dX6_feed_22 ?_
      refine lv_bipush (v := 96) hx hb dX6_feed_25 (by decide) ?_
      refine lv_icmp_lt (tgt := 37) hx hb dX6_feed_27 (by decide) (fun c7 => ?_) (fun c7 => ?_)
      · have hf := if_t c7 hf
        refine lv_aload_n hx hb dX6_feed_37 rfl (lv_at hl 0 rfl) ?_
        refine va_get (D := D) (ci := 6) (v := .ref (a7 0)) (C := RX6) (T := TX6) (N := 9) hx hb hts iX6 hown hK hP 0 rfl rfl 4 (by decide) (hts _ aw244) (fun _ h9 => h9) rfl dX6_feed_38 ?_
        refine lv_iload_n hx hb dX6_feed_41 rfl (lv_at hl 1 rfl) ?_
        obtain ⟨r8, y9, q10, hf⟩ := bd2_use hf
        have hfo : Foc (WFac z a1 (a2 0) (a3 0) a4 (a6 0) (a7 0) m1 ++ (WDay z a2 m2 ++ (WDay z a3 m3 ++ (WMin a4 (a5 0) m4 ++ (WDay z a5 m5 ++ (WArr z a6 m6 ++ (WLet z a7 m7))))))) (WLet z a7 m7) (WFac z a1 (a2 0) (a3 0) a4 (a6 0) (a7 0) m1 ++ (WDay z a2 m2 ++ (WDay z a3 m3 ++ (WMin a4 (a5 0) m4 ++ (WDay z a5 m5 ++ (WArr z a6 m6 ++ (WLet z a7 y9))))))) (WLet z a7 y9) := (foc_r (foc_r (foc_r (foc_r (foc_r (foc_r foc_all))))))
        refine z_goI (ws1 := (WFac z a1 (a2 0) (a3 0) a4 (a6 0) (a7 0) m1 ++ (WDay z a2 m2 ++ (WDay z a3 m3 ++ (WMin a4 (a5 0) m4 ++ (WDay z a5 m5 ++ (WArr z a6 m6 ++ (WLet z a7 y9)))))))) (va_runV (As := [.int p1]) (rest := []) ⟨hx, hb, hml, hown, hts⟩ (tX4_append l D z tt a7 m7 p1 fu r8 y9 q10 _) (cwV 1 hts (gV4 aw276 aw277 aw278 aw51 aw279) rfl rfl rfl (by decide +kernel) ⟨Nat.le_of_ble_eq_true rfl, Nat.le_of_ble_eq_true rfl⟩) (z_preV hK hP hD hS hA hT hN hfo (va_recv hK hP (ci := 4) (q0 := 52) rfl rfl)) rfl rfl hl.1 rfl (lv_room (Nat.le_of_ble_eq_true rfl)) dX6_feed_42 ⟨Nat.zero_le _, Nat.zero_le _⟩) hP hD hS hA hfo (fun H locs hP hD hS => ?_)
        obtain ⟨rfl, rfl, rfl⟩ := so3 hf
        exact ret_i hx hb hr hlocks hK hP hD hS dX6_feed_45
      · have hf := if_f c7 hf
        exact B30_k2 _ _ _ hP hD hS _ (lv_sub hl [0] rfl) hf
  · have hf := if_f c1 hf
    refine lv_aload_n hx hb dX6_feed_4 rfl (lv_at hl 0 rfl) ?_
    refine lv_bipush (v := (-4)) hx hb dX6_feed_5 (by decide) ?_
    obtain ⟨r11, y12, q13, hf⟩ := bd2_use hf
    have hfo : Foc (WFac z a1 (a2 0) (a3 0) a4 (a6 0) (a7 0) m1 ++ (WDay z a2 m2 ++ (WDay z a3 m3 ++ (WMin a4 (a5 0) m4 ++ (WDay z a5 m5 ++ (WArr z a6 m6 ++ (WLet z a7 m7))))))) (WFac z a1 (a2 0) (a3 0) a4 (a6 0) (a7 0) m1) (WFac z a1 (a2 0) (a3 0) a4 (a6 0) (a7 0) y12 ++ (WDay z a2 m2 ++ (WDay z a3 m3 ++ (WMin a4 (a5 0) m4 ++ (WDay z a5 m5 ++ (WArr z a6 m6 ++ (WLet z a7 m7))))))) (WFac z a1 (a2 0) (a3 0) a4 (a6 0) (a7 0) y12) := (foc_l foc_all)
    refine z_goI (ws1 := (WFac z a1 (a2 0) (a3 0) a4 (a6 0) (a7 0) y12 ++ (WDay z a2 m2 ++ (WDay z a3 m3 ++ (WMin a4 (a5 0) m4 ++ (WDay z a5 m5 ++ (WArr z a6 m6 ++ (WLet z a7 m7)))))))) (va_runV (As := [.int (-4)]) (rest := []) ⟨hx, hb, hml, hown, hts⟩ (tX6_refuse l D z tt (a2 0) (a3 0) a4 (a6 0) (a7 0) a1 m1 (-4) fu r11 y12 q13 _) (cwV 1 hts (gV4 aw272 aw274 aw0 aw45 aw275) rfl rfl rfl (by decide +kernel) ⟨Nat.le_of_ble_eq_true rfl, Nat.le_of_ble_eq_true rfl⟩) (z_preV hK hP hD hS hA hT hN hfo (va_recv hK hP (ci := 6) (q0 := 0) rfl rfl)) rfl rfl hl.1 rfl (lv_room (Nat.le_of_ble_eq_true rfl)) dX6_feed_7 ⟨Nat.zero_le _, Nat.zero_le _⟩) hP hD hS hA hfo (fun H locs hP hD hS => ?_)
    obtain ⟨rfl, rfl, rfl⟩ := so3 hf
    exact ret_i hx hb hr hlocks hK hP hD hS dX6_feed_10
def pX6_office (fu : Nat) (m2 : Mem) (m5 : Mem) (m7 : Mem) : Option (Int32 × Mem × Mem × Mem) :=
  bd (pX5_take fu m5 m2) fun y1 =>
  bd3 (pX4_read fu m7 y1) fun r3 y4 y5 =>
  if r3 ≤ 0 then
    lt' (up2 y4 0 1 0) fun y8 =>
    some (r3, m2, y5, y8)
  else
    bd (pX2_copy fu m2 y5) fun y9 =>
    lt' (up2 y4 0 1 0) fun y11 =>
    some (r3, y9, y5, y11)
set_option maxHeartbeats 4000000 in
set_option maxRecDepth 100000 in
theorem tX6_office (l : Launch) (D : va_G) (z tt : Nat → Nat) (a1 : Nat → Nat) (a2 : Nat → Nat) (a3 : Nat → Nat) (a4 : Nat) (a5 : Nat → Nat) (a6 : Nat → Nat) (a7 : Nat → Nat) (m1 : Mem) (m2 : Mem) (m3 : Mem) (m4 : Mem) (m5 : Mem) (m6 : Mem) (m7 : Mem)  (fu : Nat) (rr : Int32) (m2' : Mem) (m5' : Mem) (m7' : Mem) (hf : pX6_office fu m2 m5 m7 = some (rr, m2', m5', m7')) : MetI l yX6_office wsX6_office ({ frames := 5, cells := 0, slots := 0, locals := 114 } : Room) D z tt ([.ref (a1 0)] : List Value) (WFac z a1 (a2 0) (a3 0) a4 (a6 0) (a7 0) m1 ++ (WDay z a2 m2 ++ (WDay z a3 m3 ++ (WMin a4 (a5 0) m4 ++ (WDay z a5 m5 ++ (WArr z a6 m6 ++ (WLet z a7 m7))))))) rr (WFac z a1 (a2 0) (a3 0) a4 (a6 0) (a7 0) m1 ++ (WDay z a2 m2' ++ (WDay z a3 m3 ++ (WMin a4 (a5 0) m4 ++ (WDay z a5 m5' ++ (WArr z a6 m6 ++ (WLet z a7 m7'))))))) := by
  intro sz
  refine Met.ofW (cc := cX6_office) (maxL := 2) (ret := (some .int)) (by decide) rfl ?_
  intro p e s m args below meth c s₁ B hml hv
  obtain ⟨rfl, hsz, hP, hK, hD0, hT, hN⟩ := hv
  have hx := B.exec
  have hb := B.bytes
  have hr := B.returns
  have hts : ∀ w ∈ wsA, w.before ([.ref (a1 0)] : List Value).toArray s = true := fun w h => atoms_spec (ws := wsX6_office) B.pre w (List.mem_cons_of_mem _ h)
  have hown : s.vm.findClass RX6 = some m.cls := findClass_of_methodNamed B.named
  have hlocks := B.notSynchronized
  subst hsz
  have hD := hD0.self (sz := s.heap.size)
  generalize hAe : va_A (WFac z a1 (a2 0) (a3 0) a4 (a6 0) (a7 0) m1 ++ (WDay z a2 m2 ++ (WDay z a3 m3 ++ (WMin a4 (a5 0) m4 ++ (WDay z a5 m5 ++ (WArr z a6 m6 ++ (WLet z a7 m7))))))) s.heap.size = A at hD hT ⊢
  have hA : ∀ q : Nat, s.heap.size ≤ q → A q := fun q h => by rw [← hAe]; exact Or.inr h
  have hS : va_S A s.heap s.heap [] := va_S.rf
  have hl := lv_entry ([.ref (a1 0)] : List Value) (n := 2) (Nat.le_of_ble_eq_true rfl)
  rw [lg_entry_eq]
  generalize (lg_sl ([.ref (a1 0)] : List Value) ++ List.replicate (2 - (lg_sl ([.ref (a1 0)] : List Value)).length) Slot.unset).toArray = ls at hl ⊢
  have hl : lv_has ls 2 [(0, .ref (a1 0))] := hl
  unfold pX6_office at hf
  refine lv_aload_n hx hb dX6_office_0 rfl (lv_at hl 0 rfl) ?_
  refine va_get (D := D) (ci := 6) (v := .ref a4) (C := RX6) (T := TX6) (N := 9) hx hb hts iX6 hown hK hP 0 rfl rfl 2 (by decide) (hts _ aw242) (fun _ h9 => h9) rfl dX6_office_1 ?_
  refine lv_aload_n hx hb dX6_office_4 rfl (lv_at hl 0 rfl) ?_
  refine va_get (D := D) (ci := 6) (v := .ref (a2 0)) (C := RX6) (T := TX6) (N := 9) hx hb hts iX6 hown hK hP 0 rfl rfl 0 (by decide) (hts _ aw240) (fun _ h9 => h9) rfl dX6_office_5 ?_
  obtain ⟨y1, q2, hf⟩ := bd_use hf
  have hfo : Foc (WFac z a1 (a2 0) (a3 0) a4 (a6 0) (a7 0) m1 ++ (WDay z a2 m2 ++ (WDay z a3 m3 ++ (WMin a4 (a5 0) m4 ++ (WDay z a5 m5 ++ (WArr z a6 m6 ++ (WLet z a7 m7))))))) (WMin a4 (a5 0) m4 ++ (WDay z a5 m5 ++ (WDay z a2 m2))) (WFac z a1 (a2 0) (a3 0) a4 (a6 0) (a7 0) m1 ++ (WDay z a2 m2 ++ (WDay z a3 m3 ++ (WMin a4 (a5 0) m4 ++ (WDay z a5 y1 ++ (WArr z a6 m6 ++ (WLet z a7 m7))))))) (WMin a4 (a5 0) m4 ++ (WDay z a5 y1 ++ (WDay z a2 m2))) := (foc_rot (foc_r (foc_app foc_all (foc_r (foc_app foc_all (foc_l foc_all))))))
  refine z_goV (ws1 := (WFac z a1 (a2 0) (a3 0) a4 (a6 0) (a7 0) m1 ++ (WDay z a2 m2 ++ (WDay z a3 m3 ++ (WMin a4 (a5 0) m4 ++ (WDay z a5 y1 ++ (WArr z a6 m6 ++ (WLet z a7 m7)))))))) (va_runV (As := [.ref (a2 0)]) (rest := []) ⟨hx, hb, hml, hown, hts⟩ (tX5_take l D z tt a4 a5 a2 m4 m5 m2  fu y1 q2 _) (cwV 1 hts (gV4 aw284 aw285 aw286 aw49 aw287) rfl rfl rfl (by decide +kernel) ⟨Nat.le_of_ble_eq_true rfl, Nat.le_of_ble_eq_true rfl⟩) (z_preV hK hP hD hS hA hT hN hfo (va_recv hK hP (ci := 5) (q0 := 33) rfl rfl)) rfl rfl hl.1 rfl (lv_room (Nat.le_of_ble_eq_true rfl)) dX6_office_8 ⟨Nat.zero_le _, Nat.zero_le _⟩) hP hD hS hA hfo (fun H locs hP hD hS => ?_)
  refine lv_aload_n hx hb dX6_office_11 rfl (lv_at hl 0 rfl) ?_
  refine va_get (D := D) (ci := 6) (v := .ref (a7 0)) (C := RX6) (T := TX6) (N := 9) hx hb hts iX6 hown hK hP 0 rfl rfl 4 (by decide) (hts _ aw244) (fun _ h9 => h9) rfl dX6_office_12 ?_
  refine lv_aload_n hx hb dX6_office_15 rfl (lv_at hl 0 rfl) ?_
  refine va_get (D := D) (ci := 6) (v := .ref a4) (C := RX6) (T := TX6) (N := 9) hx hb hts iX6 hown hK hP 0 rfl rfl 2 (by decide) (hts _ aw242) (fun _ h9 => h9) rfl dX6_office_16 ?_
  refine va_get (D := D) (ci := 5) (v := .ref (a5 0)) (C := RX5) (T := TX5) (N := 2) hx hb hts iX5 hown hK hP 33 rfl rfl 0 (by decide) (hts _ aw200) (fun _ h9 => h9) rfl dX6_office_19 ?_
  obtain ⟨r3, y4, y5, q6, hf⟩ := bd3_use hf
  have hfo : Foc (WFac z a1 (a2 0) (a3 0) a4 (a6 0) (a7 0) m1 ++ (WDay z a2 m2 ++ (WDay z a3 m3 ++ (WMin a4 (a5 0) m4 ++ (WDay z a5 y1 ++ (WArr z a6 m6 ++ (WLet z a7 m7))))))) (WLet z a7 m7 ++ (WDay z a5 y1)) (WFac z a1 (a2 0) (a3 0) a4 (a6 0) (a7 0) m1 ++ (WDay z a2 m2 ++ (WDay z a3 m3 ++ (WMin a4 (a5 0) m4 ++ (WDay z a5 y5 ++ (WArr z a6 m6 ++ (WLet z a7 y4))))))) (WLet z a7 y4 ++ (WDay z a5 y5)) := (foc_swap (foc_r (foc_r (foc_r (foc_r (foc_app foc_all (foc_r foc_all)))))))
  refine z_goI (ws1 := (WFac z a1 (a2 0) (a3 0) a4 (a6 0) (a7 0) m1 ++ (WDay z a2 m2 ++ (WDay z a3 m3 ++ (WMin a4 (a5 0) m4 ++ (WDay z a5 y5 ++ (WArr z a6 m6 ++ (WLet z a7 y4)))))))) (va_runV (As := [.ref (a5 0)]) (rest := []) ⟨hx, hb, hml, hown, hts⟩ (tX4_read l D z tt a7 a5 m7 y1  fu r3 y4 y5 q6 _) (cwV 1 hts (gV4 aw307 aw308 aw309 aw51 aw310) rfl rfl rfl (by decide +kernel) ⟨Nat.le_of_ble_eq_true rfl, Nat.le_of_ble_eq_true rfl⟩) (z_preV hK hP hD hS hA hT hN hfo (va_recv hK hP (ci := 4) (q0 := 52) rfl rfl)) rfl rfl hl.1 rfl (lv_room (Nat.le_of_ble_eq_true rfl)) dX6_office_22 ⟨Nat.zero_le _, Nat.zero_le _⟩) hP hD hS hA hfo (fun H locs hP hD hS => ?_)
  refine lv_istore_n (lv' := [(1, .int r3), (0, .ref (a1 0))]) hx hb dX6_office_25 rfl hl (by decide) rfl (fun ls hl => ?_)
  refine lv_iload_n hx hb dX6_office_26 rfl (lv_at hl 0 rfl) ?_
  refine lv_if_le (tgt := 44) hx hb dX6_office_27 (by decide) (fun c7 => ?_) (fun c7 => ?_)
  · have hf := if_t c7 hf
    refine lv_aload_n hx hb dX6_office_44 rfl (lv_at hl 1 rfl) ?_
    refine va_get (D := D) (ci := 6) (v := .ref (a7 0)) (C := RX6) (T := TX6) (N := 9) hx hb hts iX6 hown hK hP 0 rfl rfl 4 (by decide) (hts _ aw244) (fun _ h9 => h9) rfl dX6_office_45 ?_
    refine lv_iconst (v := 0) hx hb dX6_office_48 (by decide) ?_
    refine z_put (ci := 4) (v := .int 0) (ty := .int) (C := RX4) (T := TX4) (N := 3) hx hb hts iX4 tyX4 tyX4_ok nmX4 hown hK hP hD hS 52 rfl rfl 1 (by decide) (hts _ aw231) (fun _ h9 => h9) rfl (by decide +kernel) rfl rfl (Nat.le_of_ble_eq_true rfl) dX6_office_49 (fun (w9 : Mem) => (WFac z a1 (a2 0) (a3 0) a4 (a6 0) (a7 0) m1 ++ (WDay z a2 m2 ++ (WDay z a3 m3 ++ (WMin a4 (a5 0) m4 ++ (WDay z a5 y5 ++ (WArr z a6 m6 ++ (WLet z a7 w9)))))))) (up2 y4 0 1 0) rfl (fun y8 ey8 H locs hP hD hS => ?_)
    have hf := lt_use ey8 hf
    refine lv_iload_n hx hb dX6_office_52 rfl (lv_at hl 0 rfl) ?_
    obtain ⟨rfl, rfl, rfl, rfl⟩ := so4 hf
    exact ret_i hx hb hr hlocks hK hP hD hS dX6_office_53
  · have hf := if_f c7 hf
    refine lv_aload_n hx hb dX6_office_30 rfl (lv_at hl 1 rfl) ?_
    refine va_get (D := D) (ci := 6) (v := .ref (a2 0)) (C := RX6) (T := TX6) (N := 9) hx hb hts iX6 hown hK hP 0 rfl rfl 0 (by decide) (hts _ aw240) (fun _ h9 => h9) rfl dX6_office_31 ?_
    refine lv_aload_n hx hb dX6_office_34 rfl (lv_at hl 1 rfl) ?_
    refine va_get (D := D) (ci := 6) (v := .ref a4) (C := RX6) (T := TX6) (N := 9) hx hb hts iX6 hown hK hP 0 rfl rfl 2 (by decide) (hts _ aw242) (fun _ h9 => h9) rfl dX6_office_35 ?_
    refine va_get (D := D) (ci := 5) (v := .ref (a5 0)) (C := RX5) (T := TX5) (N := 2) hx hb hts iX5 hown hK hP 33 rfl rfl 0 (by decide) (hts _ aw200) (fun _ h9 => h9) rfl dX6_office_38 ?_
    obtain ⟨y9, q10, hf⟩ := bd_use hf
    have hfo : Foc (WFac z a1 (a2 0) (a3 0) a4 (a6 0) (a7 0) m1 ++ (WDay z a2 m2 ++ (WDay z a3 m3 ++ (WMin a4 (a5 0) m4 ++ (WDay z a5 y5 ++ (WArr z a6 m6 ++ (WLet z a7 y4))))))) (WDay z a2 m2 ++ (WDay z a5 y5)) (WFac z a1 (a2 0) (a3 0) a4 (a6 0) (a7 0) m1 ++ (WDay z a2 y9 ++ (WDay z a3 m3 ++ (WMin a4 (a5 0) m4 ++ (WDay z a5 y5 ++ (WArr z a6 m6 ++ (WLet z a7 y4))))))) (WDay z a2 y9 ++ (WDay z a5 y5)) := (foc_r (foc_app foc_all (foc_r (foc_r (foc_l foc_all)))))
    refine z_goV (ws1 := (WFac z a1 (a2 0) (a3 0) a4 (a6 0) (a7 0) m1 ++ (WDay z a2 y9 ++ (WDay z a3 m3 ++ (WMin a4 (a5 0) m4 ++ (WDay z a5 y5 ++ (WArr z a6 m6 ++ (WLet z a7 y4)))))))) (va_runV (As := [.ref (a5 0)]) (rest := []) ⟨hx, hb, hml, hown, hts⟩ (tX2_copy l D z tt a2 a5 m2 y5  fu y9 q10 _) (cwV 1 hts (gV4 aw368 aw289 aw290 aw46 aw291) rfl rfl rfl (by decide +kernel) ⟨Nat.le_of_ble_eq_true rfl, Nat.le_of_ble_eq_true rfl⟩) (z_preV hK hP hD hS hA hT hN hfo (va_recv hK hP (ci := 2) (q0 := 3) rfl rfl)) rfl rfl hl.1 rfl (lv_room (Nat.le_of_ble_eq_true rfl)) dX6_office_41 ⟨Nat.zero_le _, Nat.zero_le _⟩) hP hD hS hA hfo (fun H locs hP hD hS => ?_)
    refine lv_aload_n hx hb dX6_office_44 rfl (lv_at hl 1 rfl) ?_
    refine va_get (D := D) (ci := 6) (v := .ref (a7 0)) (C := RX6) (T := TX6) (N := 9) hx hb hts iX6 hown hK hP 0 rfl rfl 4 (by decide) (hts _ aw244) (fun _ h9 => h9) rfl dX6_office_45 ?_
    refine lv_iconst (v := 0) hx hb dX6_office_48 (by decide) ?_
    refine z_put (ci := 4) (v := .int 0) (ty := .int) (C := RX4) (T := TX4) (N := 3) hx hb hts iX4 tyX4 tyX4_ok nmX4 hown hK hP hD hS 52 rfl rfl 1 (by decide) (hts _ aw231) (fun _ h9 => h9) rfl (by decide +kernel) rfl rfl (Nat.le_of_ble_eq_true rfl) dX6_office_49 (fun (w9 : Mem) => (WFac z a1 (a2 0) (a3 0) a4 (a6 0) (a7 0) m1 ++ (WDay z a2 y9 ++ (WDay z a3 m3 ++ (WMin a4 (a5 0) m4 ++ (WDay z a5 y5 ++ (WArr z a6 m6 ++ (WLet z a7 w9)))))))) (up2 y4 0 1 0) rfl (fun y11 ey11 H locs hP hD hS => ?_)
    have hf := lt_use ey11 hf
    refine lv_iload_n hx hb dX6_office_52 rfl (lv_at hl 0 rfl) ?_
    obtain ⟨rfl, rfl, rfl, rfl⟩ := so4 hf
    exact ret_i hx hb hr hlocks hK hP hD hS dX6_office_53
def pX6_comer (fu : Nat) (m1 : Mem) (m2 : Mem) (p1 : Int32) (p2 : Int32) : Option (Int32 × Mem) :=
  bd (pX2_hasComer fu m2 p1) fun r1 =>
  if r1 = 0 then
    bd2 (pX6_refuse fu m1 (-1)) fun r16 y17 =>
    some (r16, y17)
  else
    jn1 (fun (u0 : Unit) =>
      bd2 (pX6_refuse fu m1 (-2)) fun r5 y6 =>
      some (r5, y6)) fun k4 =>
    if p2 < 0 then
      k4 ()
    else
      if p2 ≤ 7 then
        ck p1 8 <|
        if p2 = 7 then
          bd (pX2_upTo fu m2 (p1.toNatClampNeg) (m2 (5 + p1.toNatClampNeg) 0)) fun r14 =>
          some (r14, m1)
        else
          bd (pX1_tell fu (m2 (5 + p1.toNatClampNeg)) p2) fun r12 =>
          some (r12, m1)
      else
        k4 ()
set_option maxHeartbeats 4000000 in
set_option maxRecDepth 100000 in
theorem tX6_comer (l : Launch) (D : va_G) (z tt : Nat → Nat) (a1 : Nat → Nat) (a2 : Nat → Nat) (a3 : Nat → Nat) (a4 : Nat) (a5 : Nat → Nat) (a6 : Nat → Nat) (a7 : Nat → Nat) (m1 : Mem) (m2 : Mem) (m3 : Mem) (m4 : Mem) (m5 : Mem) (m6 : Mem) (m7 : Mem) (p1 : Int32) (p2 : Int32) (fu : Nat) (rr : Int32) (m1' : Mem) (hf : pX6_comer fu m1 m2 p1 p2 = some (rr, m1')) : MetI l yX6_comer wsX6_comer ({ frames := 2, cells := 0, slots := 0, locals := 46 } : Room) D z tt ([.ref (a1 0), .int p1, .int p2] : List Value) (WFac z a1 (a2 0) (a3 0) a4 (a6 0) (a7 0) m1 ++ (WDay z a2 m2 ++ (WDay z a3 m3 ++ (WMin a4 (a5 0) m4 ++ (WDay z a5 m5 ++ (WArr z a6 m6 ++ (WLet z a7 m7))))))) rr (WFac z a1 (a2 0) (a3 0) a4 (a6 0) (a7 0) m1' ++ (WDay z a2 m2 ++ (WDay z a3 m3 ++ (WMin a4 (a5 0) m4 ++ (WDay z a5 m5 ++ (WArr z a6 m6 ++ (WLet z a7 m7))))))) := by
  intro sz
  refine Met.ofW (cc := cX6_comer) (maxL := 4) (ret := (some .int)) (by decide) rfl ?_
  intro p e s m args below meth c s₁ B hml hv
  obtain ⟨rfl, hsz, hP, hK, hD0, hT, hN⟩ := hv
  have hx := B.exec
  have hb := B.bytes
  have hr := B.returns
  have hts : ∀ w ∈ wsA, w.before ([.ref (a1 0), .int p1, .int p2] : List Value).toArray s = true := fun w h => atoms_spec (ws := wsX6_comer) B.pre w (List.mem_cons_of_mem _ h)
  have hown : s.vm.findClass RX6 = some m.cls := findClass_of_methodNamed B.named
  have hlocks := B.notSynchronized
  subst hsz
  have hD := hD0.self (sz := s.heap.size)
  generalize hAe : va_A (WFac z a1 (a2 0) (a3 0) a4 (a6 0) (a7 0) m1 ++ (WDay z a2 m2 ++ (WDay z a3 m3 ++ (WMin a4 (a5 0) m4 ++ (WDay z a5 m5 ++ (WArr z a6 m6 ++ (WLet z a7 m7))))))) s.heap.size = A at hD hT ⊢
  have hA : ∀ q : Nat, s.heap.size ≤ q → A q := fun q h => by rw [← hAe]; exact Or.inr h
  have hS : va_S A s.heap s.heap [] := va_S.rf
  have hl := lv_entry ([.ref (a1 0), .int p1, .int p2] : List Value) (n := 4) (Nat.le_of_ble_eq_true rfl)
  rw [lg_entry_eq]
  generalize (lg_sl ([.ref (a1 0), .int p1, .int p2] : List Value) ++ List.replicate (4 - (lg_sl ([.ref (a1 0), .int p1, .int p2] : List Value)).length) Slot.unset).toArray = ls at hl ⊢
  have hl : lv_has ls 4 [(0, .ref (a1 0)), (1, .int p1), (2, .int p2)] := hl
  unfold pX6_comer at hf
  refine lv_aload_n hx hb dX6_comer_0 rfl (lv_at hl 0 rfl) ?_
  refine va_get (D := D) (ci := 6) (v := .ref (a2 0)) (C := RX6) (T := TX6) (N := 9) hx hb hts iX6 hown hK hP 0 rfl rfl 0 (by decide) (hts _ aw240) (fun _ h9 => h9) rfl dX6_comer_1 ?_
  refine lv_iload_n hx hb dX6_comer_4 rfl (lv_at hl 1 rfl) ?_
  obtain ⟨r1, q2, hf⟩ := bd_use hf
  have hfo : Foc (WFac z a1 (a2 0) (a3 0) a4 (a6 0) (a7 0) m1 ++ (WDay z a2 m2 ++ (WDay z a3 m3 ++ (WMin a4 (a5 0) m4 ++ (WDay z a5 m5 ++ (WArr z a6 m6 ++ (WLet z a7 m7))))))) (WDay z a2 m2) (WFac z a1 (a2 0) (a3 0) a4 (a6 0) (a7 0) m1 ++ (WDay z a2 m2 ++ (WDay z a3 m3 ++ (WMin a4 (a5 0) m4 ++ (WDay z a5 m5 ++ (WArr z a6 m6 ++ (WLet z a7 m7))))))) (WDay z a2 m2) := (foc_r (foc_l foc_all))
  refine z_goI (ws1 := (WFac z a1 (a2 0) (a3 0) a4 (a6 0) (a7 0) m1 ++ (WDay z a2 m2 ++ (WDay z a3 m3 ++ (WMin a4 (a5 0) m4 ++ (WDay z a5 m5 ++ (WArr z a6 m6 ++ (WLet z a7 m7)))))))) (va_runV (As := [.int p1]) (rest := []) ⟨hx, hb, hml, hown, hts⟩ (tX2_hasComer l D z tt a2 m2 p1 fu r1 q2 _) (cwV 1 hts (gV4 aw373 aw364 aw365 aw46 aw366) rfl rfl rfl (by decide +kernel) ⟨Nat.le_of_ble_eq_true rfl, Nat.le_of_ble_eq_true rfl⟩) (z_preV hK hP hD hS hA hT hN hfo (va_recv hK hP (ci := 2) (q0 := 3) rfl rfl)) rfl rfl hl.1 rfl (lv_room (Nat.le_of_ble_eq_true rfl)) dX6_comer_5 ⟨Nat.zero_le _, Nat.zero_le _⟩) hP hD hS hA hfo (fun H locs hP hD hS => ?_)
  refine lv_if_ne (tgt := 17) hx hb dX6_comer_8 (by decide) (fun c3 => ?_) (fun c3 => ?_)
  · have hf := if_f c3 hf
    refine lv_iload_n hx hb dX6_comer_17 rfl (lv_at hl 2 rfl) ?_
    obtain ⟨k4, ek4, hf⟩ := jn1_use hf
    have B27_k4 : ∀ (u0 : Unit) (H : Heap) (locs : List Loc), va_P D vwCl (WFac z a1 (a2 0) (a3 0) a4 (a6 0) (a7 0) m1 ++ (WDay z a2 m2 ++ (WDay z a3 m3 ++ (WMin a4 (a5 0) m4 ++ (WDay z a5 m5 ++ (WArr z a6 m6 ++ (WLet z a7 m7))))))) H → va_D A (WFac z a1 (a2 0) (a3 0) a4 (a6 0) (a7 0) m1 ++ (WDay z a2 m2 ++ (WDay z a3 m3 ++ (WMin a4 (a5 0) m4 ++ (WDay z a5 m5 ++ (WArr z a6 m6 ++ (WLet z a7 m7))))))) → va_S A s.heap H locs → ∀ (ls : Array Slot), lv_has ls 4 [(0, .ref (a1 0))] → k4 u0 = some (rr, m1') → GI p l e (headSpec wsX6_comer ({ frames := 2, cells := 0, slots := 0, locals := 46 } : Room)).room s m ([.ref (a1 0), .int p1, .int p2] : List Value).toArray below meth c A D z rr (WFac z a1 (a2 0) (a3 0) a4 (a6 0) (a7 0) m1' ++ (WDay z a2 m2 ++ (WDay z a3 m3 ++ (WMin a4 (a5 0) m4 ++ (WDay z a5 m5 ++ (WArr z a6 m6 ++ (WLet z a7 m7))))))) H locs (F0 m 27 ls []) := by
      intro u0 H locs hP hD hS ls hl hf
      have hf := jn1_ap ek4 hf
      refine lv_aload_n hx hb dX6_comer_27 rfl (lv_at hl 0 rfl) ?_
      refine lv_bipush (v := (-2)) hx hb dX6_comer_28 (by decide) ?_
      obtain ⟨r5, y6, q7, hf⟩ := bd2_use hf
      have hfo : Foc (WFac z a1 (a2 0) (a3 0) a4 (a6 0) (a7 0) m1 ++ (WDay z a2 m2 ++ (WDay z a3 m3 ++ (WMin a4 (a5 0) m4 ++ (WDay z a5 m5 ++ (WArr z a6 m6 ++ (WLet z a7 m7))))))) (WFac z a1 (a2 0) (a3 0) a4 (a6 0) (a7 0) m1) (WFac z a1 (a2 0) (a3 0) a4 (a6 0) (a7 0) y6 ++ (WDay z a2 m2 ++ (WDay z a3 m3 ++ (WMin a4 (a5 0) m4 ++ (WDay z a5 m5 ++ (WArr z a6 m6 ++ (WLet z a7 m7))))))) (WFac z a1 (a2 0) (a3 0) a4 (a6 0) (a7 0) y6) := (foc_l foc_all)
      refine z_goI (ws1 := (WFac z a1 (a2 0) (a3 0) a4 (a6 0) (a7 0) y6 ++ (WDay z a2 m2 ++ (WDay z a3 m3 ++ (WMin a4 (a5 0) m4 ++ (WDay z a5 m5 ++ (WArr z a6 m6 ++ (WLet z a7 m7)))))))) (va_runV (As := [.int (-2)]) (rest := []) ⟨hx, hb, hml, hown, hts⟩ (tX6_refuse l D z tt (a2 0) (a3 0) a4 (a6 0) (a7 0) a1 m1 (-2) fu r5 y6 q7 _) (cwV 1 hts (gV4 aw272 aw274 aw0 aw45 aw275) rfl rfl rfl (by decide +kernel) ⟨Nat.le_of_ble_eq_true rfl, Nat.le_of_ble_eq_true rfl⟩) (z_preV hK hP hD hS hA hT hN hfo (va_recv hK hP (ci := 6) (q0 := 0) rfl rfl)) rfl rfl hl.1 rfl (lv_room (Nat.le_of_ble_eq_true rfl)) dX6_comer_30 ⟨Nat.zero_le _, Nat.zero_le _⟩) hP hD hS hA hfo (fun H locs hP hD hS => ?_)
      obtain ⟨rfl, rfl⟩ := so2 hf
      exact ret_i hx hb hr hlocks hK hP hD hS dX6_comer_33
    refine lv_if_lt (tgt := 27) hx hb dX6_comer_18 (by decide) (fun c8 => ?_) (fun c8 => ?_)
    · have hf := if_t c8 hf
      exact B27_k4 _ _ _ hP hD hS _ (lv_sub hl [0] rfl) hf
    · have hf := if_f c8 hf
      refine lv_iload_n hx hb dX6_comer_21 rfl (lv_at hl 2 rfl) ?_
      refine lv_bipush (v := 7) hx hb dX6_comer_22 (by decide) ?_
      refine lv_icmp_le (tgt := 34) hx hb dX6_comer_24 (by decide) (fun c9 => ?_) (fun c9 => ?_)
      · have hf := if_t c9 hf
        refine lv_aload_n hx hb dX6_comer_34 rfl (lv_at hl 0 rfl) ?_
        refine va_get (D := D) (ci := 6) (v := .ref (a2 0)) (C := RX6) (T := TX6) (N := 9) hx hb hts iX6 hown hK hP 0 rfl rfl 0 (by decide) (hts _ aw240) (fun _ h9 => h9) rfl dX6_comer_35 ?_
        refine va_get (D := D) (ci := 2) (v := .ref (a2 13)) (C := RX2) (T := TX2) (N := 8) hx hb hts iX2 hown hK hP 3 rfl rfl 1 (by decide) (hts _ aw157) (fun _ h9 => h9) rfl dX6_comer_38 ?_
        refine lv_iload_n hx hb dX6_comer_41 rfl (lv_at hl 1 rfl) ?_
        obtain ⟨h10, hf⟩ := ck_use hf
        refine z_ald hx hb hK hP 16 1 (C := "FilledForOne$Comer") (g := (fun j => a2 (5 + j))) rfl rfl h10 dX6_comer_42 ?_
        refine lv_astore_n (lv' := [(3, .ref (a2 (5 + p1.toNatClampNeg))), (0, .ref (a1 0)), (1, .int p1), (2, .int p2)]) hx hb dX6_comer_43 rfl hl (by decide) rfl (fun ls hl => ?_)
        refine lv_iload_n hx hb dX6_comer_44 rfl (lv_at hl 3 rfl) ?_
        refine lv_bipush (v := 7) hx hb dX6_comer_45 (by decide) ?_
        refine lv_icmp_ne (tgt := 65) hx hb dX6_comer_47 (by decide) (fun c11 => ?_) (fun c11 => ?_)
        · have hf := if_f c11 hf
          refine lv_aload_n hx hb dX6_comer_65 rfl (lv_at hl 0 rfl) ?_
          refine lv_iload_n hx hb dX6_comer_66 rfl (lv_at hl 3 rfl) ?_
          obtain ⟨r12, q13, hf⟩ := bd_use hf
          have hfo : Foc (WFac z a1 (a2 0) (a3 0) a4 (a6 0) (a7 0) m1 ++ (WDay z a2 m2 ++ (WDay z a3 m3 ++ (WMin a4 (a5 0) m4 ++ (WDay z a5 m5 ++ (WArr z a6 m6 ++ (WLet z a7 m7))))))) (WCom (a2 (5 + p1.toNatClampNeg)) (m2 (5 + p1.toNatClampNeg))) (WFac z a1 (a2 0) (a3 0) a4 (a6 0) (a7 0) m1 ++ (WDay z a2 m2 ++ (WDay z a3 m3 ++ (WMin a4 (a5 0) m4 ++ (WDay z a5 m5 ++ (WArr z a6 m6 ++ (WLet z a7 m7))))))) (WCom (a2 (5 + p1.toNatClampNeg)) (m2 (5 + p1.toNatClampNeg))) := (foc_r (foc_l (foc_els (WDay_c z a2 m2 (vp_lt h10)))))
          refine z_goI (ws1 := (WFac z a1 (a2 0) (a3 0) a4 (a6 0) (a7 0) m1 ++ (WDay z a2 m2 ++ (WDay z a3 m3 ++ (WMin a4 (a5 0) m4 ++ (WDay z a5 m5 ++ (WArr z a6 m6 ++ (WLet z a7 m7)))))))) (va_runV (As := [.int p2]) (rest := []) ⟨hx, hb, hml, hown, hts⟩ (tX1_tell l D z tt (a2 (5 + p1.toNatClampNeg)) (m2 (5 + p1.toNatClampNeg)) p2 fu r12 q13 _) (cwV 1 hts (gV4 aw389 aw390 aw391 aw47 aw392) rfl rfl rfl (by decide +kernel) ⟨Nat.le_of_ble_eq_true rfl, Nat.le_of_ble_eq_true rfl⟩) (z_preV hK hP hD hS hA hT hN hfo (va_recv hK hP (ci := 1) (q0 := (3 + (5 + p1.toNatClampNeg))) rfl (w_skip (n := 3) rfl (w_beg (WDay_c z a2 m2 (vp_lt h10)))))) rfl rfl hl.1 rfl (lv_room (Nat.le_of_ble_eq_true rfl)) dX6_comer_67 ⟨Nat.zero_le _, Nat.zero_le _⟩) hP hD hS hA hfo (fun H locs hP hD hS => ?_)
          obtain ⟨rfl, rfl⟩ := so2 hf
          exact ret_i hx hb hr hlocks hK hP hD hS dX6_comer_70
        · have hf := if_t c11 hf
          refine lv_aload_n hx hb dX6_comer_50 rfl (lv_at hl 1 rfl) ?_
          refine va_get (D := D) (ci := 6) (v := .ref (a2 0)) (C := RX6) (T := TX6) (N := 9) hx hb hts iX6 hown hK hP 0 rfl rfl 0 (by decide) (hts _ aw240) (fun _ h9 => h9) rfl dX6_comer_51 ?_
          refine lv_aload_n hx hb dX6_comer_54 rfl (lv_at hl 0 rfl) ?_
          refine lv_aload_n hx hb dX6_comer_55 rfl (lv_at hl 0 rfl) ?_
          refine va_get (D := D) (ci := 1) (v := .int (m2 (5 + p1.toNatClampNeg) 0)) (C := RX1) (T := TX1) (N := 7) hx hb hts iX1 hown hK hP (3 + (5 + p1.toNatClampNeg)) (w_skip (n := 3) rfl (w_beg (WDay_c z a2 m2 (vp_lt h10)))) rfl 0 (by decide) (hts _ aw86) (fun _ h9 => h9) rfl dX6_comer_56 ?_
          obtain ⟨r14, q15, hf⟩ := bd_use hf
          have hfo : Foc (WFac z a1 (a2 0) (a3 0) a4 (a6 0) (a7 0) m1 ++ (WDay z a2 m2 ++ (WDay z a3 m3 ++ (WMin a4 (a5 0) m4 ++ (WDay z a5 m5 ++ (WArr z a6 m6 ++ (WLet z a7 m7))))))) (WDay z a2 m2) (WFac z a1 (a2 0) (a3 0) a4 (a6 0) (a7 0) m1 ++ (WDay z a2 m2 ++ (WDay z a3 m3 ++ (WMin a4 (a5 0) m4 ++ (WDay z a5 m5 ++ (WArr z a6 m6 ++ (WLet z a7 m7))))))) (WDay z a2 m2) := (foc_r (foc_l foc_all))
          refine z_goI (ws1 := (WFac z a1 (a2 0) (a3 0) a4 (a6 0) (a7 0) m1 ++ (WDay z a2 m2 ++ (WDay z a3 m3 ++ (WMin a4 (a5 0) m4 ++ (WDay z a5 m5 ++ (WArr z a6 m6 ++ (WLet z a7 m7)))))))) (va_runV (As := [.ref (a2 (5 + p1.toNatClampNeg)), .int (m2 (5 + p1.toNatClampNeg) 0)]) (rest := []) ⟨hx, hb, hml, hown, hts⟩ (tX2_upTo l D z tt a2 m2 (p1.toNatClampNeg) (m2 (5 + p1.toNatClampNeg) 0) fu r14 q15 _) (cwV 2 hts (gV4 aw374 aw375 aw376 aw46 aw377) rfl rfl rfl (by decide +kernel) ⟨Nat.le_of_ble_eq_true rfl, Nat.le_of_ble_eq_true rfl⟩) (z_preV hK hP hD hS hA hT hN hfo (va_recv hK hP (ci := 2) (q0 := 3) rfl rfl)) rfl rfl hl.1 rfl (lv_room (Nat.le_of_ble_eq_true rfl)) dX6_comer_59 ⟨Nat.zero_le _, Nat.zero_le _⟩) hP hD hS hA hfo (fun H locs hP hD hS => ?_)
          refine lv_goto (tgt := 70) hx hb dX6_comer_62 (by decide) ?_
          obtain ⟨rfl, rfl⟩ := so2 hf
          exact ret_i hx hb hr hlocks hK hP hD hS dX6_comer_70
      · have hf := if_f c9 hf
        exact B27_k4 _ _ _ hP hD hS _ (lv_sub hl [0] rfl) hf
  · have hf := if_t c3 hf
    refine lv_aload_n hx hb dX6_comer_11 rfl (lv_at hl 0 rfl) ?_
    refine lv_iconst (v := (-1)) hx hb dX6_comer_12 (by decide) ?_
    obtain ⟨r16, y17, q18, hf⟩ := bd2_use hf
    have hfo : Foc (WFac z a1 (a2 0) (a3 0) a4 (a6 0) (a7 0) m1 ++ (WDay z a2 m2 ++ (WDay z a3 m3 ++ (WMin a4 (a5 0) m4 ++ (WDay z a5 m5 ++ (WArr z a6 m6 ++ (WLet z a7 m7))))))) (WFac z a1 (a2 0) (a3 0) a4 (a6 0) (a7 0) m1) (WFac z a1 (a2 0) (a3 0) a4 (a6 0) (a7 0) y17 ++ (WDay z a2 m2 ++ (WDay z a3 m3 ++ (WMin a4 (a5 0) m4 ++ (WDay z a5 m5 ++ (WArr z a6 m6 ++ (WLet z a7 m7))))))) (WFac z a1 (a2 0) (a3 0) a4 (a6 0) (a7 0) y17) := (foc_l foc_all)
    refine z_goI (ws1 := (WFac z a1 (a2 0) (a3 0) a4 (a6 0) (a7 0) y17 ++ (WDay z a2 m2 ++ (WDay z a3 m3 ++ (WMin a4 (a5 0) m4 ++ (WDay z a5 m5 ++ (WArr z a6 m6 ++ (WLet z a7 m7)))))))) (va_runV (As := [.int (-1)]) (rest := []) ⟨hx, hb, hml, hown, hts⟩ (tX6_refuse l D z tt (a2 0) (a3 0) a4 (a6 0) (a7 0) a1 m1 (-1) fu r16 y17 q18 _) (cwV 1 hts (gV4 aw272 aw274 aw0 aw45 aw275) rfl rfl rfl (by decide +kernel) ⟨Nat.le_of_ble_eq_true rfl, Nat.le_of_ble_eq_true rfl⟩) (z_preV hK hP hD hS hA hT hN hfo (va_recv hK hP (ci := 6) (q0 := 0) rfl rfl)) rfl rfl hl.1 rfl (lv_room (Nat.le_of_ble_eq_true rfl)) dX6_comer_13 ⟨Nat.zero_le _, Nat.zero_le _⟩) hP hD hS hA hfo (fun H locs hP hD hS => ?_)
    obtain ⟨rfl, rfl⟩ := so2 hf
    exact ret_i hx hb hr hlocks hK hP hD hS dX6_comer_16
def pX6_kind (fu : Nat) (m1 : Mem) (m2 : Mem) (p1 : Int32) (p2 : Int32) (p3 : Int32) : Option (Int32 × Mem × Mem) :=
  bd (pX2_hasComer fu m2 p1) fun r1 =>
  if r1 = 0 then
    bd2 (pX6_refuse fu m1 (-1)) fun r23 y24 =>
    some (r23, y24, m2)
  else
    jn1 (fun (u0 : Unit) =>
      bd2 (pX6_refuse fu m1 (-2)) fun r5 y6 =>
      some (r5, y6, m2)) fun k4 =>
    if p2 < 0 then
      k4 ()
    else
      if p2 < 7 then
        if 0 ≤ p3 then
          if p3 ≤ 9 then
            ck p1 8 <|
            lt' (((10 * (m2 (5 + p1.toNatClampNeg) 0)) + (m2 (5 + p1.toNatClampNeg) 1)) : Int32) fun x13 =>
            bd (pX1_become fu (m2 (5 + p1.toNatClampNeg)) p2 p3) fun y14 =>
            lt' (va_up m2 (5 + p1.toNatClampNeg) y14) fun y16 =>
            some (x13, m1, y16)
          else
            bd2 (pX6_refuse fu m1 (-6)) fun r17 y18 =>
            some (r17, y18, m2)
        else
          bd2 (pX6_refuse fu m1 (-4)) fun r20 y21 =>
          some (r20, y21, m2)
      else
        k4 ()
set_option maxHeartbeats 4000000 in
set_option maxRecDepth 100000 in
theorem tX6_kind (l : Launch) (D : va_G) (z tt : Nat → Nat) (a1 : Nat → Nat) (a2 : Nat → Nat) (a3 : Nat → Nat) (a4 : Nat) (a5 : Nat → Nat) (a6 : Nat → Nat) (a7 : Nat → Nat) (m1 : Mem) (m2 : Mem) (m3 : Mem) (m4 : Mem) (m5 : Mem) (m6 : Mem) (m7 : Mem) (p1 : Int32) (p2 : Int32) (p3 : Int32) (fu : Nat) (rr : Int32) (m1' : Mem) (m2' : Mem) (hf : pX6_kind fu m1 m2 p1 p2 p3 = some (rr, m1', m2')) : MetI l yX6_kind wsX6_kind ({ frames := 1, cells := 0, slots := 0, locals := 22 } : Room) D z tt ([.ref (a1 0), .int p1, .int p2, .int p3] : List Value) (WFac z a1 (a2 0) (a3 0) a4 (a6 0) (a7 0) m1 ++ (WDay z a2 m2 ++ (WDay z a3 m3 ++ (WMin a4 (a5 0) m4 ++ (WDay z a5 m5 ++ (WArr z a6 m6 ++ (WLet z a7 m7))))))) rr (WFac z a1 (a2 0) (a3 0) a4 (a6 0) (a7 0) m1' ++ (WDay z a2 m2' ++ (WDay z a3 m3 ++ (WMin a4 (a5 0) m4 ++ (WDay z a5 m5 ++ (WArr z a6 m6 ++ (WLet z a7 m7))))))) := by
  intro sz
  refine Met.ofW (cc := cX6_kind) (maxL := 6) (ret := (some .int)) (by decide) rfl ?_
  intro p e s m args below meth c s₁ B hml hv
  obtain ⟨rfl, hsz, hP, hK, hD0, hT, hN⟩ := hv
  have hx := B.exec
  have hb := B.bytes
  have hr := B.returns
  have hts : ∀ w ∈ wsA, w.before ([.ref (a1 0), .int p1, .int p2, .int p3] : List Value).toArray s = true := fun w h => atoms_spec (ws := wsX6_kind) B.pre w (List.mem_cons_of_mem _ h)
  have hown : s.vm.findClass RX6 = some m.cls := findClass_of_methodNamed B.named
  have hlocks := B.notSynchronized
  subst hsz
  have hD := hD0.self (sz := s.heap.size)
  generalize hAe : va_A (WFac z a1 (a2 0) (a3 0) a4 (a6 0) (a7 0) m1 ++ (WDay z a2 m2 ++ (WDay z a3 m3 ++ (WMin a4 (a5 0) m4 ++ (WDay z a5 m5 ++ (WArr z a6 m6 ++ (WLet z a7 m7))))))) s.heap.size = A at hD hT ⊢
  have hA : ∀ q : Nat, s.heap.size ≤ q → A q := fun q h => by rw [← hAe]; exact Or.inr h
  have hS : va_S A s.heap s.heap [] := va_S.rf
  have hl := lv_entry ([.ref (a1 0), .int p1, .int p2, .int p3] : List Value) (n := 6) (Nat.le_of_ble_eq_true rfl)
  rw [lg_entry_eq]
  generalize (lg_sl ([.ref (a1 0), .int p1, .int p2, .int p3] : List Value) ++ List.replicate (6 - (lg_sl ([.ref (a1 0), .int p1, .int p2, .int p3] : List Value)).length) Slot.unset).toArray = ls at hl ⊢
  have hl : lv_has ls 6 [(0, .ref (a1 0)), (1, .int p1), (2, .int p2), (3, .int p3)] := hl
  unfold pX6_kind at hf
  refine lv_aload_n hx hb dX6_kind_0 rfl (lv_at hl 0 rfl) ?_
  refine va_get (D := D) (ci := 6) (v := .ref (a2 0)) (C := RX6) (T := TX6) (N := 9) hx hb hts iX6 hown hK hP 0 rfl rfl 0 (by decide) (hts _ aw240) (fun _ h9 => h9) rfl dX6_kind_1 ?_
  refine lv_iload_n hx hb dX6_kind_4 rfl (lv_at hl 1 rfl) ?_
  obtain ⟨r1, q2, hf⟩ := bd_use hf
  have hfo : Foc (WFac z a1 (a2 0) (a3 0) a4 (a6 0) (a7 0) m1 ++ (WDay z a2 m2 ++ (WDay z a3 m3 ++ (WMin a4 (a5 0) m4 ++ (WDay z a5 m5 ++ (WArr z a6 m6 ++ (WLet z a7 m7))))))) (WDay z a2 m2) (WFac z a1 (a2 0) (a3 0) a4 (a6 0) (a7 0) m1 ++ (WDay z a2 m2 ++ (WDay z a3 m3 ++ (WMin a4 (a5 0) m4 ++ (WDay z a5 m5 ++ (WArr z a6 m6 ++ (WLet z a7 m7))))))) (WDay z a2 m2) := (foc_r (foc_l foc_all))
  refine z_goI (ws1 := (WFac z a1 (a2 0) (a3 0) a4 (a6 0) (a7 0) m1 ++ (WDay z a2 m2 ++ (WDay z a3 m3 ++ (WMin a4 (a5 0) m4 ++ (WDay z a5 m5 ++ (WArr z a6 m6 ++ (WLet z a7 m7)))))))) (va_runV (As := [.int p1]) (rest := []) ⟨hx, hb, hml, hown, hts⟩ (tX2_hasComer l D z tt a2 m2 p1 fu r1 q2 _) (cwV 1 hts (gV4 aw373 aw364 aw365 aw46 aw366) rfl rfl rfl (by decide +kernel) ⟨Nat.le_of_ble_eq_true rfl, Nat.le_of_ble_eq_true rfl⟩) (z_preV hK hP hD hS hA hT hN hfo (va_recv hK hP (ci := 2) (q0 := 3) rfl rfl)) rfl rfl hl.1 rfl (lv_room (Nat.le_of_ble_eq_true rfl)) dX6_kind_5 ⟨Nat.zero_le _, Nat.zero_le _⟩) hP hD hS hA hfo (fun H locs hP hD hS => ?_)
  refine lv_if_ne (tgt := 17) hx hb dX6_kind_8 (by decide) (fun c3 => ?_) (fun c3 => ?_)
  · have hf := if_f c3 hf
    refine lv_iload_n hx hb dX6_kind_17 rfl (lv_at hl 2 rfl) ?_
    obtain ⟨k4, ek4, hf⟩ := jn1_use hf
    have B27_k4 : ∀ (u0 : Unit) (H : Heap) (locs : List Loc), va_P D vwCl (WFac z a1 (a2 0) (a3 0) a4 (a6 0) (a7 0) m1 ++ (WDay z a2 m2 ++ (WDay z a3 m3 ++ (WMin a4 (a5 0) m4 ++ (WDay z a5 m5 ++ (WArr z a6 m6 ++ (WLet z a7 m7))))))) H → va_D A (WFac z a1 (a2 0) (a3 0) a4 (a6 0) (a7 0) m1 ++ (WDay z a2 m2 ++ (WDay z a3 m3 ++ (WMin a4 (a5 0) m4 ++ (WDay z a5 m5 ++ (WArr z a6 m6 ++ (WLet z a7 m7))))))) → va_S A s.heap H locs → ∀ (ls : Array Slot), lv_has ls 6 [(0, .ref (a1 0))] → k4 u0 = some (rr, m1', m2') → GI p l e (headSpec wsX6_kind ({ frames := 1, cells := 0, slots := 0, locals := 22 } : Room)).room s m ([.ref (a1 0), .int p1, .int p2, .int p3] : List Value).toArray below meth c A D z rr (WFac z a1 (a2 0) (a3 0) a4 (a6 0) (a7 0) m1' ++ (WDay z a2 m2' ++ (WDay z a3 m3 ++ (WMin a4 (a5 0) m4 ++ (WDay z a5 m5 ++ (WArr z a6 m6 ++ (WLet z a7 m7))))))) H locs (F0 m 27 ls []) := by
      intro u0 H locs hP hD hS ls hl hf
      have hf := jn1_ap ek4 hf
      refine lv_aload_n hx hb dX6_kind_27 rfl (lv_at hl 0 rfl) ?_
      refine lv_bipush (v := (-2)) hx hb dX6_kind_28 (by decide) ?_
      obtain ⟨r5, y6, q7, hf⟩ := bd2_use hf
      have hfo : Foc (WFac z a1 (a2 0) (a3 0) a4 (a6 0) (a7 0) m1 ++ (WDay z a2 m2 ++ (WDay z a3 m3 ++ (WMin a4 (a5 0) m4 ++ (WDay z a5 m5 ++ (WArr z a6 m6 ++ (WLet z a7 m7))))))) (WFac z a1 (a2 0) (a3 0) a4 (a6 0) (a7 0) m1) (WFac z a1 (a2 0) (a3 0) a4 (a6 0) (a7 0) y6 ++ (WDay z a2 m2 ++ (WDay z a3 m3 ++ (WMin a4 (a5 0) m4 ++ (WDay z a5 m5 ++ (WArr z a6 m6 ++ (WLet z a7 m7))))))) (WFac z a1 (a2 0) (a3 0) a4 (a6 0) (a7 0) y6) := (foc_l foc_all)
      refine z_goI (ws1 := (WFac z a1 (a2 0) (a3 0) a4 (a6 0) (a7 0) y6 ++ (WDay z a2 m2 ++ (WDay z a3 m3 ++ (WMin a4 (a5 0) m4 ++ (WDay z a5 m5 ++ (WArr z a6 m6 ++ (WLet z a7 m7)))))))) (va_runV (As := [.int (-2)]) (rest := []) ⟨hx, hb, hml, hown, hts⟩ (tX6_refuse l D z tt (a2 0) (a3 0) a4 (a6 0) (a7 0) a1 m1 (-2) fu r5 y6 q7 _) (cwV 1 hts (gV4 aw272 aw274 aw0 aw45 aw275) rfl rfl rfl (by decide +kernel) ⟨Nat.le_of_ble_eq_true rfl, Nat.le_of_ble_eq_true rfl⟩) (z_preV hK hP hD hS hA hT hN hfo (va_recv hK hP (ci := 6) (q0 := 0) rfl rfl)) rfl rfl hl.1 rfl (lv_room (Nat.le_of_ble_eq_true rfl)) dX6_kind_30 ⟨Nat.zero_le _, Nat.zero_le _⟩) hP hD hS hA hfo (fun H locs hP hD hS => ?_)
      obtain ⟨rfl, rfl, rfl⟩ := so3 hf
      exact ret_i hx hb hr hlocks hK hP hD hS dX6_kind_33
    refine lv_if_lt (tgt := 27) hx hb dX6_kind_18 (by decide) (fun c8 => ?_) (fun c8 => ?_)
    · have hf := if_t c8 hf
      exact B27_k4 _ _ _ hP hD hS _ (lv_sub hl [0] rfl) hf
    · have hf := if_f c8 hf
      refine lv_iload_n hx hb dX6_kind_21 rfl (lv_at hl 2 rfl) ?_
      refine lv_bipush (v := 7) hx hb dX6_kind_22 (by decide) ?_
      refine lv_icmp_lt (tgt := 34) hx hb dX6_kind_24 (by decide) (fun c9 => ?_) (fun c9 => ?_)
      · have hf := if_t c9 hf
        refine lv_iload_n hx hb dX6_kind_34 rfl (lv_at hl 3 rfl) ?_
        refine lv_if_ge (tgt := 45) hx hb dX6_kind_35 (by decide) (fun c10 => ?_) (fun c10 => ?_)
        · have hf := if_t c10 hf
          refine lv_iload_n hx hb dX6_kind_45 rfl (lv_at hl 3 rfl) ?_
          refine lv_bipush (v := 9) hx hb dX6_kind_46 (by decide) ?_
          refine lv_icmp_le (tgt := 58) hx hb dX6_kind_48 (by decide) (fun c11 => ?_) (fun c11 => ?_)
          · have hf := if_t c11 hf
            refine lv_aload_n hx hb dX6_kind_58 rfl (lv_at hl 0 rfl) ?_
            refine va_get (D := D) (ci := 6) (v := .ref (a2 0)) (C := RX6) (T := TX6) (N := 9) hx hb hts iX6 hown hK hP 0 rfl rfl 0 (by decide) (hts _ aw240) (fun _ h9 => h9) rfl dX6_kind_59 ?_
            refine va_get (D := D) (ci := 2) (v := .ref (a2 13)) (C := RX2) (T := TX2) (N := 8) hx hb hts iX2 hown hK hP 3 rfl rfl 1 (by decide) (hts _ aw157) (fun _ h9 => h9) rfl dX6_kind_62 ?_
            refine lv_iload_n hx hb dX6_kind_65 rfl (lv_at hl 1 rfl) ?_
            obtain ⟨h12, hf⟩ := ck_use hf
            refine z_ald hx hb hK hP 16 1 (C := "FilledForOne$Comer") (g := (fun j => a2 (5 + j))) rfl rfl h12 dX6_kind_66 ?_
            refine lv_astore (lv' := [(4, .ref (a2 (5 + p1.toNatClampNeg))), (0, .ref (a1 0)), (1, .int p1), (2, .int p2), (3, .int p3)]) hx hb dX6_kind_67 hl (by decide) rfl (fun ls hl => ?_)
            refine lv_bipush (v := 10) hx hb dX6_kind_69 (by decide) ?_
            refine lv_aload hx hb dX6_kind_71 (lv_at hl 0 rfl) ?_
            refine va_get (D := D) (ci := 1) (v := .int (m2 (5 + p1.toNatClampNeg) 0)) (C := RX1) (T := TX1) (N := 7) hx hb hts iX1 hown hK hP (3 + (5 + p1.toNatClampNeg)) (w_skip (n := 3) rfl (w_beg (WDay_c z a2 m2 (vp_lt h12)))) rfl 0 (by decide) (hts _ aw86) (fun _ h9 => h9) rfl dX6_kind_73 ?_
            refine lv_imul hx hb dX6_kind_76 ?_
            refine lv_aload hx hb dX6_kind_77 (lv_at hl 0 rfl) ?_
            refine va_get (D := D) (ci := 1) (v := .int (m2 (5 + p1.toNatClampNeg) 1)) (C := RX1) (T := TX1) (N := 7) hx hb hts iX1 hown hK hP (3 + (5 + p1.toNatClampNeg)) (w_skip (n := 3) rfl (w_beg (WDay_c z a2 m2 (vp_lt h12)))) rfl 1 (by decide) (hts _ aw90) (fun _ h9 => h9) rfl dX6_kind_79 ?_
            refine lv_iadd hx hb dX6_kind_82 ?_
            refine lv_topi (fun x13 ex13 => ?_)
            have hf := lt_use ex13 hf
            refine lv_istore (lv' := [(5, .int x13), (4, .ref (a2 (5 + p1.toNatClampNeg))), (0, .ref (a1 0)), (1, .int p1), (2, .int p2), (3, .int p3)]) hx hb dX6_kind_83 hl (by decide) rfl (fun ls hl => ?_)
            refine lv_aload hx hb dX6_kind_85 (lv_at hl 1 rfl) ?_
            refine lv_iload_n hx hb dX6_kind_87 rfl (lv_at hl 4 rfl) ?_
            refine lv_iload_n hx hb dX6_kind_88 rfl (lv_at hl 5 rfl) ?_
            obtain ⟨y14, q15, hf⟩ := bd_use hf
            obtain ⟨y16, ey16⟩ : ∃ w : Mem, w = va_up m2 (5 + p1.toNatClampNeg) y14 := ⟨_, rfl⟩
            have hf := lt_use ey16 hf
            have hfo : Foc (WFac z a1 (a2 0) (a3 0) a4 (a6 0) (a7 0) m1 ++ (WDay z a2 m2 ++ (WDay z a3 m3 ++ (WMin a4 (a5 0) m4 ++ (WDay z a5 m5 ++ (WArr z a6 m6 ++ (WLet z a7 m7))))))) (WCom (a2 (5 + p1.toNatClampNeg)) (m2 (5 + p1.toNatClampNeg))) (WFac z a1 (a2 0) (a3 0) a4 (a6 0) (a7 0) m1 ++ (WDay z a2 y16 ++ (WDay z a3 m3 ++ (WMin a4 (a5 0) m4 ++ (WDay z a5 m5 ++ (WArr z a6 m6 ++ (WLet z a7 m7))))))) (WCom (a2 (5 + p1.toNatClampNeg)) y14) := (foc_r (foc_l (foc_el (WDay_c z a2 m2 (vp_lt h12)) (by rw [ey16]; exact WDay_sc z a2 m2 y14 (vp_lt h12)))))
            refine z_goV (ws1 := (WFac z a1 (a2 0) (a3 0) a4 (a6 0) (a7 0) m1 ++ (WDay z a2 y16 ++ (WDay z a3 m3 ++ (WMin a4 (a5 0) m4 ++ (WDay z a5 m5 ++ (WArr z a6 m6 ++ (WLet z a7 m7)))))))) (va_runV (As := [.int p2, .int p3]) (rest := []) ⟨hx, hb, hml, hown, hts⟩ (tX1_become l D z tt (a2 (5 + p1.toNatClampNeg)) (m2 (5 + p1.toNatClampNeg)) p2 p3 fu y14 q15 _) (cwV 2 hts (gV4 aw401 aw300 aw301 aw47 aw302) rfl rfl rfl (by decide +kernel) ⟨Nat.le_of_ble_eq_true rfl, Nat.le_of_ble_eq_true rfl⟩) (z_preV hK hP hD hS hA hT hN hfo (va_recv hK hP (ci := 1) (q0 := (3 + (5 + p1.toNatClampNeg))) rfl (w_skip (n := 3) rfl (w_beg (WDay_c z a2 m2 (vp_lt h12)))))) rfl rfl hl.1 rfl (lv_room (Nat.le_of_ble_eq_true rfl)) dX6_kind_89 ⟨Nat.zero_le _, Nat.zero_le _⟩) hP hD hS hA hfo (fun H locs hP hD hS => ?_)
            refine lv_iload hx hb dX6_kind_92 (lv_at hl 0 rfl) ?_
            obtain ⟨rfl, rfl, rfl⟩ := so3 hf
            exact ret_i hx hb hr hlocks hK hP hD hS dX6_kind_94
          · have hf := if_f c11 hf
            refine lv_aload_n hx hb dX6_kind_51 rfl (lv_at hl 0 rfl) ?_
            refine lv_bipush (v := (-6)) hx hb dX6_kind_52 (by decide) ?_
            obtain ⟨r17, y18, q19, hf⟩ := bd2_use hf
            have hfo : Foc (WFac z a1 (a2 0) (a3 0) a4 (a6 0) (a7 0) m1 ++ (WDay z a2 m2 ++ (WDay z a3 m3 ++ (WMin a4 (a5 0) m4 ++ (WDay z a5 m5 ++ (WArr z a6 m6 ++ (WLet z a7 m7))))))) (WFac z a1 (a2 0) (a3 0) a4 (a6 0) (a7 0) m1) (WFac z a1 (a2 0) (a3 0) a4 (a6 0) (a7 0) y18 ++ (WDay z a2 m2 ++ (WDay z a3 m3 ++ (WMin a4 (a5 0) m4 ++ (WDay z a5 m5 ++ (WArr z a6 m6 ++ (WLet z a7 m7))))))) (WFac z a1 (a2 0) (a3 0) a4 (a6 0) (a7 0) y18) := (foc_l foc_all)
            refine z_goI (ws1 := (WFac z a1 (a2 0) (a3 0) a4 (a6 0) (a7 0) y18 ++ (WDay z a2 m2 ++ (WDay z a3 m3 ++ (WMin a4 (a5 0) m4 ++ (WDay z a5 m5 ++ (WArr z a6 m6 ++ (WLet z a7 m7)))))))) (va_runV (As := [.int (-6)]) (rest := []) ⟨hx, hb, hml, hown, hts⟩ (tX6_refuse l D z tt (a2 0) (a3 0) a4 (a6 0) (a7 0) a1 m1 (-6) fu r17 y18 q19 _) (cwV 1 hts (gV4 aw272 aw274 aw0 aw45 aw275) rfl rfl rfl (by decide +kernel) ⟨Nat.le_of_ble_eq_true rfl, Nat.le_of_ble_eq_true rfl⟩) (z_preV hK hP hD hS hA hT hN hfo (va_recv hK hP (ci := 6) (q0 := 0) rfl rfl)) rfl rfl hl.1 rfl (lv_room (Nat.le_of_ble_eq_true rfl)) dX6_kind_54 ⟨Nat.zero_le _, Nat.zero_le _⟩) hP hD hS hA hfo (fun H locs hP hD hS => ?_)
            obtain ⟨rfl, rfl, rfl⟩ := so3 hf
            exact ret_i hx hb hr hlocks hK hP hD hS dX6_kind_57
        · have hf := if_f c10 hf
          refine lv_aload_n hx hb dX6_kind_38 rfl (lv_at hl 0 rfl) ?_
          refine lv_bipush (v := (-4)) hx hb dX6_kind_39 (by decide) ?_
          obtain ⟨r20, y21, q22, hf⟩ := bd2_use hf
          have hfo : Foc (WFac z a1 (a2 0) (a3 0) a4 (a6 0) (a7 0) m1 ++ (WDay z a2 m2 ++ (WDay z a3 m3 ++ (WMin a4 (a5 0) m4 ++ (WDay z a5 m5 ++ (WArr z a6 m6 ++ (WLet z a7 m7))))))) (WFac z a1 (a2 0) (a3 0) a4 (a6 0) (a7 0) m1) (WFac z a1 (a2 0) (a3 0) a4 (a6 0) (a7 0) y21 ++ (WDay z a2 m2 ++ (WDay z a3 m3 ++ (WMin a4 (a5 0) m4 ++ (WDay z a5 m5 ++ (WArr z a6 m6 ++ (WLet z a7 m7))))))) (WFac z a1 (a2 0) (a3 0) a4 (a6 0) (a7 0) y21) := (foc_l foc_all)
          refine z_goI (ws1 := (WFac z a1 (a2 0) (a3 0) a4 (a6 0) (a7 0) y21 ++ (WDay z a2 m2 ++ (WDay z a3 m3 ++ (WMin a4 (a5 0) m4 ++ (WDay z a5 m5 ++ (WArr z a6 m6 ++ (WLet z a7 m7)))))))) (va_runV (As := [.int (-4)]) (rest := []) ⟨hx, hb, hml, hown, hts⟩ (tX6_refuse l D z tt (a2 0) (a3 0) a4 (a6 0) (a7 0) a1 m1 (-4) fu r20 y21 q22 _) (cwV 1 hts (gV4 aw272 aw274 aw0 aw45 aw275) rfl rfl rfl (by decide +kernel) ⟨Nat.le_of_ble_eq_true rfl, Nat.le_of_ble_eq_true rfl⟩) (z_preV hK hP hD hS hA hT hN hfo (va_recv hK hP (ci := 6) (q0 := 0) rfl rfl)) rfl rfl hl.1 rfl (lv_room (Nat.le_of_ble_eq_true rfl)) dX6_kind_41 ⟨Nat.zero_le _, Nat.zero_le _⟩) hP hD hS hA hfo (fun H locs hP hD hS => ?_)
          obtain ⟨rfl, rfl, rfl⟩ := so3 hf
          exact ret_i hx hb hr hlocks hK hP hD hS dX6_kind_44
      · have hf := if_f c9 hf
        exact B27_k4 _ _ _ hP hD hS _ (lv_sub hl [0] rfl) hf
  · have hf := if_t c3 hf
    refine lv_aload_n hx hb dX6_kind_11 rfl (lv_at hl 0 rfl) ?_
    refine lv_iconst (v := (-1)) hx hb dX6_kind_12 (by decide) ?_
    obtain ⟨r23, y24, q25, hf⟩ := bd2_use hf
    have hfo : Foc (WFac z a1 (a2 0) (a3 0) a4 (a6 0) (a7 0) m1 ++ (WDay z a2 m2 ++ (WDay z a3 m3 ++ (WMin a4 (a5 0) m4 ++ (WDay z a5 m5 ++ (WArr z a6 m6 ++ (WLet z a7 m7))))))) (WFac z a1 (a2 0) (a3 0) a4 (a6 0) (a7 0) m1) (WFac z a1 (a2 0) (a3 0) a4 (a6 0) (a7 0) y24 ++ (WDay z a2 m2 ++ (WDay z a3 m3 ++ (WMin a4 (a5 0) m4 ++ (WDay z a5 m5 ++ (WArr z a6 m6 ++ (WLet z a7 m7))))))) (WFac z a1 (a2 0) (a3 0) a4 (a6 0) (a7 0) y24) := (foc_l foc_all)
    refine z_goI (ws1 := (WFac z a1 (a2 0) (a3 0) a4 (a6 0) (a7 0) y24 ++ (WDay z a2 m2 ++ (WDay z a3 m3 ++ (WMin a4 (a5 0) m4 ++ (WDay z a5 m5 ++ (WArr z a6 m6 ++ (WLet z a7 m7)))))))) (va_runV (As := [.int (-1)]) (rest := []) ⟨hx, hb, hml, hown, hts⟩ (tX6_refuse l D z tt (a2 0) (a3 0) a4 (a6 0) (a7 0) a1 m1 (-1) fu r23 y24 q25 _) (cwV 1 hts (gV4 aw272 aw274 aw0 aw45 aw275) rfl rfl rfl (by decide +kernel) ⟨Nat.le_of_ble_eq_true rfl, Nat.le_of_ble_eq_true rfl⟩) (z_preV hK hP hD hS hA hT hN hfo (va_recv hK hP (ci := 6) (q0 := 0) rfl rfl)) rfl rfl hl.1 rfl (lv_room (Nat.le_of_ble_eq_true rfl)) dX6_kind_13 ⟨Nat.zero_le _, Nat.zero_le _⟩) hP hD hS hA hfo (fun H locs hP hD hS => ?_)
    obtain ⟨rfl, rfl, rfl⟩ := so3 hf
    exact ret_i hx hb hr hlocks hK hP hD hS dX6_kind_16
def pX6_kettle (fu : Nat) (m1 : Mem) (m2 : Mem) (p1 : Int32) (p2 : Int32) : Option (Int32 × Mem) :=
  jn1 (fun (u0 : Unit) =>
    bd2 (pX6_refuse fu m1 (-1)) fun r2 y3 =>
    some (r2, y3)) fun k1 =>
  if p1 < 0 then
    k1 ()
  else
    bd (pX2_kettlesInUse fu m2) fun r6 =>
    if p1 < r6 then
      jn1 (fun (u0 : Unit) =>
        bd2 (pX6_refuse fu m1 (-2)) fun r10 y11 =>
        some (r10, y11)) fun k9 =>
      if p2 < 0 then
        k9 ()
      else
        if p2 ≤ 3 then
          ck p1 2 <|
          bd (pX3_tell fu (m2 (3 + p1.toNatClampNeg)) p2 (m2 0 6)) fun r16 =>
          some (r16, m1)
        else
          k9 ()
    else
      k1 ()
set_option maxHeartbeats 4000000 in
set_option maxRecDepth 100000 in
theorem tX6_kettle (l : Launch) (D : va_G) (z tt : Nat → Nat) (a1 : Nat → Nat) (a2 : Nat → Nat) (a3 : Nat → Nat) (a4 : Nat) (a5 : Nat → Nat) (a6 : Nat → Nat) (a7 : Nat → Nat) (m1 : Mem) (m2 : Mem) (m3 : Mem) (m4 : Mem) (m5 : Mem) (m6 : Mem) (m7 : Mem) (p1 : Int32) (p2 : Int32) (fu : Nat) (rr : Int32) (m1' : Mem) (hf : pX6_kettle fu m1 m2 p1 p2 = some (rr, m1')) : MetI l yX6_kettle wsX6_kettle ({ frames := 2, cells := 0, slots := 0, locals := 39 } : Room) D z tt ([.ref (a1 0), .int p1, .int p2] : List Value) (WFac z a1 (a2 0) (a3 0) a4 (a6 0) (a7 0) m1 ++ (WDay z a2 m2 ++ (WDay z a3 m3 ++ (WMin a4 (a5 0) m4 ++ (WDay z a5 m5 ++ (WArr z a6 m6 ++ (WLet z a7 m7))))))) rr (WFac z a1 (a2 0) (a3 0) a4 (a6 0) (a7 0) m1' ++ (WDay z a2 m2 ++ (WDay z a3 m3 ++ (WMin a4 (a5 0) m4 ++ (WDay z a5 m5 ++ (WArr z a6 m6 ++ (WLet z a7 m7))))))) := by
  intro sz
  refine Met.ofW (cc := cX6_kettle) (maxL := 3) (ret := (some .int)) (by decide) rfl ?_
  intro p e s m args below meth c s₁ B hml hv
  obtain ⟨rfl, hsz, hP, hK, hD0, hT, hN⟩ := hv
  have hx := B.exec
  have hb := B.bytes
  have hr := B.returns
  have hts : ∀ w ∈ wsA, w.before ([.ref (a1 0), .int p1, .int p2] : List Value).toArray s = true := fun w h => atoms_spec (ws := wsX6_kettle) B.pre w (List.mem_cons_of_mem _ h)
  have hown : s.vm.findClass RX6 = some m.cls := findClass_of_methodNamed B.named
  have hlocks := B.notSynchronized
  subst hsz
  have hD := hD0.self (sz := s.heap.size)
  generalize hAe : va_A (WFac z a1 (a2 0) (a3 0) a4 (a6 0) (a7 0) m1 ++ (WDay z a2 m2 ++ (WDay z a3 m3 ++ (WMin a4 (a5 0) m4 ++ (WDay z a5 m5 ++ (WArr z a6 m6 ++ (WLet z a7 m7))))))) s.heap.size = A at hD hT ⊢
  have hA : ∀ q : Nat, s.heap.size ≤ q → A q := fun q h => by rw [← hAe]; exact Or.inr h
  have hS : va_S A s.heap s.heap [] := va_S.rf
  have hl := lv_entry ([.ref (a1 0), .int p1, .int p2] : List Value) (n := 3) (Nat.le_of_ble_eq_true rfl)
  rw [lg_entry_eq]
  generalize (lg_sl ([.ref (a1 0), .int p1, .int p2] : List Value) ++ List.replicate (3 - (lg_sl ([.ref (a1 0), .int p1, .int p2] : List Value)).length) Slot.unset).toArray = ls at hl ⊢
  have hl : lv_has ls 3 [(0, .ref (a1 0)), (1, .int p1), (2, .int p2)] := hl
  unfold pX6_kettle at hf
  refine lv_iload_n hx hb dX6_kettle_0 rfl (lv_at hl 1 rfl) ?_
  obtain ⟨k1, ek1, hf⟩ := jn1_use hf
  have B15_k1 : ∀ (u0 : Unit) (H : Heap) (locs : List Loc), va_P D vwCl (WFac z a1 (a2 0) (a3 0) a4 (a6 0) (a7 0) m1 ++ (WDay z a2 m2 ++ (WDay z a3 m3 ++ (WMin a4 (a5 0) m4 ++ (WDay z a5 m5 ++ (WArr z a6 m6 ++ (WLet z a7 m7))))))) H → va_D A (WFac z a1 (a2 0) (a3 0) a4 (a6 0) (a7 0) m1 ++ (WDay z a2 m2 ++ (WDay z a3 m3 ++ (WMin a4 (a5 0) m4 ++ (WDay z a5 m5 ++ (WArr z a6 m6 ++ (WLet z a7 m7))))))) → va_S A s.heap H locs → ∀ (ls : Array Slot), lv_has ls 3 [(0, .ref (a1 0))] → k1 u0 = some (rr, m1') → GI p l e (headSpec wsX6_kettle ({ frames := 2, cells := 0, slots := 0, locals := 39 } : Room)).room s m ([.ref (a1 0), .int p1, .int p2] : List Value).toArray below meth c A D z rr (WFac z a1 (a2 0) (a3 0) a4 (a6 0) (a7 0) m1' ++ (WDay z a2 m2 ++ (WDay z a3 m3 ++ (WMin a4 (a5 0) m4 ++ (WDay z a5 m5 ++ (WArr z a6 m6 ++ (WLet z a7 m7))))))) H locs (F0 m 15 ls []) := by
    intro u0 H locs hP hD hS ls hl hf
    have hf := jn1_ap ek1 hf
    refine lv_aload_n hx hb dX6_kettle_15 rfl (lv_at hl 0 rfl) ?_
    refine lv_iconst (v := (-1)) hx hb dX6_kettle_16 (by decide) ?_
    obtain ⟨r2, y3, q4, hf⟩ := bd2_use hf
    have hfo : Foc (WFac z a1 (a2 0) (a3 0) a4 (a6 0) (a7 0) m1 ++ (WDay z a2 m2 ++ (WDay z a3 m3 ++ (WMin a4 (a5 0) m4 ++ (WDay z a5 m5 ++ (WArr z a6 m6 ++ (WLet z a7 m7))))))) (WFac z a1 (a2 0) (a3 0) a4 (a6 0) (a7 0) m1) (WFac z a1 (a2 0) (a3 0) a4 (a6 0) (a7 0) y3 ++ (WDay z a2 m2 ++ (WDay z a3 m3 ++ (WMin a4 (a5 0) m4 ++ (WDay z a5 m5 ++ (WArr z a6 m6 ++ (WLet z a7 m7))))))) (WFac z a1 (a2 0) (a3 0) a4 (a6 0) (a7 0) y3) := (foc_l foc_all)
    refine z_goI (ws1 := (WFac z a1 (a2 0) (a3 0) a4 (a6 0) (a7 0) y3 ++ (WDay z a2 m2 ++ (WDay z a3 m3 ++ (WMin a4 (a5 0) m4 ++ (WDay z a5 m5 ++ (WArr z a6 m6 ++ (WLet z a7 m7)))))))) (va_runV (As := [.int (-1)]) (rest := []) ⟨hx, hb, hml, hown, hts⟩ (tX6_refuse l D z tt (a2 0) (a3 0) a4 (a6 0) (a7 0) a1 m1 (-1) fu r2 y3 q4 _) (cwV 1 hts (gV4 aw272 aw274 aw0 aw45 aw275) rfl rfl rfl (by decide +kernel) ⟨Nat.le_of_ble_eq_true rfl, Nat.le_of_ble_eq_true rfl⟩) (z_preV hK hP hD hS hA hT hN hfo (va_recv hK hP (ci := 6) (q0 := 0) rfl rfl)) rfl rfl hl.1 rfl (lv_room (Nat.le_of_ble_eq_true rfl)) dX6_kettle_17 ⟨Nat.zero_le _, Nat.zero_le _⟩) hP hD hS hA hfo (fun H locs hP hD hS => ?_)
    obtain ⟨rfl, rfl⟩ := so2 hf
    exact ret_i hx hb hr hlocks hK hP hD hS dX6_kettle_20
  refine lv_if_lt (tgt := 15) hx hb dX6_kettle_1 (by decide) (fun c5 => ?_) (fun c5 => ?_)
  · have hf := if_t c5 hf
    exact B15_k1 _ _ _ hP hD hS _ (lv_sub hl [0] rfl) hf
  · have hf := if_f c5 hf
    refine lv_iload_n hx hb dX6_kettle_4 rfl (lv_at hl 1 rfl) ?_
    refine lv_aload_n hx hb dX6_kettle_5 rfl (lv_at hl 0 rfl) ?_
    refine va_get (D := D) (ci := 6) (v := .ref (a2 0)) (C := RX6) (T := TX6) (N := 9) hx hb hts iX6 hown hK hP 0 rfl rfl 0 (by decide) (hts _ aw240) (fun _ h9 => h9) rfl dX6_kettle_6 ?_
    obtain ⟨r6, q7, hf⟩ := bd_use hf
    have hfo : Foc (WFac z a1 (a2 0) (a3 0) a4 (a6 0) (a7 0) m1 ++ (WDay z a2 m2 ++ (WDay z a3 m3 ++ (WMin a4 (a5 0) m4 ++ (WDay z a5 m5 ++ (WArr z a6 m6 ++ (WLet z a7 m7))))))) (WDay z a2 m2) (WFac z a1 (a2 0) (a3 0) a4 (a6 0) (a7 0) m1 ++ (WDay z a2 m2 ++ (WDay z a3 m3 ++ (WMin a4 (a5 0) m4 ++ (WDay z a5 m5 ++ (WArr z a6 m6 ++ (WLet z a7 m7))))))) (WDay z a2 m2) := (foc_r (foc_l foc_all))
    refine z_goI (ws1 := (WFac z a1 (a2 0) (a3 0) a4 (a6 0) (a7 0) m1 ++ (WDay z a2 m2 ++ (WDay z a3 m3 ++ (WMin a4 (a5 0) m4 ++ (WDay z a5 m5 ++ (WArr z a6 m6 ++ (WLet z a7 m7)))))))) (va_runV (As := []) (rest := [.int p1]) ⟨hx, hb, hml, hown, hts⟩ (tX2_kettlesInUse l D z tt a2 m2  fu r6 q7 _) (cwV 0 hts (gV4 aw406 aw348 aw349 aw46 aw350) rfl rfl rfl (by decide +kernel) ⟨Nat.le_of_ble_eq_true rfl, Nat.le_of_ble_eq_true rfl⟩) (z_preV hK hP hD hS hA hT hN hfo (va_recv hK hP (ci := 2) (q0 := 3) rfl rfl)) rfl rfl hl.1 rfl (lv_room (Nat.le_of_ble_eq_true rfl)) dX6_kettle_9 ⟨Nat.zero_le _, Nat.zero_le _⟩) hP hD hS hA hfo (fun H locs hP hD hS => ?_)
    refine lv_icmp_lt (tgt := 21) hx hb dX6_kettle_12 (by decide) (fun c8 => ?_) (fun c8 => ?_)
    · have hf := if_t c8 hf
      refine lv_iload_n hx hb dX6_kettle_21 rfl (lv_at hl 2 rfl) ?_
      obtain ⟨k9, ek9, hf⟩ := jn1_use hf
      have B30_k9 : ∀ (u0 : Unit) (H : Heap) (locs : List Loc), va_P D vwCl (WFac z a1 (a2 0) (a3 0) a4 (a6 0) (a7 0) m1 ++ (WDay z a2 m2 ++ (WDay z a3 m3 ++ (WMin a4 (a5 0) m4 ++ (WDay z a5 m5 ++ (WArr z a6 m6 ++ (WLet z a7 m7))))))) H → va_D A (WFac z a1 (a2 0) (a3 0) a4 (a6 0) (a7 0) m1 ++ (WDay z a2 m2 ++ (WDay z a3 m3 ++ (WMin a4 (a5 0) m4 ++ (WDay z a5 m5 ++ (WArr z a6 m6 ++ (WLet z a7 m7))))))) → va_S A s.heap H locs → ∀ (ls : Array Slot), lv_has ls 3 [(0, .ref (a1 0))] → k9 u0 = some (rr, m1') → GI p l e (headSpec wsX6_kettle ({ frames := 2, cells := 0, slots := 0, locals := 39 } : Room)).room s m ([.ref (a1 0), .int p1, .int p2] : List Value).toArray below meth c A D z rr (WFac z a1 (a2 0) (a3 0) a4 (a6 0) (a7 0) m1' ++ (WDay z a2 m2 ++ (WDay z a3 m3 ++ (WMin a4 (a5 0) m4 ++ (WDay z a5 m5 ++ (WArr z a6 m6 ++ (WLet z a7 m7))))))) H locs (F0 m 30 ls []) := by
        intro u0 H locs hP hD hS ls hl hf
        have hf := jn1_ap ek9 hf
        refine lv_aload_n hx hb dX6_kettle_30 rfl (lv_at hl 0 rfl) ?_
        refine lv_bipush (v := (-2)) hx hb dX6_kettle_31 (by decide) ?_
        obtain ⟨r10, y11, q12, hf⟩ := bd2_use hf
        have hfo : Foc (WFac z a1 (a2 0) (a3 0) a4 (a6 0) (a7 0) m1 ++ (WDay z a2 m2 ++ (WDay z a3 m3 ++ (WMin a4 (a5 0) m4 ++ (WDay z a5 m5 ++ (WArr z a6 m6 ++ (WLet z a7 m7))))))) (WFac z a1 (a2 0) (a3 0) a4 (a6 0) (a7 0) m1) (WFac z a1 (a2 0) (a3 0) a4 (a6 0) (a7 0) y11 ++ (WDay z a2 m2 ++ (WDay z a3 m3 ++ (WMin a4 (a5 0) m4 ++ (WDay z a5 m5 ++ (WArr z a6 m6 ++ (WLet z a7 m7))))))) (WFac z a1 (a2 0) (a3 0) a4 (a6 0) (a7 0) y11) := (foc_l foc_all)
        refine z_goI (ws1 := (WFac z a1 (a2 0) (a3 0) a4 (a6 0) (a7 0) y11 ++ (WDay z a2 m2 ++ (WDay z a3 m3 ++ (WMin a4 (a5 0) m4 ++ (WDay z a5 m5 ++ (WArr z a6 m6 ++ (WLet z a7 m7)))))))) (va_runV (As := [.int (-2)]) (rest := []) ⟨hx, hb, hml, hown, hts⟩ (tX6_refuse l D z tt (a2 0) (a3 0) a4 (a6 0) (a7 0) a1 m1 (-2) fu r10 y11 q12 _) (cwV 1 hts (gV4 aw272 aw274 aw0 aw45 aw275) rfl rfl rfl (by decide +kernel) ⟨Nat.le_of_ble_eq_true rfl, Nat.le_of_ble_eq_true rfl⟩) (z_preV hK hP hD hS hA hT hN hfo (va_recv hK hP (ci := 6) (q0 := 0) rfl rfl)) rfl rfl hl.1 rfl (lv_room (Nat.le_of_ble_eq_true rfl)) dX6_kettle_33 ⟨Nat.zero_le _, Nat.zero_le _⟩) hP hD hS hA hfo (fun H locs hP hD hS => ?_)
        obtain ⟨rfl, rfl⟩ := so2 hf
        exact ret_i hx hb hr hlocks hK hP hD hS dX6_kettle_36
      refine lv_if_lt (tgt := 30) hx hb dX6_kettle_22 (by decide) (fun c13 => ?_) (fun c13 => ?_)
      · have hf := if_t c13 hf
        exact B30_k9 _ _ _ hP hD hS _ (lv_sub hl [0] rfl) hf
      · have hf := if_f c13 hf
        refine lv_iload_n hx hb dX6_kettle_25 rfl (lv_at hl 2 rfl) ?_
        refine lv_iconst (v := 3) hx hb dX6_kettle_26 (by decide) ?_
        refine lv_icmp_le (tgt := 37) hx hb dX6_kettle_27 (by decide) (fun c14 => ?_) (fun c14 => ?_)
        · have hf := if_t c14 hf
          refine lv_aload_n hx hb dX6_kettle_37 rfl (lv_at hl 0 rfl) ?_
          refine va_get (D := D) (ci := 6) (v := .ref (a2 0)) (C := RX6) (T := TX6) (N := 9) hx hb hts iX6 hown hK hP 0 rfl rfl 0 (by decide) (hts _ aw240) (fun _ h9 => h9) rfl dX6_kettle_38 ?_
          refine va_get (D := D) (ci := 2) (v := .ref (a2 14)) (C := RX2) (T := TX2) (N := 8) hx hb hts iX2 hown hK hP 3 rfl rfl 2 (by decide) (hts _ aw160) (fun _ h9 => h9) rfl dX6_kettle_41 ?_
          refine lv_iload_n hx hb dX6_kettle_44 rfl (lv_at hl 1 rfl) ?_
          obtain ⟨h15, hf⟩ := ck_use hf
          refine z_ald hx hb hK hP 17 2 (C := "FilledForOne$Kettle") (g := (fun j => a2 (3 + j))) rfl rfl h15 dX6_kettle_45 ?_
          refine lv_iload_n hx hb dX6_kettle_46 rfl (lv_at hl 2 rfl) ?_
          refine lv_aload_n hx hb dX6_kettle_47 rfl (lv_at hl 0 rfl) ?_
          refine va_get (D := D) (ci := 6) (v := .ref (a2 0)) (C := RX6) (T := TX6) (N := 9) hx hb hts iX6 hown hK hP 0 rfl rfl 0 (by decide) (hts _ aw240) (fun _ h9 => h9) rfl dX6_kettle_48 ?_
          refine va_get (D := D) (ci := 2) (v := .int (m2 0 6)) (C := RX2) (T := TX2) (N := 8) hx hb hts iX2 hown hK hP 3 rfl rfl 6 (by decide) (hts _ aw171) (fun _ h9 => h9) rfl dX6_kettle_51 ?_
          obtain ⟨r16, q17, hf⟩ := bd_use hf
          have hfo : Foc (WFac z a1 (a2 0) (a3 0) a4 (a6 0) (a7 0) m1 ++ (WDay z a2 m2 ++ (WDay z a3 m3 ++ (WMin a4 (a5 0) m4 ++ (WDay z a5 m5 ++ (WArr z a6 m6 ++ (WLet z a7 m7))))))) (WKet (a2 (3 + p1.toNatClampNeg)) (m2 (3 + p1.toNatClampNeg))) (WFac z a1 (a2 0) (a3 0) a4 (a6 0) (a7 0) m1 ++ (WDay z a2 m2 ++ (WDay z a3 m3 ++ (WMin a4 (a5 0) m4 ++ (WDay z a5 m5 ++ (WArr z a6 m6 ++ (WLet z a7 m7))))))) (WKet (a2 (3 + p1.toNatClampNeg)) (m2 (3 + p1.toNatClampNeg))) := (foc_r (foc_l (foc_els (WDay_k z a2 m2 (vp_lt h15)))))
          refine z_goI (ws1 := (WFac z a1 (a2 0) (a3 0) a4 (a6 0) (a7 0) m1 ++ (WDay z a2 m2 ++ (WDay z a3 m3 ++ (WMin a4 (a5 0) m4 ++ (WDay z a5 m5 ++ (WArr z a6 m6 ++ (WLet z a7 m7)))))))) (va_runV (As := [.int p2, .int (m2 0 6)]) (rest := []) ⟨hx, hb, hml, hown, hts⟩ (tX3_tell l D z tt (a2 (3 + p1.toNatClampNeg)) (m2 (3 + p1.toNatClampNeg)) p2 (m2 0 6) fu r16 q17 _) (cwV 2 hts (gV4 aw407 aw408 aw409 aw48 aw410) rfl rfl rfl (by decide +kernel) ⟨Nat.le_of_ble_eq_true rfl, Nat.le_of_ble_eq_true rfl⟩) (z_preV hK hP hD hS hA hT hN hfo (va_recv hK hP (ci := 3) (q0 := (3 + (3 + p1.toNatClampNeg))) rfl (w_skip (n := 3) rfl (w_beg (WDay_k z a2 m2 (vp_lt h15)))))) rfl rfl hl.1 rfl (lv_room (Nat.le_of_ble_eq_true rfl)) dX6_kettle_54 ⟨Nat.zero_le _, Nat.zero_le _⟩) hP hD hS hA hfo (fun H locs hP hD hS => ?_)
          obtain ⟨rfl, rfl⟩ := so2 hf
          exact ret_i hx hb hr hlocks hK hP hD hS dX6_kettle_57
        · have hf := if_f c14 hf
          exact B30_k9 _ _ _ hP hD hS _ (lv_sub hl [0] rfl) hf
    · have hf := if_f c8 hf
      exact B15_k1 _ _ _ hP hD hS _ (lv_sub hl [0] rfl) hf
def pX6_set (fu : Nat) (m1 : Mem) (m2 : Mem) (p1 : Int32) (p2 : Int32) : Option (Int32 × Mem × Mem) :=
  bd (pX2_settingRefusal fu m2 p1 p2) fun r1 =>
  if r1 = 0 then
    bd2 (pX2_change fu m2 p1 p2) fun r4 y5 =>
    some (r4, m1, y5)
  else
    bd2 (pX6_refuse fu m1 r1) fun r7 y8 =>
    some (r7, y8, m2)
set_option maxHeartbeats 4000000 in
set_option maxRecDepth 100000 in
theorem tX6_set (l : Launch) (D : va_G) (z tt : Nat → Nat) (a1 : Nat → Nat) (a2 : Nat → Nat) (a3 : Nat → Nat) (a4 : Nat) (a5 : Nat → Nat) (a6 : Nat → Nat) (a7 : Nat → Nat) (m1 : Mem) (m2 : Mem) (m3 : Mem) (m4 : Mem) (m5 : Mem) (m6 : Mem) (m7 : Mem) (p1 : Int32) (p2 : Int32) (fu : Nat) (rr : Int32) (m1' : Mem) (m2' : Mem) (hf : pX6_set fu m1 m2 p1 p2 = some (rr, m1', m2')) : MetI l yX6_set wsX6_set ({ frames := 3, cells := 0, slots := 0, locals := 66 } : Room) D z tt ([.ref (a1 0), .int p1, .int p2] : List Value) (WFac z a1 (a2 0) (a3 0) a4 (a6 0) (a7 0) m1 ++ (WDay z a2 m2 ++ (WDay z a3 m3 ++ (WMin a4 (a5 0) m4 ++ (WDay z a5 m5 ++ (WArr z a6 m6 ++ (WLet z a7 m7))))))) rr (WFac z a1 (a2 0) (a3 0) a4 (a6 0) (a7 0) m1' ++ (WDay z a2 m2' ++ (WDay z a3 m3 ++ (WMin a4 (a5 0) m4 ++ (WDay z a5 m5 ++ (WArr z a6 m6 ++ (WLet z a7 m7))))))) := by
  intro sz
  refine Met.ofW (cc := cX6_set) (maxL := 4) (ret := (some .int)) (by decide) rfl ?_
  intro p e s m args below meth c s₁ B hml hv
  obtain ⟨rfl, hsz, hP, hK, hD0, hT, hN⟩ := hv
  have hx := B.exec
  have hb := B.bytes
  have hr := B.returns
  have hts : ∀ w ∈ wsA, w.before ([.ref (a1 0), .int p1, .int p2] : List Value).toArray s = true := fun w h => atoms_spec (ws := wsX6_set) B.pre w (List.mem_cons_of_mem _ h)
  have hown : s.vm.findClass RX6 = some m.cls := findClass_of_methodNamed B.named
  have hlocks := B.notSynchronized
  subst hsz
  have hD := hD0.self (sz := s.heap.size)
  generalize hAe : va_A (WFac z a1 (a2 0) (a3 0) a4 (a6 0) (a7 0) m1 ++ (WDay z a2 m2 ++ (WDay z a3 m3 ++ (WMin a4 (a5 0) m4 ++ (WDay z a5 m5 ++ (WArr z a6 m6 ++ (WLet z a7 m7))))))) s.heap.size = A at hD hT ⊢
  have hA : ∀ q : Nat, s.heap.size ≤ q → A q := fun q h => by rw [← hAe]; exact Or.inr h
  have hS : va_S A s.heap s.heap [] := va_S.rf
  have hl := lv_entry ([.ref (a1 0), .int p1, .int p2] : List Value) (n := 4) (Nat.le_of_ble_eq_true rfl)
  rw [lg_entry_eq]
  generalize (lg_sl ([.ref (a1 0), .int p1, .int p2] : List Value) ++ List.replicate (4 - (lg_sl ([.ref (a1 0), .int p1, .int p2] : List Value)).length) Slot.unset).toArray = ls at hl ⊢
  have hl : lv_has ls 4 [(0, .ref (a1 0)), (1, .int p1), (2, .int p2)] := hl
  unfold pX6_set at hf
  refine lv_aload_n hx hb dX6_set_0 rfl (lv_at hl 0 rfl) ?_
  refine va_get (D := D) (ci := 6) (v := .ref (a2 0)) (C := RX6) (T := TX6) (N := 9) hx hb hts iX6 hown hK hP 0 rfl rfl 0 (by decide) (hts _ aw240) (fun _ h9 => h9) rfl dX6_set_1 ?_
  refine lv_iload_n hx hb dX6_set_4 rfl (lv_at hl 1 rfl) ?_
  refine lv_iload_n hx hb dX6_set_5 rfl (lv_at hl 2 rfl) ?_
  obtain ⟨r1, q2, hf⟩ := bd_use hf
  have hfo : Foc (WFac z a1 (a2 0) (a3 0) a4 (a6 0) (a7 0) m1 ++ (WDay z a2 m2 ++ (WDay z a3 m3 ++ (WMin a4 (a5 0) m4 ++ (WDay z a5 m5 ++ (WArr z a6 m6 ++ (WLet z a7 m7))))))) (WDay z a2 m2) (WFac z a1 (a2 0) (a3 0) a4 (a6 0) (a7 0) m1 ++ (WDay z a2 m2 ++ (WDay z a3 m3 ++ (WMin a4 (a5 0) m4 ++ (WDay z a5 m5 ++ (WArr z a6 m6 ++ (WLet z a7 m7))))))) (WDay z a2 m2) := (foc_r (foc_l foc_all))
  refine z_goI (ws1 := (WFac z a1 (a2 0) (a3 0) a4 (a6 0) (a7 0) m1 ++ (WDay z a2 m2 ++ (WDay z a3 m3 ++ (WMin a4 (a5 0) m4 ++ (WDay z a5 m5 ++ (WArr z a6 m6 ++ (WLet z a7 m7)))))))) (va_runV (As := [.int p1, .int p2]) (rest := []) ⟨hx, hb, hml, hown, hts⟩ (tX2_settingRefusal l D z tt a2 m2 p1 p2 fu r1 q2 _) (cwV 2 hts (gV4 aw416 aw336 aw337 aw46 aw338) rfl rfl rfl (by decide +kernel) ⟨Nat.le_of_ble_eq_true rfl, Nat.le_of_ble_eq_true rfl⟩) (z_preV hK hP hD hS hA hT hN hfo (va_recv hK hP (ci := 2) (q0 := 3) rfl rfl)) rfl rfl hl.1 rfl (lv_room (Nat.le_of_ble_eq_true rfl)) dX6_set_6 ⟨Nat.zero_le _, Nat.zero_le _⟩) hP hD hS hA hfo (fun H locs hP hD hS => ?_)
  refine lv_istore_n (lv' := [(3, .int r1), (0, .ref (a1 0)), (1, .int p1), (2, .int p2)]) hx hb dX6_set_9 rfl hl (by decide) rfl (fun ls hl => ?_)
  refine lv_iload_n hx hb dX6_set_10 rfl (lv_at hl 0 rfl) ?_
  refine lv_if_eq (tgt := 22) hx hb dX6_set_11 (by decide) (fun c3 => ?_) (fun c3 => ?_)
  · have hf := if_t c3 hf
    refine lv_aload_n hx hb dX6_set_22 rfl (lv_at hl 1 rfl) ?_
    refine va_get (D := D) (ci := 6) (v := .ref (a2 0)) (C := RX6) (T := TX6) (N := 9) hx hb hts iX6 hown hK hP 0 rfl rfl 0 (by decide) (hts _ aw240) (fun _ h9 => h9) rfl dX6_set_23 ?_
    refine lv_iload_n hx hb dX6_set_26 rfl (lv_at hl 2 rfl) ?_
    refine lv_iload_n hx hb dX6_set_27 rfl (lv_at hl 3 rfl) ?_
    obtain ⟨r4, y5, q6, hf⟩ := bd2_use hf
    have hfo : Foc (WFac z a1 (a2 0) (a3 0) a4 (a6 0) (a7 0) m1 ++ (WDay z a2 m2 ++ (WDay z a3 m3 ++ (WMin a4 (a5 0) m4 ++ (WDay z a5 m5 ++ (WArr z a6 m6 ++ (WLet z a7 m7))))))) (WDay z a2 m2) (WFac z a1 (a2 0) (a3 0) a4 (a6 0) (a7 0) m1 ++ (WDay z a2 y5 ++ (WDay z a3 m3 ++ (WMin a4 (a5 0) m4 ++ (WDay z a5 m5 ++ (WArr z a6 m6 ++ (WLet z a7 m7))))))) (WDay z a2 y5) := (foc_r (foc_l foc_all))
    refine z_goI (ws1 := (WFac z a1 (a2 0) (a3 0) a4 (a6 0) (a7 0) m1 ++ (WDay z a2 y5 ++ (WDay z a3 m3 ++ (WMin a4 (a5 0) m4 ++ (WDay z a5 m5 ++ (WArr z a6 m6 ++ (WLet z a7 m7)))))))) (va_runV (As := [.int p1, .int p2]) (rest := []) ⟨hx, hb, hml, hown, hts⟩ (tX2_change l D z tt a2 m2 p1 p2 fu r4 y5 q6 _) (cwV 2 hts (gV4 aw417 aw355 aw356 aw46 aw357) rfl rfl rfl (by decide +kernel) ⟨Nat.le_of_ble_eq_true rfl, Nat.le_of_ble_eq_true rfl⟩) (z_preV hK hP hD hS hA hT hN hfo (va_recv hK hP (ci := 2) (q0 := 3) rfl rfl)) rfl rfl hl.1 rfl (lv_room (Nat.le_of_ble_eq_true rfl)) dX6_set_28 ⟨Nat.zero_le _, Nat.zero_le _⟩) hP hD hS hA hfo (fun H locs hP hD hS => ?_)
    obtain ⟨rfl, rfl, rfl⟩ := so3 hf
    exact ret_i hx hb hr hlocks hK hP hD hS dX6_set_31
  · have hf := if_f c3 hf
    refine lv_aload_n hx hb dX6_set_14 rfl (lv_at hl 1 rfl) ?_
    refine lv_iload_n hx hb dX6_set_15 rfl (lv_at hl 0 rfl) ?_
    obtain ⟨r7, y8, q9, hf⟩ := bd2_use hf
    have hfo : Foc (WFac z a1 (a2 0) (a3 0) a4 (a6 0) (a7 0) m1 ++ (WDay z a2 m2 ++ (WDay z a3 m3 ++ (WMin a4 (a5 0) m4 ++ (WDay z a5 m5 ++ (WArr z a6 m6 ++ (WLet z a7 m7))))))) (WFac z a1 (a2 0) (a3 0) a4 (a6 0) (a7 0) m1) (WFac z a1 (a2 0) (a3 0) a4 (a6 0) (a7 0) y8 ++ (WDay z a2 m2 ++ (WDay z a3 m3 ++ (WMin a4 (a5 0) m4 ++ (WDay z a5 m5 ++ (WArr z a6 m6 ++ (WLet z a7 m7))))))) (WFac z a1 (a2 0) (a3 0) a4 (a6 0) (a7 0) y8) := (foc_l foc_all)
    refine z_goI (ws1 := (WFac z a1 (a2 0) (a3 0) a4 (a6 0) (a7 0) y8 ++ (WDay z a2 m2 ++ (WDay z a3 m3 ++ (WMin a4 (a5 0) m4 ++ (WDay z a5 m5 ++ (WArr z a6 m6 ++ (WLet z a7 m7)))))))) (va_runV (As := [.int r1]) (rest := []) ⟨hx, hb, hml, hown, hts⟩ (tX6_refuse l D z tt (a2 0) (a3 0) a4 (a6 0) (a7 0) a1 m1 r1 fu r7 y8 q9 _) (cwV 1 hts (gV4 aw272 aw274 aw0 aw45 aw275) rfl rfl rfl (by decide +kernel) ⟨Nat.le_of_ble_eq_true rfl, Nat.le_of_ble_eq_true rfl⟩) (z_preV hK hP hD hS hA hT hN hfo (va_recv hK hP (ci := 6) (q0 := 0) rfl rfl)) rfl rfl hl.1 rfl (lv_room (Nat.le_of_ble_eq_true rfl)) dX6_set_16 ⟨Nat.zero_le _, Nat.zero_le _⟩) hP hD hS hA hfo (fun H locs hP hD hS => ?_)
    refine lv_goto (tgt := 31) hx hb dX6_set_19 (by decide) ?_
    obtain ⟨rfl, rfl, rfl⟩ := so3 hf
    exact ret_i hx hb hr hlocks hK hP hD hS dX6_set_31
def pX6_go (fu : Nat) (m1 : Mem) (m2 : Mem) (p1 : Int32) : Option (Int32 × Mem × Mem) :=
  if 1 ≤ p1 then
    if p1 ≤ 60 then
      bd (pX2_isOver fu m2) fun r3 =>
      if r3 = 0 then
        bd (pX2_pass fu m2 p1) fun y6 =>
        some ((y6 0 6), m1, y6)
      else
        bd2 (pX6_refuse fu m1 (-3)) fun r8 y9 =>
        some (r8, y9, m2)
    else
      bd2 (pX6_refuse fu m1 (-6)) fun r11 y12 =>
      some (r11, y12, m2)
  else
    bd2 (pX6_refuse fu m1 (-4)) fun r14 y15 =>
    some (r14, y15, m2)
set_option maxHeartbeats 4000000 in
set_option maxRecDepth 100000 in
theorem tX6_go (l : Launch) (D : va_G) (z tt : Nat → Nat) (a1 : Nat → Nat) (a2 : Nat → Nat) (a3 : Nat → Nat) (a4 : Nat) (a5 : Nat → Nat) (a6 : Nat → Nat) (a7 : Nat → Nat) (m1 : Mem) (m2 : Mem) (m3 : Mem) (m4 : Mem) (m5 : Mem) (m6 : Mem) (m7 : Mem) (p1 : Int32) (fu : Nat) (rr : Int32) (m1' : Mem) (m2' : Mem) (hf : pX6_go fu m1 m2 p1 = some (rr, m1', m2')) : MetI l yX6_go wsX6_go ({ frames := 5, cells := 0, slots := 0, locals := 113 } : Room) D z tt ([.ref (a1 0), .int p1] : List Value) (WFac z a1 (a2 0) (a3 0) a4 (a6 0) (a7 0) m1 ++ (WDay z a2 m2 ++ (WDay z a3 m3 ++ (WMin a4 (a5 0) m4 ++ (WDay z a5 m5 ++ (WArr z a6 m6 ++ (WLet z a7 m7))))))) rr (WFac z a1 (a2 0) (a3 0) a4 (a6 0) (a7 0) m1' ++ (WDay z a2 m2' ++ (WDay z a3 m3 ++ (WMin a4 (a5 0) m4 ++ (WDay z a5 m5 ++ (WArr z a6 m6 ++ (WLet z a7 m7))))))) := by
  intro sz
  refine Met.ofW (cc := cX6_go) (maxL := 2) (ret := (some .int)) (by decide) rfl ?_
  intro p e s m args below meth c s₁ B hml hv
  obtain ⟨rfl, hsz, hP, hK, hD0, hT, hN⟩ := hv
  have hx := B.exec
  have hb := B.bytes
  have hr := B.returns
  have hts : ∀ w ∈ wsA, w.before ([.ref (a1 0), .int p1] : List Value).toArray s = true := fun w h => atoms_spec (ws := wsX6_go) B.pre w (List.mem_cons_of_mem _ h)
  have hown : s.vm.findClass RX6 = some m.cls := findClass_of_methodNamed B.named
  have hlocks := B.notSynchronized
  subst hsz
  have hD := hD0.self (sz := s.heap.size)
  generalize hAe : va_A (WFac z a1 (a2 0) (a3 0) a4 (a6 0) (a7 0) m1 ++ (WDay z a2 m2 ++ (WDay z a3 m3 ++ (WMin a4 (a5 0) m4 ++ (WDay z a5 m5 ++ (WArr z a6 m6 ++ (WLet z a7 m7))))))) s.heap.size = A at hD hT ⊢
  have hA : ∀ q : Nat, s.heap.size ≤ q → A q := fun q h => by rw [← hAe]; exact Or.inr h
  have hS : va_S A s.heap s.heap [] := va_S.rf
  have hl := lv_entry ([.ref (a1 0), .int p1] : List Value) (n := 2) (Nat.le_of_ble_eq_true rfl)
  rw [lg_entry_eq]
  generalize (lg_sl ([.ref (a1 0), .int p1] : List Value) ++ List.replicate (2 - (lg_sl ([.ref (a1 0), .int p1] : List Value)).length) Slot.unset).toArray = ls at hl ⊢
  have hl : lv_has ls 2 [(0, .ref (a1 0)), (1, .int p1)] := hl
  unfold pX6_go at hf
  refine lv_iload_n hx hb dX6_go_0 rfl (lv_at hl 1 rfl) ?_
  refine lv_iconst (v := 1) hx hb dX6_go_1 (by decide) ?_
  refine lv_icmp_ge (tgt := 12) hx hb dX6_go_2 (by decide) (fun c1 => ?_) (fun c1 => ?_)
  · have hf := if_t c1 hf
    refine lv_iload_n hx hb dX6_go_12 rfl (lv_at hl 1 rfl) ?_
    refine lv_bipush (v := 60) hx hb dX6_go_13 (by decide) ?_
    refine lv_icmp_le (tgt := 25) hx hb dX6_go_15 (by decide) (fun c2 => ?_) (fun c2 => ?_)
    · have hf := if_t c2 hf
      refine lv_aload_n hx hb dX6_go_25 rfl (lv_at hl 0 rfl) ?_
      refine va_get (D := D) (ci := 6) (v := .ref (a2 0)) (C := RX6) (T := TX6) (N := 9) hx hb hts iX6 hown hK hP 0 rfl rfl 0 (by decide) (hts _ aw240) (fun _ h9 => h9) rfl dX6_go_26 ?_
      obtain ⟨r3, q4, hf⟩ := bd_use hf
      have hfo : Foc (WFac z a1 (a2 0) (a3 0) a4 (a6 0) (a7 0) m1 ++ (WDay z a2 m2 ++ (WDay z a3 m3 ++ (WMin a4 (a5 0) m4 ++ (WDay z a5 m5 ++ (WArr z a6 m6 ++ (WLet z a7 m7))))))) (WDay z a2 m2) (WFac z a1 (a2 0) (a3 0) a4 (a6 0) (a7 0) m1 ++ (WDay z a2 m2 ++ (WDay z a3 m3 ++ (WMin a4 (a5 0) m4 ++ (WDay z a5 m5 ++ (WArr z a6 m6 ++ (WLet z a7 m7))))))) (WDay z a2 m2) := (foc_r (foc_l foc_all))
      refine z_goI (ws1 := (WFac z a1 (a2 0) (a3 0) a4 (a6 0) (a7 0) m1 ++ (WDay z a2 m2 ++ (WDay z a3 m3 ++ (WMin a4 (a5 0) m4 ++ (WDay z a5 m5 ++ (WArr z a6 m6 ++ (WLet z a7 m7)))))))) (va_runV (As := []) (rest := []) ⟨hx, hb, hml, hown, hts⟩ (tX2_isOver l D z tt a2 m2  fu r3 q4 _) (cwV 0 hts (gV4 aw422 aw423 aw424 aw46 aw425) rfl rfl rfl (by decide +kernel) ⟨Nat.le_of_ble_eq_true rfl, Nat.le_of_ble_eq_true rfl⟩) (z_preV hK hP hD hS hA hT hN hfo (va_recv hK hP (ci := 2) (q0 := 3) rfl rfl)) rfl rfl hl.1 rfl (lv_room (Nat.le_of_ble_eq_true rfl)) dX6_go_29 ⟨Nat.zero_le _, Nat.zero_le _⟩) hP hD hS hA hfo (fun H locs hP hD hS => ?_)
      refine lv_if_eq (tgt := 42) hx hb dX6_go_32 (by decide) (fun c5 => ?_) (fun c5 => ?_)
      · have hf := if_t c5 hf
        refine lv_aload_n hx hb dX6_go_42 rfl (lv_at hl 0 rfl) ?_
        refine va_get (D := D) (ci := 6) (v := .ref (a2 0)) (C := RX6) (T := TX6) (N := 9) hx hb hts iX6 hown hK hP 0 rfl rfl 0 (by decide) (hts _ aw240) (fun _ h9 => h9) rfl dX6_go_43 ?_
        refine lv_iload_n hx hb dX6_go_46 rfl (lv_at hl 1 rfl) ?_
        obtain ⟨y6, q7, hf⟩ := bd_use hf
        have hfo : Foc (WFac z a1 (a2 0) (a3 0) a4 (a6 0) (a7 0) m1 ++ (WDay z a2 m2 ++ (WDay z a3 m3 ++ (WMin a4 (a5 0) m4 ++ (WDay z a5 m5 ++ (WArr z a6 m6 ++ (WLet z a7 m7))))))) (WDay z a2 m2) (WFac z a1 (a2 0) (a3 0) a4 (a6 0) (a7 0) m1 ++ (WDay z a2 y6 ++ (WDay z a3 m3 ++ (WMin a4 (a5 0) m4 ++ (WDay z a5 m5 ++ (WArr z a6 m6 ++ (WLet z a7 m7))))))) (WDay z a2 y6) := (foc_r (foc_l foc_all))
        refine z_goV (ws1 := (WFac z a1 (a2 0) (a3 0) a4 (a6 0) (a7 0) m1 ++ (WDay z a2 y6 ++ (WDay z a3 m3 ++ (WMin a4 (a5 0) m4 ++ (WDay z a5 m5 ++ (WArr z a6 m6 ++ (WLet z a7 m7)))))))) (va_runV (As := [.int p1]) (rest := []) ⟨hx, hb, hml, hown, hts⟩ (tX2_pass l D z tt a2 m2 p1 fu y6 q7 _) (cwV 1 hts (gV4 aw438 aw439 aw440 aw46 aw441) rfl rfl rfl (by decide +kernel) ⟨Nat.le_of_ble_eq_true rfl, Nat.le_of_ble_eq_true rfl⟩) (z_preV hK hP hD hS hA hT hN hfo (va_recv hK hP (ci := 2) (q0 := 3) rfl rfl)) rfl rfl hl.1 rfl (lv_room (Nat.le_of_ble_eq_true rfl)) dX6_go_47 ⟨Nat.zero_le _, Nat.zero_le _⟩) hP hD hS hA hfo (fun H locs hP hD hS => ?_)
        refine lv_aload_n hx hb dX6_go_50 rfl (lv_at hl 0 rfl) ?_
        refine va_get (D := D) (ci := 6) (v := .ref (a2 0)) (C := RX6) (T := TX6) (N := 9) hx hb hts iX6 hown hK hP 0 rfl rfl 0 (by decide) (hts _ aw240) (fun _ h9 => h9) rfl dX6_go_51 ?_
        refine va_get (D := D) (ci := 2) (v := .int (y6 0 6)) (C := RX2) (T := TX2) (N := 8) hx hb hts iX2 hown hK hP 3 rfl rfl 6 (by decide) (hts _ aw171) (fun _ h9 => h9) rfl dX6_go_54 ?_
        obtain ⟨rfl, rfl, rfl⟩ := so3 hf
        exact ret_i hx hb hr hlocks hK hP hD hS dX6_go_57
      · have hf := if_f c5 hf
        refine lv_aload_n hx hb dX6_go_35 rfl (lv_at hl 0 rfl) ?_
        refine lv_bipush (v := (-3)) hx hb dX6_go_36 (by decide) ?_
        obtain ⟨r8, y9, q10, hf⟩ := bd2_use hf
        have hfo : Foc (WFac z a1 (a2 0) (a3 0) a4 (a6 0) (a7 0) m1 ++ (WDay z a2 m2 ++ (WDay z a3 m3 ++ (WMin a4 (a5 0) m4 ++ (WDay z a5 m5 ++ (WArr z a6 m6 ++ (WLet z a7 m7))))))) (WFac z a1 (a2 0) (a3 0) a4 (a6 0) (a7 0) m1) (WFac z a1 (a2 0) (a3 0) a4 (a6 0) (a7 0) y9 ++ (WDay z a2 m2 ++ (WDay z a3 m3 ++ (WMin a4 (a5 0) m4 ++ (WDay z a5 m5 ++ (WArr z a6 m6 ++ (WLet z a7 m7))))))) (WFac z a1 (a2 0) (a3 0) a4 (a6 0) (a7 0) y9) := (foc_l foc_all)
        refine z_goI (ws1 := (WFac z a1 (a2 0) (a3 0) a4 (a6 0) (a7 0) y9 ++ (WDay z a2 m2 ++ (WDay z a3 m3 ++ (WMin a4 (a5 0) m4 ++ (WDay z a5 m5 ++ (WArr z a6 m6 ++ (WLet z a7 m7)))))))) (va_runV (As := [.int (-3)]) (rest := []) ⟨hx, hb, hml, hown, hts⟩ (tX6_refuse l D z tt (a2 0) (a3 0) a4 (a6 0) (a7 0) a1 m1 (-3) fu r8 y9 q10 _) (cwV 1 hts (gV4 aw272 aw274 aw0 aw45 aw275) rfl rfl rfl (by decide +kernel) ⟨Nat.le_of_ble_eq_true rfl, Nat.le_of_ble_eq_true rfl⟩) (z_preV hK hP hD hS hA hT hN hfo (va_recv hK hP (ci := 6) (q0 := 0) rfl rfl)) rfl rfl hl.1 rfl (lv_room (Nat.le_of_ble_eq_true rfl)) dX6_go_38 ⟨Nat.zero_le _, Nat.zero_le _⟩) hP hD hS hA hfo (fun H locs hP hD hS => ?_)
        obtain ⟨rfl, rfl, rfl⟩ := so3 hf
        exact ret_i hx hb hr hlocks hK hP hD hS dX6_go_41
    · have hf := if_f c2 hf
      refine lv_aload_n hx hb dX6_go_18 rfl (lv_at hl 0 rfl) ?_
      refine lv_bipush (v := (-6)) hx hb dX6_go_19 (by decide) ?_
      obtain ⟨r11, y12, q13, hf⟩ := bd2_use hf
      have hfo : Foc (WFac z a1 (a2 0) (a3 0) a4 (a6 0) (a7 0) m1 ++ (WDay z a2 m2 ++ (WDay z a3 m3 ++ (WMin a4 (a5 0) m4 ++ (WDay z a5 m5 ++ (WArr z a6 m6 ++ (WLet z a7 m7))))))) (WFac z a1 (a2 0) (a3 0) a4 (a6 0) (a7 0) m1) (WFac z a1 (a2 0) (a3 0) a4 (a6 0) (a7 0) y12 ++ (WDay z a2 m2 ++ (WDay z a3 m3 ++ (WMin a4 (a5 0) m4 ++ (WDay z a5 m5 ++ (WArr z a6 m6 ++ (WLet z a7 m7))))))) (WFac z a1 (a2 0) (a3 0) a4 (a6 0) (a7 0) y12) := (foc_l foc_all)
      refine z_goI (ws1 := (WFac z a1 (a2 0) (a3 0) a4 (a6 0) (a7 0) y12 ++ (WDay z a2 m2 ++ (WDay z a3 m3 ++ (WMin a4 (a5 0) m4 ++ (WDay z a5 m5 ++ (WArr z a6 m6 ++ (WLet z a7 m7)))))))) (va_runV (As := [.int (-6)]) (rest := []) ⟨hx, hb, hml, hown, hts⟩ (tX6_refuse l D z tt (a2 0) (a3 0) a4 (a6 0) (a7 0) a1 m1 (-6) fu r11 y12 q13 _) (cwV 1 hts (gV4 aw272 aw274 aw0 aw45 aw275) rfl rfl rfl (by decide +kernel) ⟨Nat.le_of_ble_eq_true rfl, Nat.le_of_ble_eq_true rfl⟩) (z_preV hK hP hD hS hA hT hN hfo (va_recv hK hP (ci := 6) (q0 := 0) rfl rfl)) rfl rfl hl.1 rfl (lv_room (Nat.le_of_ble_eq_true rfl)) dX6_go_21 ⟨Nat.zero_le _, Nat.zero_le _⟩) hP hD hS hA hfo (fun H locs hP hD hS => ?_)
      obtain ⟨rfl, rfl, rfl⟩ := so3 hf
      exact ret_i hx hb hr hlocks hK hP hD hS dX6_go_24
  · have hf := if_f c1 hf
    refine lv_aload_n hx hb dX6_go_5 rfl (lv_at hl 0 rfl) ?_
    refine lv_bipush (v := (-4)) hx hb dX6_go_6 (by decide) ?_
    obtain ⟨r14, y15, q16, hf⟩ := bd2_use hf
    have hfo : Foc (WFac z a1 (a2 0) (a3 0) a4 (a6 0) (a7 0) m1 ++ (WDay z a2 m2 ++ (WDay z a3 m3 ++ (WMin a4 (a5 0) m4 ++ (WDay z a5 m5 ++ (WArr z a6 m6 ++ (WLet z a7 m7))))))) (WFac z a1 (a2 0) (a3 0) a4 (a6 0) (a7 0) m1) (WFac z a1 (a2 0) (a3 0) a4 (a6 0) (a7 0) y15 ++ (WDay z a2 m2 ++ (WDay z a3 m3 ++ (WMin a4 (a5 0) m4 ++ (WDay z a5 m5 ++ (WArr z a6 m6 ++ (WLet z a7 m7))))))) (WFac z a1 (a2 0) (a3 0) a4 (a6 0) (a7 0) y15) := (foc_l foc_all)
    refine z_goI (ws1 := (WFac z a1 (a2 0) (a3 0) a4 (a6 0) (a7 0) y15 ++ (WDay z a2 m2 ++ (WDay z a3 m3 ++ (WMin a4 (a5 0) m4 ++ (WDay z a5 m5 ++ (WArr z a6 m6 ++ (WLet z a7 m7)))))))) (va_runV (As := [.int (-4)]) (rest := []) ⟨hx, hb, hml, hown, hts⟩ (tX6_refuse l D z tt (a2 0) (a3 0) a4 (a6 0) (a7 0) a1 m1 (-4) fu r14 y15 q16 _) (cwV 1 hts (gV4 aw272 aw274 aw0 aw45 aw275) rfl rfl rfl (by decide +kernel) ⟨Nat.le_of_ble_eq_true rfl, Nat.le_of_ble_eq_true rfl⟩) (z_preV hK hP hD hS hA hT hN hfo (va_recv hK hP (ci := 6) (q0 := 0) rfl rfl)) rfl rfl hl.1 rfl (lv_room (Nat.le_of_ble_eq_true rfl)) dX6_go_8 ⟨Nat.zero_le _, Nat.zero_le _⟩) hP hD hS hA hfo (fun H locs hP hD hS => ?_)
    obtain ⟨rfl, rfl, rfl⟩ := so3 hf
    exact ret_i hx hb hr hlocks hK hP hD hS dX6_go_11
def pX6_anew (fu : Nat) (m2 : Mem) : Option (Int32 × Mem) :=
  lt' ((m2 0 6) : Int32) fun x1 =>
  bd (pX2_begin fu m2) fun y2 =>
  some (x1, y2)
set_option maxHeartbeats 4000000 in
set_option maxRecDepth 100000 in
theorem tX6_anew (l : Launch) (D : va_G) (z tt : Nat → Nat) (a1 : Nat → Nat) (a2 : Nat → Nat) (a3 : Nat → Nat) (a4 : Nat) (a5 : Nat → Nat) (a6 : Nat → Nat) (a7 : Nat → Nat) (m1 : Mem) (m2 : Mem) (m3 : Mem) (m4 : Mem) (m5 : Mem) (m6 : Mem) (m7 : Mem)  (fu : Nat) (rr : Int32) (m2' : Mem) (hf : pX6_anew fu m2 = some (rr, m2')) : MetI l yX6_anew wsX6_anew ({ frames := 2, cells := 0, slots := 0, locals := 41 } : Room) D z tt ([.ref (a1 0)] : List Value) (WFac z a1 (a2 0) (a3 0) a4 (a6 0) (a7 0) m1 ++ (WDay z a2 m2 ++ (WDay z a3 m3 ++ (WMin a4 (a5 0) m4 ++ (WDay z a5 m5 ++ (WArr z a6 m6 ++ (WLet z a7 m7))))))) rr (WFac z a1 (a2 0) (a3 0) a4 (a6 0) (a7 0) m1 ++ (WDay z a2 m2' ++ (WDay z a3 m3 ++ (WMin a4 (a5 0) m4 ++ (WDay z a5 m5 ++ (WArr z a6 m6 ++ (WLet z a7 m7))))))) := by
  intro sz
  refine Met.ofW (cc := cX6_anew) (maxL := 2) (ret := (some .int)) (by decide) rfl ?_
  intro p e s m args below meth c s₁ B hml hv
  obtain ⟨rfl, hsz, hP, hK, hD0, hT, hN⟩ := hv
  have hx := B.exec
  have hb := B.bytes
  have hr := B.returns
  have hts : ∀ w ∈ wsA, w.before ([.ref (a1 0)] : List Value).toArray s = true := fun w h => atoms_spec (ws := wsX6_anew) B.pre w (List.mem_cons_of_mem _ h)
  have hown : s.vm.findClass RX6 = some m.cls := findClass_of_methodNamed B.named
  have hlocks := B.notSynchronized
  subst hsz
  have hD := hD0.self (sz := s.heap.size)
  generalize hAe : va_A (WFac z a1 (a2 0) (a3 0) a4 (a6 0) (a7 0) m1 ++ (WDay z a2 m2 ++ (WDay z a3 m3 ++ (WMin a4 (a5 0) m4 ++ (WDay z a5 m5 ++ (WArr z a6 m6 ++ (WLet z a7 m7))))))) s.heap.size = A at hD hT ⊢
  have hA : ∀ q : Nat, s.heap.size ≤ q → A q := fun q h => by rw [← hAe]; exact Or.inr h
  have hS : va_S A s.heap s.heap [] := va_S.rf
  have hl := lv_entry ([.ref (a1 0)] : List Value) (n := 2) (Nat.le_of_ble_eq_true rfl)
  rw [lg_entry_eq]
  generalize (lg_sl ([.ref (a1 0)] : List Value) ++ List.replicate (2 - (lg_sl ([.ref (a1 0)] : List Value)).length) Slot.unset).toArray = ls at hl ⊢
  have hl : lv_has ls 2 [(0, .ref (a1 0))] := hl
  unfold pX6_anew at hf
  refine lv_aload_n hx hb dX6_anew_0 rfl (lv_at hl 0 rfl) ?_
  refine va_get (D := D) (ci := 6) (v := .ref (a2 0)) (C := RX6) (T := TX6) (N := 9) hx hb hts iX6 hown hK hP 0 rfl rfl 0 (by decide) (hts _ aw240) (fun _ h9 => h9) rfl dX6_anew_1 ?_
  refine va_get (D := D) (ci := 2) (v := .int (m2 0 6)) (C := RX2) (T := TX2) (N := 8) hx hb hts iX2 hown hK hP 3 rfl rfl 6 (by decide) (hts _ aw171) (fun _ h9 => h9) rfl dX6_anew_4 ?_
  refine lv_topi (fun x1 ex1 => ?_)
  have hf := lt_use ex1 hf
  refine lv_istore_n (lv' := [(1, .int x1), (0, .ref (a1 0))]) hx hb dX6_anew_7 rfl hl (by decide) rfl (fun ls hl => ?_)
  refine lv_aload_n hx hb dX6_anew_8 rfl (lv_at hl 1 rfl) ?_
  refine va_get (D := D) (ci := 6) (v := .ref (a2 0)) (C := RX6) (T := TX6) (N := 9) hx hb hts iX6 hown hK hP 0 rfl rfl 0 (by decide) (hts _ aw240) (fun _ h9 => h9) rfl dX6_anew_9 ?_
  obtain ⟨y2, q3, hf⟩ := bd_use hf
  have hfo : Foc (WFac z a1 (a2 0) (a3 0) a4 (a6 0) (a7 0) m1 ++ (WDay z a2 m2 ++ (WDay z a3 m3 ++ (WMin a4 (a5 0) m4 ++ (WDay z a5 m5 ++ (WArr z a6 m6 ++ (WLet z a7 m7))))))) (WDay z a2 m2) (WFac z a1 (a2 0) (a3 0) a4 (a6 0) (a7 0) m1 ++ (WDay z a2 y2 ++ (WDay z a3 m3 ++ (WMin a4 (a5 0) m4 ++ (WDay z a5 m5 ++ (WArr z a6 m6 ++ (WLet z a7 m7))))))) (WDay z a2 y2) := (foc_r (foc_l foc_all))
  refine z_goV (ws1 := (WFac z a1 (a2 0) (a3 0) a4 (a6 0) (a7 0) m1 ++ (WDay z a2 y2 ++ (WDay z a3 m3 ++ (WMin a4 (a5 0) m4 ++ (WDay z a5 m5 ++ (WArr z a6 m6 ++ (WLet z a7 m7)))))))) (va_runV (As := []) (rest := []) ⟨hx, hb, hml, hown, hts⟩ (tX2_begin l D z tt a2 m2  fu y2 q3 _) (cwV 0 hts (gV4 aw507 aw508 aw509 aw46 aw510) rfl rfl rfl (by decide +kernel) ⟨Nat.le_of_ble_eq_true rfl, Nat.le_of_ble_eq_true rfl⟩) (z_preV hK hP hD hS hA hT hN hfo (va_recv hK hP (ci := 2) (q0 := 3) rfl rfl)) rfl rfl hl.1 rfl (lv_room (Nat.le_of_ble_eq_true rfl)) dX6_anew_12 ⟨Nat.zero_le _, Nat.zero_le _⟩) hP hD hS hA hfo (fun H locs hP hD hS => ?_)
  refine lv_iload_n hx hb dX6_anew_15 rfl (lv_at hl 0 rfl) ?_
  obtain ⟨rfl, rfl⟩ := so2 hf
  exact ret_i hx hb hr hlocks hK hP hD hS dX6_anew_16
def pX6_line (fu : Nat) (m1 : Mem) (m2 : Mem) (p1 : Int32) : Option (Int32 × Mem) :=
  if 0 ≤ p1 then
    if (m2 0 5) ≤ p1 then
      some ((-9), m1)
    else
      ck p1 8 <|
      some ((m2 2 p1.toNatClampNeg), m1)
  else
    bd2 (pX6_refuse fu m1 (-4)) fun r4 y5 =>
    some (r4, y5)
set_option maxHeartbeats 4000000 in
set_option maxRecDepth 100000 in
theorem tX6_line (l : Launch) (D : va_G) (z tt : Nat → Nat) (a1 : Nat → Nat) (a2 : Nat → Nat) (a3 : Nat → Nat) (a4 : Nat) (a5 : Nat → Nat) (a6 : Nat → Nat) (a7 : Nat → Nat) (m1 : Mem) (m2 : Mem) (m3 : Mem) (m4 : Mem) (m5 : Mem) (m6 : Mem) (m7 : Mem) (p1 : Int32) (fu : Nat) (rr : Int32) (m1' : Mem) (hf : pX6_line fu m1 m2 p1 = some (rr, m1')) : MetI l yX6_line wsX6_line ({ frames := 1, cells := 0, slots := 0, locals := 22 } : Room) D z tt ([.ref (a1 0), .int p1] : List Value) (WFac z a1 (a2 0) (a3 0) a4 (a6 0) (a7 0) m1 ++ (WDay z a2 m2 ++ (WDay z a3 m3 ++ (WMin a4 (a5 0) m4 ++ (WDay z a5 m5 ++ (WArr z a6 m6 ++ (WLet z a7 m7))))))) rr (WFac z a1 (a2 0) (a3 0) a4 (a6 0) (a7 0) m1' ++ (WDay z a2 m2 ++ (WDay z a3 m3 ++ (WMin a4 (a5 0) m4 ++ (WDay z a5 m5 ++ (WArr z a6 m6 ++ (WLet z a7 m7))))))) := by
  intro sz
  refine Met.ofW (cc := cX6_line) (maxL := 2) (ret := (some .int)) (by decide) rfl ?_
  intro p e s m args below meth c s₁ B hml hv
  obtain ⟨rfl, hsz, hP, hK, hD0, hT, hN⟩ := hv
  have hx := B.exec
  have hb := B.bytes
  have hr := B.returns
  have hts : ∀ w ∈ wsA, w.before ([.ref (a1 0), .int p1] : List Value).toArray s = true := fun w h => atoms_spec (ws := wsX6_line) B.pre w (List.mem_cons_of_mem _ h)
  have hown : s.vm.findClass RX6 = some m.cls := findClass_of_methodNamed B.named
  have hlocks := B.notSynchronized
  subst hsz
  have hD := hD0.self (sz := s.heap.size)
  generalize hAe : va_A (WFac z a1 (a2 0) (a3 0) a4 (a6 0) (a7 0) m1 ++ (WDay z a2 m2 ++ (WDay z a3 m3 ++ (WMin a4 (a5 0) m4 ++ (WDay z a5 m5 ++ (WArr z a6 m6 ++ (WLet z a7 m7))))))) s.heap.size = A at hD hT ⊢
  have hA : ∀ q : Nat, s.heap.size ≤ q → A q := fun q h => by rw [← hAe]; exact Or.inr h
  have hS : va_S A s.heap s.heap [] := va_S.rf
  have hl := lv_entry ([.ref (a1 0), .int p1] : List Value) (n := 2) (Nat.le_of_ble_eq_true rfl)
  rw [lg_entry_eq]
  generalize (lg_sl ([.ref (a1 0), .int p1] : List Value) ++ List.replicate (2 - (lg_sl ([.ref (a1 0), .int p1] : List Value)).length) Slot.unset).toArray = ls at hl ⊢
  have hl : lv_has ls 2 [(0, .ref (a1 0)), (1, .int p1)] := hl
  unfold pX6_line at hf
  refine lv_iload_n hx hb dX6_line_0 rfl (lv_at hl 1 rfl) ?_
  refine lv_if_ge (tgt := 11) hx hb dX6_line_1 (by decide) (fun c1 => ?_) (fun c1 => ?_)
  · have hf := if_t c1 hf
    refine lv_iload_n hx hb dX6_line_11 rfl (lv_at hl 1 rfl) ?_
    refine lv_aload_n hx hb dX6_line_12 rfl (lv_at hl 0 rfl) ?_
    refine va_get (D := D) (ci := 6) (v := .ref (a2 0)) (C := RX6) (T := TX6) (N := 9) hx hb hts iX6 hown hK hP 0 rfl rfl 0 (by decide) (hts _ aw240) (fun _ h9 => h9) rfl dX6_line_13 ?_
    refine va_get (D := D) (ci := 2) (v := .int (m2 0 5)) (C := RX2) (T := TX2) (N := 8) hx hb hts iX2 hown hK hP 3 rfl rfl 5 (by decide) (hts _ aw169) (fun _ h9 => h9) rfl dX6_line_16 ?_
    refine lv_icmp_ge (tgt := 34) hx hb dX6_line_19 (by decide) (fun c2 => ?_) (fun c2 => ?_)
    · have hf := if_t c2 hf
      refine lv_bipush (v := (-9)) hx hb dX6_line_34 (by decide) ?_
      obtain ⟨rfl, rfl⟩ := so2 hf
      exact ret_i hx hb hr hlocks hK hP hD hS dX6_line_36
    · have hf := if_f c2 hf
      refine lv_aload_n hx hb dX6_line_22 rfl (lv_at hl 0 rfl) ?_
      refine va_get (D := D) (ci := 6) (v := .ref (a2 0)) (C := RX6) (T := TX6) (N := 9) hx hb hts iX6 hown hK hP 0 rfl rfl 0 (by decide) (hts _ aw240) (fun _ h9 => h9) rfl dX6_line_23 ?_
      refine va_get (D := D) (ci := 2) (v := .ref (a2 2)) (C := RX2) (T := TX2) (N := 8) hx hb hts iX2 hown hK hP 3 rfl rfl 3 (by decide) (hts _ aw163) (fun _ h9 => h9) rfl dX6_line_26 ?_
      refine lv_iload_n hx hb dX6_line_29 rfl (lv_at hl 1 rfl) ?_
      obtain ⟨h3, hf⟩ := ck_use hf
      refine z_iald hx hb hK hP 5 rfl h3 dX6_line_30 ?_
      refine lv_goto (tgt := 36) hx hb dX6_line_31 (by decide) ?_
      obtain ⟨rfl, rfl⟩ := so2 hf
      exact ret_i hx hb hr hlocks hK hP hD hS dX6_line_36
  · have hf := if_f c1 hf
    refine lv_aload_n hx hb dX6_line_4 rfl (lv_at hl 0 rfl) ?_
    refine lv_bipush (v := (-4)) hx hb dX6_line_5 (by decide) ?_
    obtain ⟨r4, y5, q6, hf⟩ := bd2_use hf
    have hfo : Foc (WFac z a1 (a2 0) (a3 0) a4 (a6 0) (a7 0) m1 ++ (WDay z a2 m2 ++ (WDay z a3 m3 ++ (WMin a4 (a5 0) m4 ++ (WDay z a5 m5 ++ (WArr z a6 m6 ++ (WLet z a7 m7))))))) (WFac z a1 (a2 0) (a3 0) a4 (a6 0) (a7 0) m1) (WFac z a1 (a2 0) (a3 0) a4 (a6 0) (a7 0) y5 ++ (WDay z a2 m2 ++ (WDay z a3 m3 ++ (WMin a4 (a5 0) m4 ++ (WDay z a5 m5 ++ (WArr z a6 m6 ++ (WLet z a7 m7))))))) (WFac z a1 (a2 0) (a3 0) a4 (a6 0) (a7 0) y5) := (foc_l foc_all)
    refine z_goI (ws1 := (WFac z a1 (a2 0) (a3 0) a4 (a6 0) (a7 0) y5 ++ (WDay z a2 m2 ++ (WDay z a3 m3 ++ (WMin a4 (a5 0) m4 ++ (WDay z a5 m5 ++ (WArr z a6 m6 ++ (WLet z a7 m7)))))))) (va_runV (As := [.int (-4)]) (rest := []) ⟨hx, hb, hml, hown, hts⟩ (tX6_refuse l D z tt (a2 0) (a3 0) a4 (a6 0) (a7 0) a1 m1 (-4) fu r4 y5 q6 _) (cwV 1 hts (gV4 aw272 aw274 aw0 aw45 aw275) rfl rfl rfl (by decide +kernel) ⟨Nat.le_of_ble_eq_true rfl, Nat.le_of_ble_eq_true rfl⟩) (z_preV hK hP hD hS hA hT hN hfo (va_recv hK hP (ci := 6) (q0 := 0) rfl rfl)) rfl rfl hl.1 rfl (lv_room (Nat.le_of_ble_eq_true rfl)) dX6_line_7 ⟨Nat.zero_le _, Nat.zero_le _⟩) hP hD hS hA hfo (fun H locs hP hD hS => ?_)
    obtain ⟨rfl, rfl⟩ := so2 hf
    exact ret_i hx hb hr hlocks hK hP hD hS dX6_line_10
def pX6_rest (fu : Nat) (m1 : Mem) (m2 : Mem) (m5 : Mem) (p1 : Int32) : Option (Int32 × Mem × Mem) :=
  jn1 (fun (u0 : Unit) =>
    bd2 (pX6_refuse fu m1 (-2)) fun r2 y3 =>
    some (r2, y3, m5)) fun k1 =>
  if p1 < 0 then
    k1 ()
  else
    if p1 ≤ 4 then
      bd (pX5_take fu m5 m2) fun y7 =>
      bd2 (pX5_restOfDay fu y7 p1) fun r9 y10 =>
      some (r9, m1, y10)
    else
      k1 ()
set_option maxHeartbeats 4000000 in
set_option maxRecDepth 100000 in
theorem tX6_rest (l : Launch) (D : va_G) (z tt : Nat → Nat) (a1 : Nat → Nat) (a2 : Nat → Nat) (a3 : Nat → Nat) (a4 : Nat) (a5 : Nat → Nat) (a6 : Nat → Nat) (a7 : Nat → Nat) (m1 : Mem) (m2 : Mem) (m3 : Mem) (m4 : Mem) (m5 : Mem) (m6 : Mem) (m7 : Mem) (p1 : Int32) (fu : Nat) (rr : Int32) (m1' : Mem) (m5' : Mem) (hf : pX6_rest fu m1 m2 m5 p1 = some (rr, m1', m5')) : MetI l yX6_rest wsX6_rest ({ frames := 6, cells := 0, slots := 0, locals := 134 } : Room) D z tt ([.ref (a1 0), .int p1] : List Value) (WFac z a1 (a2 0) (a3 0) a4 (a6 0) (a7 0) m1 ++ (WDay z a2 m2 ++ (WDay z a3 m3 ++ (WMin a4 (a5 0) m4 ++ (WDay z a5 m5 ++ (WArr z a6 m6 ++ (WLet z a7 m7))))))) rr (WFac z a1 (a2 0) (a3 0) a4 (a6 0) (a7 0) m1' ++ (WDay z a2 m2 ++ (WDay z a3 m3 ++ (WMin a4 (a5 0) m4 ++ (WDay z a5 m5' ++ (WArr z a6 m6 ++ (WLet z a7 m7))))))) := by
  intro sz
  refine Met.ofW (cc := cX6_rest) (maxL := 2) (ret := (some .int)) (by decide) rfl ?_
  intro p e s m args below meth c s₁ B hml hv
  obtain ⟨rfl, hsz, hP, hK, hD0, hT, hN⟩ := hv
  have hx := B.exec
  have hb := B.bytes
  have hr := B.returns
  have hts : ∀ w ∈ wsA, w.before ([.ref (a1 0), .int p1] : List Value).toArray s = true := fun w h => atoms_spec (ws := wsX6_rest) B.pre w (List.mem_cons_of_mem _ h)
  have hown : s.vm.findClass RX6 = some m.cls := findClass_of_methodNamed B.named
  have hlocks := B.notSynchronized
  subst hsz
  have hD := hD0.self (sz := s.heap.size)
  generalize hAe : va_A (WFac z a1 (a2 0) (a3 0) a4 (a6 0) (a7 0) m1 ++ (WDay z a2 m2 ++ (WDay z a3 m3 ++ (WMin a4 (a5 0) m4 ++ (WDay z a5 m5 ++ (WArr z a6 m6 ++ (WLet z a7 m7))))))) s.heap.size = A at hD hT ⊢
  have hA : ∀ q : Nat, s.heap.size ≤ q → A q := fun q h => by rw [← hAe]; exact Or.inr h
  have hS : va_S A s.heap s.heap [] := va_S.rf
  have hl := lv_entry ([.ref (a1 0), .int p1] : List Value) (n := 2) (Nat.le_of_ble_eq_true rfl)
  rw [lg_entry_eq]
  generalize (lg_sl ([.ref (a1 0), .int p1] : List Value) ++ List.replicate (2 - (lg_sl ([.ref (a1 0), .int p1] : List Value)).length) Slot.unset).toArray = ls at hl ⊢
  have hl : lv_has ls 2 [(0, .ref (a1 0)), (1, .int p1)] := hl
  unfold pX6_rest at hf
  refine lv_iload_n hx hb dX6_rest_0 rfl (lv_at hl 1 rfl) ?_
  obtain ⟨k1, ek1, hf⟩ := jn1_use hf
  have B9_k1 : ∀ (u0 : Unit) (H : Heap) (locs : List Loc), va_P D vwCl (WFac z a1 (a2 0) (a3 0) a4 (a6 0) (a7 0) m1 ++ (WDay z a2 m2 ++ (WDay z a3 m3 ++ (WMin a4 (a5 0) m4 ++ (WDay z a5 m5 ++ (WArr z a6 m6 ++ (WLet z a7 m7))))))) H → va_D A (WFac z a1 (a2 0) (a3 0) a4 (a6 0) (a7 0) m1 ++ (WDay z a2 m2 ++ (WDay z a3 m3 ++ (WMin a4 (a5 0) m4 ++ (WDay z a5 m5 ++ (WArr z a6 m6 ++ (WLet z a7 m7))))))) → va_S A s.heap H locs → ∀ (ls : Array Slot), lv_has ls 2 [(0, .ref (a1 0))] → k1 u0 = some (rr, m1', m5') → GI p l e (headSpec wsX6_rest ({ frames := 6, cells := 0, slots := 0, locals := 134 } : Room)).room s m ([.ref (a1 0), .int p1] : List Value).toArray below meth c A D z rr (WFac z a1 (a2 0) (a3 0) a4 (a6 0) (a7 0) m1' ++ (WDay z a2 m2 ++ (WDay z a3 m3 ++ (WMin a4 (a5 0) m4 ++ (WDay z a5 m5' ++ (WArr z a6 m6 ++ (WLet z a7 m7))))))) H locs (F0 m 9 ls []) := by
    intro u0 H locs hP hD hS ls hl hf
    have hf := jn1_ap ek1 hf
    refine lv_aload_n hx hb dX6_rest_9 rfl (lv_at hl 0 rfl) ?_
    refine lv_bipush (v := (-2)) hx hb dX6_rest_10 (by decide) ?_
    obtain ⟨r2, y3, q4, hf⟩ := bd2_use hf
    have hfo : Foc (WFac z a1 (a2 0) (a3 0) a4 (a6 0) (a7 0) m1 ++ (WDay z a2 m2 ++ (WDay z a3 m3 ++ (WMin a4 (a5 0) m4 ++ (WDay z a5 m5 ++ (WArr z a6 m6 ++ (WLet z a7 m7))))))) (WFac z a1 (a2 0) (a3 0) a4 (a6 0) (a7 0) m1) (WFac z a1 (a2 0) (a3 0) a4 (a6 0) (a7 0) y3 ++ (WDay z a2 m2 ++ (WDay z a3 m3 ++ (WMin a4 (a5 0) m4 ++ (WDay z a5 m5 ++ (WArr z a6 m6 ++ (WLet z a7 m7))))))) (WFac z a1 (a2 0) (a3 0) a4 (a6 0) (a7 0) y3) := (foc_l foc_all)
    refine z_goI (ws1 := (WFac z a1 (a2 0) (a3 0) a4 (a6 0) (a7 0) y3 ++ (WDay z a2 m2 ++ (WDay z a3 m3 ++ (WMin a4 (a5 0) m4 ++ (WDay z a5 m5 ++ (WArr z a6 m6 ++ (WLet z a7 m7)))))))) (va_runV (As := [.int (-2)]) (rest := []) ⟨hx, hb, hml, hown, hts⟩ (tX6_refuse l D z tt (a2 0) (a3 0) a4 (a6 0) (a7 0) a1 m1 (-2) fu r2 y3 q4 _) (cwV 1 hts (gV4 aw272 aw274 aw0 aw45 aw275) rfl rfl rfl (by decide +kernel) ⟨Nat.le_of_ble_eq_true rfl, Nat.le_of_ble_eq_true rfl⟩) (z_preV hK hP hD hS hA hT hN hfo (va_recv hK hP (ci := 6) (q0 := 0) rfl rfl)) rfl rfl hl.1 rfl (lv_room (Nat.le_of_ble_eq_true rfl)) dX6_rest_12 ⟨Nat.zero_le _, Nat.zero_le _⟩) hP hD hS hA hfo (fun H locs hP hD hS => ?_)
    obtain ⟨rfl, rfl, rfl⟩ := so3 hf
    exact ret_i hx hb hr hlocks hK hP hD hS dX6_rest_15
  refine lv_if_lt (tgt := 9) hx hb dX6_rest_1 (by decide) (fun c5 => ?_) (fun c5 => ?_)
  · have hf := if_t c5 hf
    exact B9_k1 _ _ _ hP hD hS _ (lv_sub hl [0] rfl) hf
  · have hf := if_f c5 hf
    refine lv_iload_n hx hb dX6_rest_4 rfl (lv_at hl 1 rfl) ?_
    refine lv_iconst (v := 4) hx hb dX6_rest_5 (by decide) ?_
    refine lv_icmp_le (tgt := 16) hx hb dX6_rest_6 (by decide) (fun c6 => ?_) (fun c6 => ?_)
    · have hf := if_t c6 hf
      refine lv_aload_n hx hb dX6_rest_16 rfl (lv_at hl 0 rfl) ?_
      refine va_get (D := D) (ci := 6) (v := .ref a4) (C := RX6) (T := TX6) (N := 9) hx hb hts iX6 hown hK hP 0 rfl rfl 2 (by decide) (hts _ aw242) (fun _ h9 => h9) rfl dX6_rest_17 ?_
      refine lv_aload_n hx hb dX6_rest_20 rfl (lv_at hl 0 rfl) ?_
      refine va_get (D := D) (ci := 6) (v := .ref (a2 0)) (C := RX6) (T := TX6) (N := 9) hx hb hts iX6 hown hK hP 0 rfl rfl 0 (by decide) (hts _ aw240) (fun _ h9 => h9) rfl dX6_rest_21 ?_
      obtain ⟨y7, q8, hf⟩ := bd_use hf
      have hfo : Foc (WFac z a1 (a2 0) (a3 0) a4 (a6 0) (a7 0) m1 ++ (WDay z a2 m2 ++ (WDay z a3 m3 ++ (WMin a4 (a5 0) m4 ++ (WDay z a5 m5 ++ (WArr z a6 m6 ++ (WLet z a7 m7))))))) (WMin a4 (a5 0) m4 ++ (WDay z a5 m5 ++ (WDay z a2 m2))) (WFac z a1 (a2 0) (a3 0) a4 (a6 0) (a7 0) m1 ++ (WDay z a2 m2 ++ (WDay z a3 m3 ++ (WMin a4 (a5 0) m4 ++ (WDay z a5 y7 ++ (WArr z a6 m6 ++ (WLet z a7 m7))))))) (WMin a4 (a5 0) m4 ++ (WDay z a5 y7 ++ (WDay z a2 m2))) := (foc_rot (foc_r (foc_app foc_all (foc_r (foc_app foc_all (foc_l foc_all))))))
      refine z_goV (ws1 := (WFac z a1 (a2 0) (a3 0) a4 (a6 0) (a7 0) m1 ++ (WDay z a2 m2 ++ (WDay z a3 m3 ++ (WMin a4 (a5 0) m4 ++ (WDay z a5 y7 ++ (WArr z a6 m6 ++ (WLet z a7 m7)))))))) (va_runV (As := [.ref (a2 0)]) (rest := []) ⟨hx, hb, hml, hown, hts⟩ (tX5_take l D z tt a4 a5 a2 m4 m5 m2  fu y7 q8 _) (cwV 1 hts (gV4 aw284 aw285 aw286 aw49 aw287) rfl rfl rfl (by decide +kernel) ⟨Nat.le_of_ble_eq_true rfl, Nat.le_of_ble_eq_true rfl⟩) (z_preV hK hP hD hS hA hT hN hfo (va_recv hK hP (ci := 5) (q0 := 33) rfl rfl)) rfl rfl hl.1 rfl (lv_room (Nat.le_of_ble_eq_true rfl)) dX6_rest_24 ⟨Nat.zero_le _, Nat.zero_le _⟩) hP hD hS hA hfo (fun H locs hP hD hS => ?_)
      refine lv_aload_n hx hb dX6_rest_27 rfl (lv_at hl 0 rfl) ?_
      refine va_get (D := D) (ci := 6) (v := .ref a4) (C := RX6) (T := TX6) (N := 9) hx hb hts iX6 hown hK hP 0 rfl rfl 2 (by decide) (hts _ aw242) (fun _ h9 => h9) rfl dX6_rest_28 ?_
      refine lv_iload_n hx hb dX6_rest_31 rfl (lv_at hl 1 rfl) ?_
      obtain ⟨r9, y10, q11, hf⟩ := bd2_use hf
      have hfo : Foc (WFac z a1 (a2 0) (a3 0) a4 (a6 0) (a7 0) m1 ++ (WDay z a2 m2 ++ (WDay z a3 m3 ++ (WMin a4 (a5 0) m4 ++ (WDay z a5 y7 ++ (WArr z a6 m6 ++ (WLet z a7 m7))))))) (WMin a4 (a5 0) m4 ++ (WDay z a5 y7)) (WFac z a1 (a2 0) (a3 0) a4 (a6 0) (a7 0) m1 ++ (WDay z a2 m2 ++ (WDay z a3 m3 ++ (WMin a4 (a5 0) m4 ++ (WDay z a5 y10 ++ (WArr z a6 m6 ++ (WLet z a7 m7))))))) (WMin a4 (a5 0) m4 ++ (WDay z a5 y10)) := (foc_r (foc_r (foc_r (foc_app foc_all (foc_l foc_all)))))
      refine z_goI (ws1 := (WFac z a1 (a2 0) (a3 0) a4 (a6 0) (a7 0) m1 ++ (WDay z a2 m2 ++ (WDay z a3 m3 ++ (WMin a4 (a5 0) m4 ++ (WDay z a5 y10 ++ (WArr z a6 m6 ++ (WLet z a7 m7)))))))) (va_runV (As := [.int p1]) (rest := []) ⟨hx, hb, hml, hown, hts⟩ (tX5_restOfDay l D z tt a4 a5 m4 y7 p1 fu r9 y10 q11 _) (cwV 1 hts (gV4 aw523 aw524 aw525 aw49 aw526) rfl rfl rfl (by decide +kernel) ⟨Nat.le_of_ble_eq_true rfl, Nat.le_of_ble_eq_true rfl⟩) (z_preV hK hP hD hS hA hT hN hfo (va_recv hK hP (ci := 5) (q0 := 33) rfl rfl)) rfl rfl hl.1 rfl (lv_room (Nat.le_of_ble_eq_true rfl)) dX6_rest_32 ⟨Nat.zero_le _, Nat.zero_le _⟩) hP hD hS hA hfo (fun H locs hP hD hS => ?_)
      obtain ⟨rfl, rfl, rfl⟩ := so3 hf
      exact ret_i hx hb hr hlocks hK hP hD hS dX6_rest_35
    · have hf := if_f c6 hf
      exact B9_k1 _ _ _ hP hD hS _ (lv_sub hl [0] rfl) hf
def pX6_when (fu : Nat) (m1 : Mem) (m2 : Mem) (m5 : Mem) (p1 : Int32) : Option (Int32 × Mem × Mem) :=
  bd (pX2_hasComer fu m2 p1) fun r1 =>
  if r1 = 0 then
    bd2 (pX6_refuse fu m1 (-1)) fun r9 y10 =>
    some (r9, y10, m5)
  else
    bd (pX5_take fu m5 m2) fun y4 =>
    bd2 (pX5_servedAt fu y4 p1) fun r6 y7 =>
    some (r6, m1, y7)
set_option maxHeartbeats 4000000 in
set_option maxRecDepth 100000 in
theorem tX6_when (l : Launch) (D : va_G) (z tt : Nat → Nat) (a1 : Nat → Nat) (a2 : Nat → Nat) (a3 : Nat → Nat) (a4 : Nat) (a5 : Nat → Nat) (a6 : Nat → Nat) (a7 : Nat → Nat) (m1 : Mem) (m2 : Mem) (m3 : Mem) (m4 : Mem) (m5 : Mem) (m6 : Mem) (m7 : Mem) (p1 : Int32) (fu : Nat) (rr : Int32) (m1' : Mem) (m5' : Mem) (hf : pX6_when fu m1 m2 m5 p1 = some (rr, m1', m5')) : MetI l yX6_when wsX6_when ({ frames := 6, cells := 0, slots := 0, locals := 135 } : Room) D z tt ([.ref (a1 0), .int p1] : List Value) (WFac z a1 (a2 0) (a3 0) a4 (a6 0) (a7 0) m1 ++ (WDay z a2 m2 ++ (WDay z a3 m3 ++ (WMin a4 (a5 0) m4 ++ (WDay z a5 m5 ++ (WArr z a6 m6 ++ (WLet z a7 m7))))))) rr (WFac z a1 (a2 0) (a3 0) a4 (a6 0) (a7 0) m1' ++ (WDay z a2 m2 ++ (WDay z a3 m3 ++ (WMin a4 (a5 0) m4 ++ (WDay z a5 m5' ++ (WArr z a6 m6 ++ (WLet z a7 m7))))))) := by
  intro sz
  refine Met.ofW (cc := cX6_when) (maxL := 2) (ret := (some .int)) (by decide) rfl ?_
  intro p e s m args below meth c s₁ B hml hv
  obtain ⟨rfl, hsz, hP, hK, hD0, hT, hN⟩ := hv
  have hx := B.exec
  have hb := B.bytes
  have hr := B.returns
  have hts : ∀ w ∈ wsA, w.before ([.ref (a1 0), .int p1] : List Value).toArray s = true := fun w h => atoms_spec (ws := wsX6_when) B.pre w (List.mem_cons_of_mem _ h)
  have hown : s.vm.findClass RX6 = some m.cls := findClass_of_methodNamed B.named
  have hlocks := B.notSynchronized
  subst hsz
  have hD := hD0.self (sz := s.heap.size)
  generalize hAe : va_A (WFac z a1 (a2 0) (a3 0) a4 (a6 0) (a7 0) m1 ++ (WDay z a2 m2 ++ (WDay z a3 m3 ++ (WMin a4 (a5 0) m4 ++ (WDay z a5 m5 ++ (WArr z a6 m6 ++ (WLet z a7 m7))))))) s.heap.size = A at hD hT ⊢
  have hA : ∀ q : Nat, s.heap.size ≤ q → A q := fun q h => by rw [← hAe]; exact Or.inr h
  have hS : va_S A s.heap s.heap [] := va_S.rf
  have hl := lv_entry ([.ref (a1 0), .int p1] : List Value) (n := 2) (Nat.le_of_ble_eq_true rfl)
  rw [lg_entry_eq]
  generalize (lg_sl ([.ref (a1 0), .int p1] : List Value) ++ List.replicate (2 - (lg_sl ([.ref (a1 0), .int p1] : List Value)).length) Slot.unset).toArray = ls at hl ⊢
  have hl : lv_has ls 2 [(0, .ref (a1 0)), (1, .int p1)] := hl
  unfold pX6_when at hf
  refine lv_aload_n hx hb dX6_when_0 rfl (lv_at hl 0 rfl) ?_
  refine va_get (D := D) (ci := 6) (v := .ref (a2 0)) (C := RX6) (T := TX6) (N := 9) hx hb hts iX6 hown hK hP 0 rfl rfl 0 (by decide) (hts _ aw240) (fun _ h9 => h9) rfl dX6_when_1 ?_
  refine lv_iload_n hx hb dX6_when_4 rfl (lv_at hl 1 rfl) ?_
  obtain ⟨r1, q2, hf⟩ := bd_use hf
  have hfo : Foc (WFac z a1 (a2 0) (a3 0) a4 (a6 0) (a7 0) m1 ++ (WDay z a2 m2 ++ (WDay z a3 m3 ++ (WMin a4 (a5 0) m4 ++ (WDay z a5 m5 ++ (WArr z a6 m6 ++ (WLet z a7 m7))))))) (WDay z a2 m2) (WFac z a1 (a2 0) (a3 0) a4 (a6 0) (a7 0) m1 ++ (WDay z a2 m2 ++ (WDay z a3 m3 ++ (WMin a4 (a5 0) m4 ++ (WDay z a5 m5 ++ (WArr z a6 m6 ++ (WLet z a7 m7))))))) (WDay z a2 m2) := (foc_r (foc_l foc_all))
  refine z_goI (ws1 := (WFac z a1 (a2 0) (a3 0) a4 (a6 0) (a7 0) m1 ++ (WDay z a2 m2 ++ (WDay z a3 m3 ++ (WMin a4 (a5 0) m4 ++ (WDay z a5 m5 ++ (WArr z a6 m6 ++ (WLet z a7 m7)))))))) (va_runV (As := [.int p1]) (rest := []) ⟨hx, hb, hml, hown, hts⟩ (tX2_hasComer l D z tt a2 m2 p1 fu r1 q2 _) (cwV 1 hts (gV4 aw373 aw364 aw365 aw46 aw366) rfl rfl rfl (by decide +kernel) ⟨Nat.le_of_ble_eq_true rfl, Nat.le_of_ble_eq_true rfl⟩) (z_preV hK hP hD hS hA hT hN hfo (va_recv hK hP (ci := 2) (q0 := 3) rfl rfl)) rfl rfl hl.1 rfl (lv_room (Nat.le_of_ble_eq_true rfl)) dX6_when_5 ⟨Nat.zero_le _, Nat.zero_le _⟩) hP hD hS hA hfo (fun H locs hP hD hS => ?_)
  refine lv_if_ne (tgt := 17) hx hb dX6_when_8 (by decide) (fun c3 => ?_) (fun c3 => ?_)
  · have hf := if_f c3 hf
    refine lv_aload_n hx hb dX6_when_17 rfl (lv_at hl 0 rfl) ?_
    refine va_get (D := D) (ci := 6) (v := .ref a4) (C := RX6) (T := TX6) (N := 9) hx hb hts iX6 hown hK hP 0 rfl rfl 2 (by decide) (hts _ aw242) (fun _ h9 => h9) rfl dX6_when_18 ?_
    refine lv_aload_n hx hb dX6_when_21 rfl (lv_at hl 0 rfl) ?_
    refine va_get (D := D) (ci := 6) (v := .ref (a2 0)) (C := RX6) (T := TX6) (N := 9) hx hb hts iX6 hown hK hP 0 rfl rfl 0 (by decide) (hts _ aw240) (fun _ h9 => h9) rfl dX6_when_22 ?_
    obtain ⟨y4, q5, hf⟩ := bd_use hf
    have hfo : Foc (WFac z a1 (a2 0) (a3 0) a4 (a6 0) (a7 0) m1 ++ (WDay z a2 m2 ++ (WDay z a3 m3 ++ (WMin a4 (a5 0) m4 ++ (WDay z a5 m5 ++ (WArr z a6 m6 ++ (WLet z a7 m7))))))) (WMin a4 (a5 0) m4 ++ (WDay z a5 m5 ++ (WDay z a2 m2))) (WFac z a1 (a2 0) (a3 0) a4 (a6 0) (a7 0) m1 ++ (WDay z a2 m2 ++ (WDay z a3 m3 ++ (WMin a4 (a5 0) m4 ++ (WDay z a5 y4 ++ (WArr z a6 m6 ++ (WLet z a7 m7))))))) (WMin a4 (a5 0) m4 ++ (WDay z a5 y4 ++ (WDay z a2 m2))) := (foc_rot (foc_r (foc_app foc_all (foc_r (foc_app foc_all (foc_l foc_all))))))
    refine z_goV (ws1 := (WFac z a1 (a2 0) (a3 0) a4 (a6 0) (a7 0) m1 ++ (WDay z a2 m2 ++ (WDay z a3 m3 ++ (WMin a4 (a5 0) m4 ++ (WDay z a5 y4 ++ (WArr z a6 m6 ++ (WLet z a7 m7)))))))) (va_runV (As := [.ref (a2 0)]) (rest := []) ⟨hx, hb, hml, hown, hts⟩ (tX5_take l D z tt a4 a5 a2 m4 m5 m2  fu y4 q5 _) (cwV 1 hts (gV4 aw284 aw285 aw286 aw49 aw287) rfl rfl rfl (by decide +kernel) ⟨Nat.le_of_ble_eq_true rfl, Nat.le_of_ble_eq_true rfl⟩) (z_preV hK hP hD hS hA hT hN hfo (va_recv hK hP (ci := 5) (q0 := 33) rfl rfl)) rfl rfl hl.1 rfl (lv_room (Nat.le_of_ble_eq_true rfl)) dX6_when_25 ⟨Nat.zero_le _, Nat.zero_le _⟩) hP hD hS hA hfo (fun H locs hP hD hS => ?_)
    refine lv_aload_n hx hb dX6_when_28 rfl (lv_at hl 0 rfl) ?_
    refine va_get (D := D) (ci := 6) (v := .ref a4) (C := RX6) (T := TX6) (N := 9) hx hb hts iX6 hown hK hP 0 rfl rfl 2 (by decide) (hts _ aw242) (fun _ h9 => h9) rfl dX6_when_29 ?_
    refine lv_iload_n hx hb dX6_when_32 rfl (lv_at hl 1 rfl) ?_
    obtain ⟨r6, y7, q8, hf⟩ := bd2_use hf
    have hfo : Foc (WFac z a1 (a2 0) (a3 0) a4 (a6 0) (a7 0) m1 ++ (WDay z a2 m2 ++ (WDay z a3 m3 ++ (WMin a4 (a5 0) m4 ++ (WDay z a5 y4 ++ (WArr z a6 m6 ++ (WLet z a7 m7))))))) (WMin a4 (a5 0) m4 ++ (WDay z a5 y4)) (WFac z a1 (a2 0) (a3 0) a4 (a6 0) (a7 0) m1 ++ (WDay z a2 m2 ++ (WDay z a3 m3 ++ (WMin a4 (a5 0) m4 ++ (WDay z a5 y7 ++ (WArr z a6 m6 ++ (WLet z a7 m7))))))) (WMin a4 (a5 0) m4 ++ (WDay z a5 y7)) := (foc_r (foc_r (foc_r (foc_app foc_all (foc_l foc_all)))))
    refine z_goI (ws1 := (WFac z a1 (a2 0) (a3 0) a4 (a6 0) (a7 0) m1 ++ (WDay z a2 m2 ++ (WDay z a3 m3 ++ (WMin a4 (a5 0) m4 ++ (WDay z a5 y7 ++ (WArr z a6 m6 ++ (WLet z a7 m7)))))))) (va_runV (As := [.int p1]) (rest := []) ⟨hx, hb, hml, hown, hts⟩ (tX5_servedAt l D z tt a4 a5 m4 y4 p1 fu r6 y7 q8 _) (cwV 1 hts (gV4 aw548 aw549 aw550 aw49 aw551) rfl rfl rfl (by decide +kernel) ⟨Nat.le_of_ble_eq_true rfl, Nat.le_of_ble_eq_true rfl⟩) (z_preV hK hP hD hS hA hT hN hfo (va_recv hK hP (ci := 5) (q0 := 33) rfl rfl)) rfl rfl hl.1 rfl (lv_room (Nat.le_of_ble_eq_true rfl)) dX6_when_33 ⟨Nat.zero_le _, Nat.zero_le _⟩) hP hD hS hA hfo (fun H locs hP hD hS => ?_)
    obtain ⟨rfl, rfl, rfl⟩ := so3 hf
    exact ret_i hx hb hr hlocks hK hP hD hS dX6_when_36
  · have hf := if_t c3 hf
    refine lv_aload_n hx hb dX6_when_11 rfl (lv_at hl 0 rfl) ?_
    refine lv_iconst (v := (-1)) hx hb dX6_when_12 (by decide) ?_
    obtain ⟨r9, y10, q11, hf⟩ := bd2_use hf
    have hfo : Foc (WFac z a1 (a2 0) (a3 0) a4 (a6 0) (a7 0) m1 ++ (WDay z a2 m2 ++ (WDay z a3 m3 ++ (WMin a4 (a5 0) m4 ++ (WDay z a5 m5 ++ (WArr z a6 m6 ++ (WLet z a7 m7))))))) (WFac z a1 (a2 0) (a3 0) a4 (a6 0) (a7 0) m1) (WFac z a1 (a2 0) (a3 0) a4 (a6 0) (a7 0) y10 ++ (WDay z a2 m2 ++ (WDay z a3 m3 ++ (WMin a4 (a5 0) m4 ++ (WDay z a5 m5 ++ (WArr z a6 m6 ++ (WLet z a7 m7))))))) (WFac z a1 (a2 0) (a3 0) a4 (a6 0) (a7 0) y10) := (foc_l foc_all)
    refine z_goI (ws1 := (WFac z a1 (a2 0) (a3 0) a4 (a6 0) (a7 0) y10 ++ (WDay z a2 m2 ++ (WDay z a3 m3 ++ (WMin a4 (a5 0) m4 ++ (WDay z a5 m5 ++ (WArr z a6 m6 ++ (WLet z a7 m7)))))))) (va_runV (As := [.int (-1)]) (rest := []) ⟨hx, hb, hml, hown, hts⟩ (tX6_refuse l D z tt (a2 0) (a3 0) a4 (a6 0) (a7 0) a1 m1 (-1) fu r9 y10 q11 _) (cwV 1 hts (gV4 aw272 aw274 aw0 aw45 aw275) rfl rfl rfl (by decide +kernel) ⟨Nat.le_of_ble_eq_true rfl, Nat.le_of_ble_eq_true rfl⟩) (z_preV hK hP hD hS hA hT hN hfo (va_recv hK hP (ci := 6) (q0 := 0) rfl rfl)) rfl rfl hl.1 rfl (lv_room (Nat.le_of_ble_eq_true rfl)) dX6_when_13 ⟨Nat.zero_le _, Nat.zero_le _⟩) hP hD hS hA hfo (fun H locs hP hD hS => ?_)
    obtain ⟨rfl, rfl, rfl⟩ := so3 hf
    exact ret_i hx hb hr hlocks hK hP hD hS dX6_when_16
def pX6_best (fu : Nat) (m1 : Mem) (m2 : Mem) (m5 : Mem) (p1 : Int32) (p2 : Int32) : Option (Int32 × Mem × Mem) :=
  bd (pX2_hasComer fu m2 p1) fun r1 =>
  if r1 = 0 then
    bd2 (pX6_refuse fu m1 (-1)) fun r18 y19 =>
    some (r18, y19, m5)
  else
    jn1 (fun (u0 : Unit) =>
      bd (pX5_take fu m5 m2) fun y5 =>
      jn1 (fun (x7 : Int32) =>
        bd2 (pX5_bestKind fu y5 p1 x7) fun r9 y10 =>
        some (r9, m1, y10)) fun k8 =>
      if p2 = 0 then
        k8 1
      else
        k8 0) fun k4 =>
    if p2 = 0 then
      k4 ()
    else
      if p2 = 1 then
        k4 ()
      else
        bd2 (pX6_refuse fu m1 (-2)) fun r15 y16 =>
        some (r15, y16, m5)
set_option maxHeartbeats 4000000 in
set_option maxRecDepth 100000 in
theorem tX6_best (l : Launch) (D : va_G) (z tt : Nat → Nat) (a1 : Nat → Nat) (a2 : Nat → Nat) (a3 : Nat → Nat) (a4 : Nat) (a5 : Nat → Nat) (a6 : Nat → Nat) (a7 : Nat → Nat) (m1 : Mem) (m2 : Mem) (m3 : Mem) (m4 : Mem) (m5 : Mem) (m6 : Mem) (m7 : Mem) (p1 : Int32) (p2 : Int32) (fu : Nat) (rr : Int32) (m1' : Mem) (m5' : Mem) (hf : pX6_best fu m1 m2 m5 p1 p2 = some (rr, m1', m5')) : MetI l yX6_best wsX6_best ({ frames := 6, cells := 0, slots := 0, locals := 140 } : Room) D z tt ([.ref (a1 0), .int p1, .int p2] : List Value) (WFac z a1 (a2 0) (a3 0) a4 (a6 0) (a7 0) m1 ++ (WDay z a2 m2 ++ (WDay z a3 m3 ++ (WMin a4 (a5 0) m4 ++ (WDay z a5 m5 ++ (WArr z a6 m6 ++ (WLet z a7 m7))))))) rr (WFac z a1 (a2 0) (a3 0) a4 (a6 0) (a7 0) m1' ++ (WDay z a2 m2 ++ (WDay z a3 m3 ++ (WMin a4 (a5 0) m4 ++ (WDay z a5 m5' ++ (WArr z a6 m6 ++ (WLet z a7 m7))))))) := by
  intro sz
  refine Met.ofW (cc := cX6_best) (maxL := 3) (ret := (some .int)) (by decide) rfl ?_
  intro p e s m args below meth c s₁ B hml hv
  obtain ⟨rfl, hsz, hP, hK, hD0, hT, hN⟩ := hv
  have hx := B.exec
  have hb := B.bytes
  have hr := B.returns
  have hts : ∀ w ∈ wsA, w.before ([.ref (a1 0), .int p1, .int p2] : List Value).toArray s = true := fun w h => atoms_spec (ws := wsX6_best) B.pre w (List.mem_cons_of_mem _ h)
  have hown : s.vm.findClass RX6 = some m.cls := findClass_of_methodNamed B.named
  have hlocks := B.notSynchronized
  subst hsz
  have hD := hD0.self (sz := s.heap.size)
  generalize hAe : va_A (WFac z a1 (a2 0) (a3 0) a4 (a6 0) (a7 0) m1 ++ (WDay z a2 m2 ++ (WDay z a3 m3 ++ (WMin a4 (a5 0) m4 ++ (WDay z a5 m5 ++ (WArr z a6 m6 ++ (WLet z a7 m7))))))) s.heap.size = A at hD hT ⊢
  have hA : ∀ q : Nat, s.heap.size ≤ q → A q := fun q h => by rw [← hAe]; exact Or.inr h
  have hS : va_S A s.heap s.heap [] := va_S.rf
  have hl := lv_entry ([.ref (a1 0), .int p1, .int p2] : List Value) (n := 3) (Nat.le_of_ble_eq_true rfl)
  rw [lg_entry_eq]
  generalize (lg_sl ([.ref (a1 0), .int p1, .int p2] : List Value) ++ List.replicate (3 - (lg_sl ([.ref (a1 0), .int p1, .int p2] : List Value)).length) Slot.unset).toArray = ls at hl ⊢
  have hl : lv_has ls 3 [(0, .ref (a1 0)), (1, .int p1), (2, .int p2)] := hl
  unfold pX6_best at hf
  refine lv_aload_n hx hb dX6_best_0 rfl (lv_at hl 0 rfl) ?_
  refine va_get (D := D) (ci := 6) (v := .ref (a2 0)) (C := RX6) (T := TX6) (N := 9) hx hb hts iX6 hown hK hP 0 rfl rfl 0 (by decide) (hts _ aw240) (fun _ h9 => h9) rfl dX6_best_1 ?_
  refine lv_iload_n hx hb dX6_best_4 rfl (lv_at hl 1 rfl) ?_
  obtain ⟨r1, q2, hf⟩ := bd_use hf
  have hfo : Foc (WFac z a1 (a2 0) (a3 0) a4 (a6 0) (a7 0) m1 ++ (WDay z a2 m2 ++ (WDay z a3 m3 ++ (WMin a4 (a5 0) m4 ++ (WDay z a5 m5 ++ (WArr z a6 m6 ++ (WLet z a7 m7))))))) (WDay z a2 m2) (WFac z a1 (a2 0) (a3 0) a4 (a6 0) (a7 0) m1 ++ (WDay z a2 m2 ++ (WDay z a3 m3 ++ (WMin a4 (a5 0) m4 ++ (WDay z a5 m5 ++ (WArr z a6 m6 ++ (WLet z a7 m7))))))) (WDay z a2 m2) := (foc_r (foc_l foc_all))
  refine z_goI (ws1 := (WFac z a1 (a2 0) (a3 0) a4 (a6 0) (a7 0) m1 ++ (WDay z a2 m2 ++ (WDay z a3 m3 ++ (WMin a4 (a5 0) m4 ++ (WDay z a5 m5 ++ (WArr z a6 m6 ++ (WLet z a7 m7)))))))) (va_runV (As := [.int p1]) (rest := []) ⟨hx, hb, hml, hown, hts⟩ (tX2_hasComer l D z tt a2 m2 p1 fu r1 q2 _) (cwV 1 hts (gV4 aw373 aw364 aw365 aw46 aw366) rfl rfl rfl (by decide +kernel) ⟨Nat.le_of_ble_eq_true rfl, Nat.le_of_ble_eq_true rfl⟩) (z_preV hK hP hD hS hA hT hN hfo (va_recv hK hP (ci := 2) (q0 := 3) rfl rfl)) rfl rfl hl.1 rfl (lv_room (Nat.le_of_ble_eq_true rfl)) dX6_best_5 ⟨Nat.zero_le _, Nat.zero_le _⟩) hP hD hS hA hfo (fun H locs hP hD hS => ?_)
  refine lv_if_ne (tgt := 17) hx hb dX6_best_8 (by decide) (fun c3 => ?_) (fun c3 => ?_)
  · have hf := if_f c3 hf
    refine lv_iload_n hx hb dX6_best_17 rfl (lv_at hl 2 rfl) ?_
    obtain ⟨k4, ek4, hf⟩ := jn1_use hf
    have B33_k4 : ∀ (u0 : Unit) (H : Heap) (locs : List Loc), va_P D vwCl (WFac z a1 (a2 0) (a3 0) a4 (a6 0) (a7 0) m1 ++ (WDay z a2 m2 ++ (WDay z a3 m3 ++ (WMin a4 (a5 0) m4 ++ (WDay z a5 m5 ++ (WArr z a6 m6 ++ (WLet z a7 m7))))))) H → va_D A (WFac z a1 (a2 0) (a3 0) a4 (a6 0) (a7 0) m1 ++ (WDay z a2 m2 ++ (WDay z a3 m3 ++ (WMin a4 (a5 0) m4 ++ (WDay z a5 m5 ++ (WArr z a6 m6 ++ (WLet z a7 m7))))))) → va_S A s.heap H locs → ∀ (ls : Array Slot), lv_has ls 3 [(0, .ref (a1 0)), (1, .int p1), (2, .int p2)] → k4 u0 = some (rr, m1', m5') → GI p l e (headSpec wsX6_best ({ frames := 6, cells := 0, slots := 0, locals := 140 } : Room)).room s m ([.ref (a1 0), .int p1, .int p2] : List Value).toArray below meth c A D z rr (WFac z a1 (a2 0) (a3 0) a4 (a6 0) (a7 0) m1' ++ (WDay z a2 m2 ++ (WDay z a3 m3 ++ (WMin a4 (a5 0) m4 ++ (WDay z a5 m5' ++ (WArr z a6 m6 ++ (WLet z a7 m7))))))) H locs (F0 m 33 ls []) := by
      intro u0 H locs hP hD hS ls hl hf
      have hf := jn1_ap ek4 hf
      refine lv_aload_n hx hb dX6_best_33 rfl (lv_at hl 0 rfl) ?_
      refine va_get (D := D) (ci := 6) (v := .ref a4) (C := RX6) (T := TX6) (N := 9) hx hb hts iX6 hown hK hP 0 rfl rfl 2 (by decide) (hts _ aw242) (fun _ h9 => h9) rfl dX6_best_34 ?_
      refine lv_aload_n hx hb dX6_best_37 rfl (lv_at hl 0 rfl) ?_
      refine va_get (D := D) (ci := 6) (v := .ref (a2 0)) (C := RX6) (T := TX6) (N := 9) hx hb hts iX6 hown hK hP 0 rfl rfl 0 (by decide) (hts _ aw240) (fun _ h9 => h9) rfl dX6_best_38 ?_
      obtain ⟨y5, q6, hf⟩ := bd_use hf
      have hfo : Foc (WFac z a1 (a2 0) (a3 0) a4 (a6 0) (a7 0) m1 ++ (WDay z a2 m2 ++ (WDay z a3 m3 ++ (WMin a4 (a5 0) m4 ++ (WDay z a5 m5 ++ (WArr z a6 m6 ++ (WLet z a7 m7))))))) (WMin a4 (a5 0) m4 ++ (WDay z a5 m5 ++ (WDay z a2 m2))) (WFac z a1 (a2 0) (a3 0) a4 (a6 0) (a7 0) m1 ++ (WDay z a2 m2 ++ (WDay z a3 m3 ++ (WMin a4 (a5 0) m4 ++ (WDay z a5 y5 ++ (WArr z a6 m6 ++ (WLet z a7 m7))))))) (WMin a4 (a5 0) m4 ++ (WDay z a5 y5 ++ (WDay z a2 m2))) := (foc_rot (foc_r (foc_app foc_all (foc_r (foc_app foc_all (foc_l foc_all))))))
      refine z_goV (ws1 := (WFac z a1 (a2 0) (a3 0) a4 (a6 0) (a7 0) m1 ++ (WDay z a2 m2 ++ (WDay z a3 m3 ++ (WMin a4 (a5 0) m4 ++ (WDay z a5 y5 ++ (WArr z a6 m6 ++ (WLet z a7 m7)))))))) (va_runV (As := [.ref (a2 0)]) (rest := []) ⟨hx, hb, hml, hown, hts⟩ (tX5_take l D z tt a4 a5 a2 m4 m5 m2  fu y5 q6 _) (cwV 1 hts (gV4 aw284 aw285 aw286 aw49 aw287) rfl rfl rfl (by decide +kernel) ⟨Nat.le_of_ble_eq_true rfl, Nat.le_of_ble_eq_true rfl⟩) (z_preV hK hP hD hS hA hT hN hfo (va_recv hK hP (ci := 5) (q0 := 33) rfl rfl)) rfl rfl hl.1 rfl (lv_room (Nat.le_of_ble_eq_true rfl)) dX6_best_41 ⟨Nat.zero_le _, Nat.zero_le _⟩) hP hD hS hA hfo (fun H locs hP hD hS => ?_)
      refine lv_aload_n hx hb dX6_best_44 rfl (lv_at hl 0 rfl) ?_
      refine va_get (D := D) (ci := 6) (v := .ref a4) (C := RX6) (T := TX6) (N := 9) hx hb hts iX6 hown hK hP 0 rfl rfl 2 (by decide) (hts _ aw242) (fun _ h9 => h9) rfl dX6_best_45 ?_
      refine lv_iload_n hx hb dX6_best_48 rfl (lv_at hl 1 rfl) ?_
      refine lv_iload_n hx hb dX6_best_49 rfl (lv_at hl 2 rfl) ?_
      obtain ⟨k8, ek8, hf⟩ := jn1_use hf
      have B58_k8 : ∀ (x7 : Int32) (H : Heap) (locs : List Loc), va_P D vwCl (WFac z a1 (a2 0) (a3 0) a4 (a6 0) (a7 0) m1 ++ (WDay z a2 m2 ++ (WDay z a3 m3 ++ (WMin a4 (a5 0) m4 ++ (WDay z a5 y5 ++ (WArr z a6 m6 ++ (WLet z a7 m7))))))) H → va_D A (WFac z a1 (a2 0) (a3 0) a4 (a6 0) (a7 0) m1 ++ (WDay z a2 m2 ++ (WDay z a3 m3 ++ (WMin a4 (a5 0) m4 ++ (WDay z a5 y5 ++ (WArr z a6 m6 ++ (WLet z a7 m7))))))) → va_S A s.heap H locs → ∀ (ls : Array Slot), lv_has ls 3 [] → k8 x7 = some (rr, m1', m5') → GI p l e (headSpec wsX6_best ({ frames := 6, cells := 0, slots := 0, locals := 140 } : Room)).room s m ([.ref (a1 0), .int p1, .int p2] : List Value).toArray below meth c A D z rr (WFac z a1 (a2 0) (a3 0) a4 (a6 0) (a7 0) m1' ++ (WDay z a2 m2 ++ (WDay z a3 m3 ++ (WMin a4 (a5 0) m4 ++ (WDay z a5 m5' ++ (WArr z a6 m6 ++ (WLet z a7 m7))))))) H locs (F0 m 58 ls [.int x7, .int p1, .ref a4]) := by
        intro x7 H locs hP hD hS ls hl hf
        have hf := jn1_ap ek8 hf
        obtain ⟨r9, y10, q11, hf⟩ := bd2_use hf
        have hfo : Foc (WFac z a1 (a2 0) (a3 0) a4 (a6 0) (a7 0) m1 ++ (WDay z a2 m2 ++ (WDay z a3 m3 ++ (WMin a4 (a5 0) m4 ++ (WDay z a5 y5 ++ (WArr z a6 m6 ++ (WLet z a7 m7))))))) (WMin a4 (a5 0) m4 ++ (WDay z a5 y5)) (WFac z a1 (a2 0) (a3 0) a4 (a6 0) (a7 0) m1 ++ (WDay z a2 m2 ++ (WDay z a3 m3 ++ (WMin a4 (a5 0) m4 ++ (WDay z a5 y10 ++ (WArr z a6 m6 ++ (WLet z a7 m7))))))) (WMin a4 (a5 0) m4 ++ (WDay z a5 y10)) := (foc_r (foc_r (foc_r (foc_app foc_all (foc_l foc_all)))))
        refine z_goI (ws1 := (WFac z a1 (a2 0) (a3 0) a4 (a6 0) (a7 0) m1 ++ (WDay z a2 m2 ++ (WDay z a3 m3 ++ (WMin a4 (a5 0) m4 ++ (WDay z a5 y10 ++ (WArr z a6 m6 ++ (WLet z a7 m7)))))))) (va_runV (As := [.int p1, .int x7]) (rest := []) ⟨hx, hb, hml, hown, hts⟩ (tX5_bestKind l D z tt a4 a5 m4 y5 p1 x7 fu r9 y10 q11 _) (cwV 2 hts (gV4 aw556 aw557 aw558 aw49 aw559) rfl rfl rfl (by decide +kernel) ⟨Nat.le_of_ble_eq_true rfl, Nat.le_of_ble_eq_true rfl⟩) (z_preV hK hP hD hS hA hT hN hfo (va_recv hK hP (ci := 5) (q0 := 33) rfl rfl)) rfl rfl hl.1 rfl (lv_room (Nat.le_of_ble_eq_true rfl)) dX6_best_58 ⟨Nat.zero_le _, Nat.zero_le _⟩) hP hD hS hA hfo (fun H locs hP hD hS => ?_)
        obtain ⟨rfl, rfl, rfl⟩ := so3 hf
        exact ret_i hx hb hr hlocks hK hP hD hS dX6_best_61
      refine lv_if_ne (tgt := 57) hx hb dX6_best_50 (by decide) (fun c12 => ?_) (fun c12 => ?_)
      · have hf := if_f c12 hf
        refine lv_iconst (v := 0) hx hb dX6_best_57 (by decide) ?_
        exact B58_k8 _ _ _ hP hD hS _ (lv_sub hl [] rfl) hf
      · have hf := if_t c12 hf
        refine lv_iconst (v := 1) hx hb dX6_best_53 (by decide) ?_
        refine lv_goto (tgt := 58) hx hb dX6_best_54 (by decide) ?_
        exact B58_k8 _ _ _ hP hD hS _ (lv_sub hl [] rfl) hf
    refine lv_if_eq (tgt := 33) hx hb dX6_best_18 (by decide) (fun c13 => ?_) (fun c13 => ?_)
    · have hf := if_t c13 hf
      exact B33_k4 _ _ _ hP hD hS _ (lv_sub hl [0, 1, 2] rfl) hf
    · have hf := if_f c13 hf
      refine lv_iload_n hx hb dX6_best_21 rfl (lv_at hl 2 rfl) ?_
      refine lv_iconst (v := 1) hx hb dX6_best_22 (by decide) ?_
      refine lv_icmp_eq (tgt := 33) hx hb dX6_best_23 (by decide) (fun c14 => ?_) (fun c14 => ?_)
      · have hf := if_t c14 hf
        exact B33_k4 _ _ _ hP hD hS _ (lv_sub hl [0, 1, 2] rfl) hf
      · have hf := if_f c14 hf
        refine lv_aload_n hx hb dX6_best_26 rfl (lv_at hl 0 rfl) ?_
        refine lv_bipush (v := (-2)) hx hb dX6_best_27 (by decide) ?_
        obtain ⟨r15, y16, q17, hf⟩ := bd2_use hf
        have hfo : Foc (WFac z a1 (a2 0) (a3 0) a4 (a6 0) (a7 0) m1 ++ (WDay z a2 m2 ++ (WDay z a3 m3 ++ (WMin a4 (a5 0) m4 ++ (WDay z a5 m5 ++ (WArr z a6 m6 ++ (WLet z a7 m7))))))) (WFac z a1 (a2 0) (a3 0) a4 (a6 0) (a7 0) m1) (WFac z a1 (a2 0) (a3 0) a4 (a6 0) (a7 0) y16 ++ (WDay z a2 m2 ++ (WDay z a3 m3 ++ (WMin a4 (a5 0) m4 ++ (WDay z a5 m5 ++ (WArr z a6 m6 ++ (WLet z a7 m7))))))) (WFac z a1 (a2 0) (a3 0) a4 (a6 0) (a7 0) y16) := (foc_l foc_all)
        refine z_goI (ws1 := (WFac z a1 (a2 0) (a3 0) a4 (a6 0) (a7 0) y16 ++ (WDay z a2 m2 ++ (WDay z a3 m3 ++ (WMin a4 (a5 0) m4 ++ (WDay z a5 m5 ++ (WArr z a6 m6 ++ (WLet z a7 m7)))))))) (va_runV (As := [.int (-2)]) (rest := []) ⟨hx, hb, hml, hown, hts⟩ (tX6_refuse l D z tt (a2 0) (a3 0) a4 (a6 0) (a7 0) a1 m1 (-2) fu r15 y16 q17 _) (cwV 1 hts (gV4 aw272 aw274 aw0 aw45 aw275) rfl rfl rfl (by decide +kernel) ⟨Nat.le_of_ble_eq_true rfl, Nat.le_of_ble_eq_true rfl⟩) (z_preV hK hP hD hS hA hT hN hfo (va_recv hK hP (ci := 6) (q0 := 0) rfl rfl)) rfl rfl hl.1 rfl (lv_room (Nat.le_of_ble_eq_true rfl)) dX6_best_29 ⟨Nat.zero_le _, Nat.zero_le _⟩) hP hD hS hA hfo (fun H locs hP hD hS => ?_)
        obtain ⟨rfl, rfl, rfl⟩ := so3 hf
        exact ret_i hx hb hr hlocks hK hP hD hS dX6_best_32
  · have hf := if_t c3 hf
    refine lv_aload_n hx hb dX6_best_11 rfl (lv_at hl 0 rfl) ?_
    refine lv_iconst (v := (-1)) hx hb dX6_best_12 (by decide) ?_
    obtain ⟨r18, y19, q20, hf⟩ := bd2_use hf
    have hfo : Foc (WFac z a1 (a2 0) (a3 0) a4 (a6 0) (a7 0) m1 ++ (WDay z a2 m2 ++ (WDay z a3 m3 ++ (WMin a4 (a5 0) m4 ++ (WDay z a5 m5 ++ (WArr z a6 m6 ++ (WLet z a7 m7))))))) (WFac z a1 (a2 0) (a3 0) a4 (a6 0) (a7 0) m1) (WFac z a1 (a2 0) (a3 0) a4 (a6 0) (a7 0) y19 ++ (WDay z a2 m2 ++ (WDay z a3 m3 ++ (WMin a4 (a5 0) m4 ++ (WDay z a5 m5 ++ (WArr z a6 m6 ++ (WLet z a7 m7))))))) (WFac z a1 (a2 0) (a3 0) a4 (a6 0) (a7 0) y19) := (foc_l foc_all)
    refine z_goI (ws1 := (WFac z a1 (a2 0) (a3 0) a4 (a6 0) (a7 0) y19 ++ (WDay z a2 m2 ++ (WDay z a3 m3 ++ (WMin a4 (a5 0) m4 ++ (WDay z a5 m5 ++ (WArr z a6 m6 ++ (WLet z a7 m7)))))))) (va_runV (As := [.int (-1)]) (rest := []) ⟨hx, hb, hml, hown, hts⟩ (tX6_refuse l D z tt (a2 0) (a3 0) a4 (a6 0) (a7 0) a1 m1 (-1) fu r18 y19 q20 _) (cwV 1 hts (gV4 aw272 aw274 aw0 aw45 aw275) rfl rfl rfl (by decide +kernel) ⟨Nat.le_of_ble_eq_true rfl, Nat.le_of_ble_eq_true rfl⟩) (z_preV hK hP hD hS hA hT hN hfo (va_recv hK hP (ci := 6) (q0 := 0) rfl rfl)) rfl rfl hl.1 rfl (lv_room (Nat.le_of_ble_eq_true rfl)) dX6_best_13 ⟨Nat.zero_le _, Nat.zero_le _⟩) hP hD hS hA hfo (fun H locs hP hD hS => ?_)
    obtain ⟨rfl, rfl, rfl⟩ := so3 hf
    exact ret_i hx hb hr hlocks hK hP hD hS dX6_best_16
def pX6_rounds (fu : Nat) (m1 : Mem) (m2 : Mem) (m5 : Mem) (p1 : Int32) : Option (Int32 × Mem × Mem) :=
  jn1 (fun (u0 : Unit) =>
    bd2 (pX6_refuse fu m1 (-2)) fun r2 y3 =>
    some ((1000000000 - r2), y3, m5)) fun k1 =>
  if p1 < 0 then
    k1 ()
  else
    if p1 ≤ 3 then
      bd (pX5_take fu m5 m2) fun y7 =>
      bd2 (pX5_playRounds fu y7) fun r9 y10 =>
      if p1 = 0 then
        some (r9, m1, y10)
      else
        if p1 = 1 then
          bd (pX5_kindDigits fu y10) fun r21 =>
          some (r21, m1, y10)
        else
          if p1 = 2 then
            bd2 (pX5_costAnew fu y10) fun r18 y19 =>
            some (r18, m1, y19)
          else
            bd2 (pX5_lostByKinds fu y10) fun r15 y16 =>
            some (r15, m1, y16)
    else
      k1 ()
set_option maxHeartbeats 4000000 in
set_option maxRecDepth 100000 in
theorem tX6_rounds (l : Launch) (D : va_G) (z tt : Nat → Nat) (a1 : Nat → Nat) (a2 : Nat → Nat) (a3 : Nat → Nat) (a4 : Nat) (a5 : Nat → Nat) (a6 : Nat → Nat) (a7 : Nat → Nat) (m1 : Mem) (m2 : Mem) (m3 : Mem) (m4 : Mem) (m5 : Mem) (m6 : Mem) (m7 : Mem) (p1 : Int32) (fu : Nat) (rr : Int32) (m1' : Mem) (m5' : Mem) (hf : pX6_rounds fu m1 m2 m5 p1 = some (rr, m1', m5')) : MetI l yX6_rounds wsX6_rounds ({ frames := 7, cells := 0, slots := 0, locals := 164 } : Room) D z tt ([.ref (a1 0), .int p1] : List Value) (WFac z a1 (a2 0) (a3 0) a4 (a6 0) (a7 0) m1 ++ (WDay z a2 m2 ++ (WDay z a3 m3 ++ (WMin a4 (a5 0) m4 ++ (WDay z a5 m5 ++ (WArr z a6 m6 ++ (WLet z a7 m7))))))) rr (WFac z a1 (a2 0) (a3 0) a4 (a6 0) (a7 0) m1' ++ (WDay z a2 m2 ++ (WDay z a3 m3 ++ (WMin a4 (a5 0) m4 ++ (WDay z a5 m5' ++ (WArr z a6 m6 ++ (WLet z a7 m7))))))) := by
  intro sz
  refine Met.ofW (cc := cX6_rounds) (maxL := 3) (ret := (some .int)) (by decide) rfl ?_
  intro p e s m args below meth c s₁ B hml hv
  obtain ⟨rfl, hsz, hP, hK, hD0, hT, hN⟩ := hv
  have hx := B.exec
  have hb := B.bytes
  have hr := B.returns
  have hts : ∀ w ∈ wsA, w.before ([.ref (a1 0), .int p1] : List Value).toArray s = true := fun w h => atoms_spec (ws := wsX6_rounds) B.pre w (List.mem_cons_of_mem _ h)
  have hown : s.vm.findClass RX6 = some m.cls := findClass_of_methodNamed B.named
  have hlocks := B.notSynchronized
  subst hsz
  have hD := hD0.self (sz := s.heap.size)
  generalize hAe : va_A (WFac z a1 (a2 0) (a3 0) a4 (a6 0) (a7 0) m1 ++ (WDay z a2 m2 ++ (WDay z a3 m3 ++ (WMin a4 (a5 0) m4 ++ (WDay z a5 m5 ++ (WArr z a6 m6 ++ (WLet z a7 m7))))))) s.heap.size = A at hD hT ⊢
  have hA : ∀ q : Nat, s.heap.size ≤ q → A q := fun q h => by rw [← hAe]; exact Or.inr h
  have hS : va_S A s.heap s.heap [] := va_S.rf
  have hl := lv_entry ([.ref (a1 0), .int p1] : List Value) (n := 3) (Nat.le_of_ble_eq_true rfl)
  rw [lg_entry_eq]
  generalize (lg_sl ([.ref (a1 0), .int p1] : List Value) ++ List.replicate (3 - (lg_sl ([.ref (a1 0), .int p1] : List Value)).length) Slot.unset).toArray = ls at hl ⊢
  have hl : lv_has ls 3 [(0, .ref (a1 0)), (1, .int p1)] := hl
  unfold pX6_rounds at hf
  refine lv_iload_n hx hb dX6_rounds_0 rfl (lv_at hl 1 rfl) ?_
  obtain ⟨k1, ek1, hf⟩ := jn1_use hf
  have B9_k1 : ∀ (u0 : Unit) (H : Heap) (locs : List Loc), va_P D vwCl (WFac z a1 (a2 0) (a3 0) a4 (a6 0) (a7 0) m1 ++ (WDay z a2 m2 ++ (WDay z a3 m3 ++ (WMin a4 (a5 0) m4 ++ (WDay z a5 m5 ++ (WArr z a6 m6 ++ (WLet z a7 m7))))))) H → va_D A (WFac z a1 (a2 0) (a3 0) a4 (a6 0) (a7 0) m1 ++ (WDay z a2 m2 ++ (WDay z a3 m3 ++ (WMin a4 (a5 0) m4 ++ (WDay z a5 m5 ++ (WArr z a6 m6 ++ (WLet z a7 m7))))))) → va_S A s.heap H locs → ∀ (ls : Array Slot), lv_has ls 3 [(0, .ref (a1 0))] → k1 u0 = some (rr, m1', m5') → GI p l e (headSpec wsX6_rounds ({ frames := 7, cells := 0, slots := 0, locals := 164 } : Room)).room s m ([.ref (a1 0), .int p1] : List Value).toArray below meth c A D z rr (WFac z a1 (a2 0) (a3 0) a4 (a6 0) (a7 0) m1' ++ (WDay z a2 m2 ++ (WDay z a3 m3 ++ (WMin a4 (a5 0) m4 ++ (WDay z a5 m5' ++ (WArr z a6 m6 ++ (WLet z a7 m7))))))) H locs (F0 m 9 ls []) := by
    intro u0 H locs hP hD hS ls hl hf
    have hf := jn1_ap ek1 hf
    refine lv_ldc (v := 1000000000) hx hb hown (hts _ aw573) dX6_rounds_9 ?_
    refine lv_aload_n hx hb dX6_rounds_11 rfl (lv_at hl 0 rfl) ?_
    refine lv_bipush (v := (-2)) hx hb dX6_rounds_12 (by decide) ?_
    obtain ⟨r2, y3, q4, hf⟩ := bd2_use hf
    have hfo : Foc (WFac z a1 (a2 0) (a3 0) a4 (a6 0) (a7 0) m1 ++ (WDay z a2 m2 ++ (WDay z a3 m3 ++ (WMin a4 (a5 0) m4 ++ (WDay z a5 m5 ++ (WArr z a6 m6 ++ (WLet z a7 m7))))))) (WFac z a1 (a2 0) (a3 0) a4 (a6 0) (a7 0) m1) (WFac z a1 (a2 0) (a3 0) a4 (a6 0) (a7 0) y3 ++ (WDay z a2 m2 ++ (WDay z a3 m3 ++ (WMin a4 (a5 0) m4 ++ (WDay z a5 m5 ++ (WArr z a6 m6 ++ (WLet z a7 m7))))))) (WFac z a1 (a2 0) (a3 0) a4 (a6 0) (a7 0) y3) := (foc_l foc_all)
    refine z_goI (ws1 := (WFac z a1 (a2 0) (a3 0) a4 (a6 0) (a7 0) y3 ++ (WDay z a2 m2 ++ (WDay z a3 m3 ++ (WMin a4 (a5 0) m4 ++ (WDay z a5 m5 ++ (WArr z a6 m6 ++ (WLet z a7 m7)))))))) (va_runV (As := [.int (-2)]) (rest := [.int 1000000000]) ⟨hx, hb, hml, hown, hts⟩ (tX6_refuse l D z tt (a2 0) (a3 0) a4 (a6 0) (a7 0) a1 m1 (-2) fu r2 y3 q4 _) (cwV 1 hts (gV4 aw272 aw274 aw0 aw45 aw275) rfl rfl rfl (by decide +kernel) ⟨Nat.le_of_ble_eq_true rfl, Nat.le_of_ble_eq_true rfl⟩) (z_preV hK hP hD hS hA hT hN hfo (va_recv hK hP (ci := 6) (q0 := 0) rfl rfl)) rfl rfl hl.1 rfl (lv_room (Nat.le_of_ble_eq_true rfl)) dX6_rounds_14 ⟨Nat.zero_le _, Nat.zero_le _⟩) hP hD hS hA hfo (fun H locs hP hD hS => ?_)
    refine lv_isub hx hb dX6_rounds_17 ?_
    obtain ⟨rfl, rfl, rfl⟩ := so3 hf
    exact ret_i hx hb hr hlocks hK hP hD hS dX6_rounds_18
  refine lv_if_lt (tgt := 9) hx hb dX6_rounds_1 (by decide) (fun c5 => ?_) (fun c5 => ?_)
  · have hf := if_t c5 hf
    exact B9_k1 _ _ _ hP hD hS _ (lv_sub hl [0] rfl) hf
  · have hf := if_f c5 hf
    refine lv_iload_n hx hb dX6_rounds_4 rfl (lv_at hl 1 rfl) ?_
    refine lv_iconst (v := 3) hx hb dX6_rounds_5 (by decide) ?_
    refine lv_icmp_le (tgt := 19) hx hb dX6_rounds_6 (by decide) (fun c6 => ?_) (fun c6 => ?_)
    · have hf := if_t c6 hf
      refine lv_aload_n hx hb dX6_rounds_19 rfl (lv_at hl 0 rfl) ?_
      refine va_get (D := D) (ci := 6) (v := .ref a4) (C := RX6) (T := TX6) (N := 9) hx hb hts iX6 hown hK hP 0 rfl rfl 2 (by decide) (hts _ aw242) (fun _ h9 => h9) rfl dX6_rounds_20 ?_
      refine lv_aload_n hx hb dX6_rounds_23 rfl (lv_at hl 0 rfl) ?_
      refine va_get (D := D) (ci := 6) (v := .ref (a2 0)) (C := RX6) (T := TX6) (N := 9) hx hb hts iX6 hown hK hP 0 rfl rfl 0 (by decide) (hts _ aw240) (fun _ h9 => h9) rfl dX6_rounds_24 ?_
      obtain ⟨y7, q8, hf⟩ := bd_use hf
      have hfo : Foc (WFac z a1 (a2 0) (a3 0) a4 (a6 0) (a7 0) m1 ++ (WDay z a2 m2 ++ (WDay z a3 m3 ++ (WMin a4 (a5 0) m4 ++ (WDay z a5 m5 ++ (WArr z a6 m6 ++ (WLet z a7 m7))))))) (WMin a4 (a5 0) m4 ++ (WDay z a5 m5 ++ (WDay z a2 m2))) (WFac z a1 (a2 0) (a3 0) a4 (a6 0) (a7 0) m1 ++ (WDay z a2 m2 ++ (WDay z a3 m3 ++ (WMin a4 (a5 0) m4 ++ (WDay z a5 y7 ++ (WArr z a6 m6 ++ (WLet z a7 m7))))))) (WMin a4 (a5 0) m4 ++ (WDay z a5 y7 ++ (WDay z a2 m2))) := (foc_rot (foc_r (foc_app foc_all (foc_r (foc_app foc_all (foc_l foc_all))))))
      refine z_goV (ws1 := (WFac z a1 (a2 0) (a3 0) a4 (a6 0) (a7 0) m1 ++ (WDay z a2 m2 ++ (WDay z a3 m3 ++ (WMin a4 (a5 0) m4 ++ (WDay z a5 y7 ++ (WArr z a6 m6 ++ (WLet z a7 m7)))))))) (va_runV (As := [.ref (a2 0)]) (rest := []) ⟨hx, hb, hml, hown, hts⟩ (tX5_take l D z tt a4 a5 a2 m4 m5 m2  fu y7 q8 _) (cwV 1 hts (gV4 aw284 aw285 aw286 aw49 aw287) rfl rfl rfl (by decide +kernel) ⟨Nat.le_of_ble_eq_true rfl, Nat.le_of_ble_eq_true rfl⟩) (z_preV hK hP hD hS hA hT hN hfo (va_recv hK hP (ci := 5) (q0 := 33) rfl rfl)) rfl rfl hl.1 rfl (lv_room (Nat.le_of_ble_eq_true rfl)) dX6_rounds_27 ⟨Nat.zero_le _, Nat.zero_le _⟩) hP hD hS hA hfo (fun H locs hP hD hS => ?_)
      refine lv_aload_n hx hb dX6_rounds_30 rfl (lv_at hl 0 rfl) ?_
      refine va_get (D := D) (ci := 6) (v := .ref a4) (C := RX6) (T := TX6) (N := 9) hx hb hts iX6 hown hK hP 0 rfl rfl 2 (by decide) (hts _ aw242) (fun _ h9 => h9) rfl dX6_rounds_31 ?_
      obtain ⟨r9, y10, q11, hf⟩ := bd2_use hf
      have hfo : Foc (WFac z a1 (a2 0) (a3 0) a4 (a6 0) (a7 0) m1 ++ (WDay z a2 m2 ++ (WDay z a3 m3 ++ (WMin a4 (a5 0) m4 ++ (WDay z a5 y7 ++ (WArr z a6 m6 ++ (WLet z a7 m7))))))) (WMin a4 (a5 0) m4 ++ (WDay z a5 y7)) (WFac z a1 (a2 0) (a3 0) a4 (a6 0) (a7 0) m1 ++ (WDay z a2 m2 ++ (WDay z a3 m3 ++ (WMin a4 (a5 0) m4 ++ (WDay z a5 y10 ++ (WArr z a6 m6 ++ (WLet z a7 m7))))))) (WMin a4 (a5 0) m4 ++ (WDay z a5 y10)) := (foc_r (foc_r (foc_r (foc_app foc_all (foc_l foc_all)))))
      refine z_goI (ws1 := (WFac z a1 (a2 0) (a3 0) a4 (a6 0) (a7 0) m1 ++ (WDay z a2 m2 ++ (WDay z a3 m3 ++ (WMin a4 (a5 0) m4 ++ (WDay z a5 y10 ++ (WArr z a6 m6 ++ (WLet z a7 m7)))))))) (va_runV (As := []) (rest := []) ⟨hx, hb, hml, hown, hts⟩ (tX5_playRounds l D z tt a4 a5 m4 y7  fu r9 y10 q11 _) (cwV 0 hts (gV4 aw574 aw575 aw576 aw49 aw577) rfl rfl rfl (by decide +kernel) ⟨Nat.le_of_ble_eq_true rfl, Nat.le_of_ble_eq_true rfl⟩) (z_preV hK hP hD hS hA hT hN hfo (va_recv hK hP (ci := 5) (q0 := 33) rfl rfl)) rfl rfl hl.1 rfl (lv_room (Nat.le_of_ble_eq_true rfl)) dX6_rounds_34 ⟨Nat.zero_le _, Nat.zero_le _⟩) hP hD hS hA hfo (fun H locs hP hD hS => ?_)
      refine lv_istore_n (lv' := [(2, .int r9), (0, .ref (a1 0)), (1, .int p1)]) hx hb dX6_rounds_37 rfl hl (by decide) rfl (fun ls hl => ?_)
      refine lv_iload_n hx hb dX6_rounds_38 rfl (lv_at hl 2 rfl) ?_
      refine lv_if_ne (tgt := 44) hx hb dX6_rounds_39 (by decide) (fun c12 => ?_) (fun c12 => ?_)
      · have hf := if_f c12 hf
        refine lv_iload_n hx hb dX6_rounds_44 rfl (lv_at hl 2 rfl) ?_
        refine lv_iconst (v := 1) hx hb dX6_rounds_45 (by decide) ?_
        refine lv_icmp_ne (tgt := 57) hx hb dX6_rounds_46 (by decide) (fun c13 => ?_) (fun c13 => ?_)
        · have hf := if_f c13 hf
          refine lv_iload_n hx hb dX6_rounds_57 rfl (lv_at hl 2 rfl) ?_
          refine lv_iconst (v := 2) hx hb dX6_rounds_58 (by decide) ?_
          refine lv_icmp_ne (tgt := 72) hx hb dX6_rounds_59 (by decide) (fun c14 => ?_) (fun c14 => ?_)
          · have hf := if_f c14 hf
            refine lv_aload_n hx hb dX6_rounds_72 rfl (lv_at hl 1 rfl) ?_
            refine va_get (D := D) (ci := 6) (v := .ref a4) (C := RX6) (T := TX6) (N := 9) hx hb hts iX6 hown hK hP 0 rfl rfl 2 (by decide) (hts _ aw242) (fun _ h9 => h9) rfl dX6_rounds_73 ?_
            obtain ⟨r15, y16, q17, hf⟩ := bd2_use hf
            have hfo : Foc (WFac z a1 (a2 0) (a3 0) a4 (a6 0) (a7 0) m1 ++ (WDay z a2 m2 ++ (WDay z a3 m3 ++ (WMin a4 (a5 0) m4 ++ (WDay z a5 y10 ++ (WArr z a6 m6 ++ (WLet z a7 m7))))))) (WMin a4 (a5 0) m4 ++ (WDay z a5 y10)) (WFac z a1 (a2 0) (a3 0) a4 (a6 0) (a7 0) m1 ++ (WDay z a2 m2 ++ (WDay z a3 m3 ++ (WMin a4 (a5 0) m4 ++ (WDay z a5 y16 ++ (WArr z a6 m6 ++ (WLet z a7 m7))))))) (WMin a4 (a5 0) m4 ++ (WDay z a5 y16)) := (foc_r (foc_r (foc_r (foc_app foc_all (foc_l foc_all)))))
            refine z_goI (ws1 := (WFac z a1 (a2 0) (a3 0) a4 (a6 0) (a7 0) m1 ++ (WDay z a2 m2 ++ (WDay z a3 m3 ++ (WMin a4 (a5 0) m4 ++ (WDay z a5 y16 ++ (WArr z a6 m6 ++ (WLet z a7 m7)))))))) (va_runV (As := []) (rest := []) ⟨hx, hb, hml, hown, hts⟩ (tX5_lostByKinds l D z tt a4 a5 m4 y10  fu r15 y16 q17 _) (cwV 0 hts (gV4 aw584 aw585 aw586 aw49 aw587) rfl rfl rfl (by decide +kernel) ⟨Nat.le_of_ble_eq_true rfl, Nat.le_of_ble_eq_true rfl⟩) (z_preV hK hP hD hS hA hT hN hfo (va_recv hK hP (ci := 5) (q0 := 33) rfl rfl)) rfl rfl hl.1 rfl (lv_room (Nat.le_of_ble_eq_true rfl)) dX6_rounds_76 ⟨Nat.zero_le _, Nat.zero_le _⟩) hP hD hS hA hfo (fun H locs hP hD hS => ?_)
            obtain ⟨rfl, rfl, rfl⟩ := so3 hf
            exact ret_i hx hb hr hlocks hK hP hD hS dX6_rounds_79
          · have hf := if_t c14 hf
            refine lv_aload_n hx hb dX6_rounds_62 rfl (lv_at hl 1 rfl) ?_
            refine va_get (D := D) (ci := 6) (v := .ref a4) (C := RX6) (T := TX6) (N := 9) hx hb hts iX6 hown hK hP 0 rfl rfl 2 (by decide) (hts _ aw242) (fun _ h9 => h9) rfl dX6_rounds_63 ?_
            obtain ⟨r18, y19, q20, hf⟩ := bd2_use hf
            have hfo : Foc (WFac z a1 (a2 0) (a3 0) a4 (a6 0) (a7 0) m1 ++ (WDay z a2 m2 ++ (WDay z a3 m3 ++ (WMin a4 (a5 0) m4 ++ (WDay z a5 y10 ++ (WArr z a6 m6 ++ (WLet z a7 m7))))))) (WMin a4 (a5 0) m4 ++ (WDay z a5 y10)) (WFac z a1 (a2 0) (a3 0) a4 (a6 0) (a7 0) m1 ++ (WDay z a2 m2 ++ (WDay z a3 m3 ++ (WMin a4 (a5 0) m4 ++ (WDay z a5 y19 ++ (WArr z a6 m6 ++ (WLet z a7 m7))))))) (WMin a4 (a5 0) m4 ++ (WDay z a5 y19)) := (foc_r (foc_r (foc_r (foc_app foc_all (foc_l foc_all)))))
            refine z_goI (ws1 := (WFac z a1 (a2 0) (a3 0) a4 (a6 0) (a7 0) m1 ++ (WDay z a2 m2 ++ (WDay z a3 m3 ++ (WMin a4 (a5 0) m4 ++ (WDay z a5 y19 ++ (WArr z a6 m6 ++ (WLet z a7 m7)))))))) (va_runV (As := []) (rest := []) ⟨hx, hb, hml, hown, hts⟩ (tX5_costAnew l D z tt a4 a5 m4 y10  fu r18 y19 q20 _) (cwV 0 hts (gV4 aw583 aw562 aw563 aw49 aw564) rfl rfl rfl (by decide +kernel) ⟨Nat.le_of_ble_eq_true rfl, Nat.le_of_ble_eq_true rfl⟩) (z_preV hK hP hD hS hA hT hN hfo (va_recv hK hP (ci := 5) (q0 := 33) rfl rfl)) rfl rfl hl.1 rfl (lv_room (Nat.le_of_ble_eq_true rfl)) dX6_rounds_66 ⟨Nat.zero_le _, Nat.zero_le _⟩) hP hD hS hA hfo (fun H locs hP hD hS => ?_)
            refine lv_goto (tgt := 79) hx hb dX6_rounds_69 (by decide) ?_
            obtain ⟨rfl, rfl, rfl⟩ := so3 hf
            exact ret_i hx hb hr hlocks hK hP hD hS dX6_rounds_79
        · have hf := if_t c13 hf
          refine lv_aload_n hx hb dX6_rounds_49 rfl (lv_at hl 1 rfl) ?_
          refine va_get (D := D) (ci := 6) (v := .ref a4) (C := RX6) (T := TX6) (N := 9) hx hb hts iX6 hown hK hP 0 rfl rfl 2 (by decide) (hts _ aw242) (fun _ h9 => h9) rfl dX6_rounds_50 ?_
          obtain ⟨r21, q22, hf⟩ := bd_use hf
          have hfo : Foc (WFac z a1 (a2 0) (a3 0) a4 (a6 0) (a7 0) m1 ++ (WDay z a2 m2 ++ (WDay z a3 m3 ++ (WMin a4 (a5 0) m4 ++ (WDay z a5 y10 ++ (WArr z a6 m6 ++ (WLet z a7 m7))))))) (WMin a4 (a5 0) m4 ++ (WDay z a5 y10)) (WFac z a1 (a2 0) (a3 0) a4 (a6 0) (a7 0) m1 ++ (WDay z a2 m2 ++ (WDay z a3 m3 ++ (WMin a4 (a5 0) m4 ++ (WDay z a5 y10 ++ (WArr z a6 m6 ++ (WLet z a7 m7))))))) (WMin a4 (a5 0) m4 ++ (WDay z a5 y10)) := (foc_r (foc_r (foc_r (foc_app foc_all (foc_l foc_all)))))
          refine z_goI (ws1 := (WFac z a1 (a2 0) (a3 0) a4 (a6 0) (a7 0) m1 ++ (WDay z a2 m2 ++ (WDay z a3 m3 ++ (WMin a4 (a5 0) m4 ++ (WDay z a5 y10 ++ (WArr z a6 m6 ++ (WLet z a7 m7)))))))) (va_runV (As := []) (rest := []) ⟨hx, hb, hml, hown, hts⟩ (tX5_kindDigits l D z tt a4 a5 m4 y10  fu r21 q22 _) (cwV 0 hts (gV4 aw579 aw580 aw581 aw49 aw582) rfl rfl rfl (by decide +kernel) ⟨Nat.le_of_ble_eq_true rfl, Nat.le_of_ble_eq_true rfl⟩) (z_preV hK hP hD hS hA hT hN hfo (va_recv hK hP (ci := 5) (q0 := 33) rfl rfl)) rfl rfl hl.1 rfl (lv_room (Nat.le_of_ble_eq_true rfl)) dX6_rounds_53 ⟨Nat.zero_le _, Nat.zero_le _⟩) hP hD hS hA hfo (fun H locs hP hD hS => ?_)
          obtain ⟨rfl, rfl, rfl⟩ := so3 hf
          exact ret_i hx hb hr hlocks hK hP hD hS dX6_rounds_56
      · have hf := if_t c12 hf
        refine lv_iload_n hx hb dX6_rounds_42 rfl (lv_at hl 0 rfl) ?_
        obtain ⟨rfl, rfl, rfl⟩ := so3 hf
        exact ret_i hx hb hr hlocks hK hP hD hS dX6_rounds_43
    · have hf := if_f c6 hf
      exact B9_k1 _ _ _ hP hD hS _ (lv_sub hl [0] rfl) hf
def pX6_marks (fu : Nat) (m1 : Mem) (m2 : Mem) (m5 : Mem) (p1 : Int32) : Option (Int32 × Mem × Mem) :=
  jn1 (fun (u0 : Unit) =>
    bd (pX5_take fu m5 m2) fun y2 =>
    jn1 (fun (x4 : Int32) =>
      bd2 (pX5_bestMark fu y2 x4) fun r6 y7 =>
      some (r6, m1, y7)) fun k5 =>
    if p1 = 0 then
      k5 1
    else
      k5 0) fun k1 =>
  if p1 = 0 then
    k1 ()
  else
    if p1 = 1 then
      k1 ()
    else
      bd2 (pX6_refuse fu m1 (-2)) fun r12 y13 =>
      some (r12, y13, m5)
set_option maxHeartbeats 4000000 in
set_option maxRecDepth 100000 in
theorem tX6_marks (l : Launch) (D : va_G) (z tt : Nat → Nat) (a1 : Nat → Nat) (a2 : Nat → Nat) (a3 : Nat → Nat) (a4 : Nat) (a5 : Nat → Nat) (a6 : Nat → Nat) (a7 : Nat → Nat) (m1 : Mem) (m2 : Mem) (m3 : Mem) (m4 : Mem) (m5 : Mem) (m6 : Mem) (m7 : Mem) (p1 : Int32) (fu : Nat) (rr : Int32) (m1' : Mem) (m5' : Mem) (hf : pX6_marks fu m1 m2 m5 p1 = some (rr, m1', m5')) : MetI l yX6_marks wsX6_marks ({ frames := 6, cells := 0, slots := 0, locals := 137 } : Room) D z tt ([.ref (a1 0), .int p1] : List Value) (WFac z a1 (a2 0) (a3 0) a4 (a6 0) (a7 0) m1 ++ (WDay z a2 m2 ++ (WDay z a3 m3 ++ (WMin a4 (a5 0) m4 ++ (WDay z a5 m5 ++ (WArr z a6 m6 ++ (WLet z a7 m7))))))) rr (WFac z a1 (a2 0) (a3 0) a4 (a6 0) (a7 0) m1' ++ (WDay z a2 m2 ++ (WDay z a3 m3 ++ (WMin a4 (a5 0) m4 ++ (WDay z a5 m5' ++ (WArr z a6 m6 ++ (WLet z a7 m7))))))) := by
  intro sz
  refine Met.ofW (cc := cX6_marks) (maxL := 2) (ret := (some .int)) (by decide) rfl ?_
  intro p e s m args below meth c s₁ B hml hv
  obtain ⟨rfl, hsz, hP, hK, hD0, hT, hN⟩ := hv
  have hx := B.exec
  have hb := B.bytes
  have hr := B.returns
  have hts : ∀ w ∈ wsA, w.before ([.ref (a1 0), .int p1] : List Value).toArray s = true := fun w h => atoms_spec (ws := wsX6_marks) B.pre w (List.mem_cons_of_mem _ h)
  have hown : s.vm.findClass RX6 = some m.cls := findClass_of_methodNamed B.named
  have hlocks := B.notSynchronized
  subst hsz
  have hD := hD0.self (sz := s.heap.size)
  generalize hAe : va_A (WFac z a1 (a2 0) (a3 0) a4 (a6 0) (a7 0) m1 ++ (WDay z a2 m2 ++ (WDay z a3 m3 ++ (WMin a4 (a5 0) m4 ++ (WDay z a5 m5 ++ (WArr z a6 m6 ++ (WLet z a7 m7))))))) s.heap.size = A at hD hT ⊢
  have hA : ∀ q : Nat, s.heap.size ≤ q → A q := fun q h => by rw [← hAe]; exact Or.inr h
  have hS : va_S A s.heap s.heap [] := va_S.rf
  have hl := lv_entry ([.ref (a1 0), .int p1] : List Value) (n := 2) (Nat.le_of_ble_eq_true rfl)
  rw [lg_entry_eq]
  generalize (lg_sl ([.ref (a1 0), .int p1] : List Value) ++ List.replicate (2 - (lg_sl ([.ref (a1 0), .int p1] : List Value)).length) Slot.unset).toArray = ls at hl ⊢
  have hl : lv_has ls 2 [(0, .ref (a1 0)), (1, .int p1)] := hl
  unfold pX6_marks at hf
  refine lv_iload_n hx hb dX6_marks_0 rfl (lv_at hl 1 rfl) ?_
  obtain ⟨k1, ek1, hf⟩ := jn1_use hf
  have B16_k1 : ∀ (u0 : Unit) (H : Heap) (locs : List Loc), va_P D vwCl (WFac z a1 (a2 0) (a3 0) a4 (a6 0) (a7 0) m1 ++ (WDay z a2 m2 ++ (WDay z a3 m3 ++ (WMin a4 (a5 0) m4 ++ (WDay z a5 m5 ++ (WArr z a6 m6 ++ (WLet z a7 m7))))))) H → va_D A (WFac z a1 (a2 0) (a3 0) a4 (a6 0) (a7 0) m1 ++ (WDay z a2 m2 ++ (WDay z a3 m3 ++ (WMin a4 (a5 0) m4 ++ (WDay z a5 m5 ++ (WArr z a6 m6 ++ (WLet z a7 m7))))))) → va_S A s.heap H locs → ∀ (ls : Array Slot), lv_has ls 2 [(0, .ref (a1 0)), (1, .int p1)] → k1 u0 = some (rr, m1', m5') → GI p l e (headSpec wsX6_marks ({ frames := 6, cells := 0, slots := 0, locals := 137 } : Room)).room s m ([.ref (a1 0), .int p1] : List Value).toArray below meth c A D z rr (WFac z a1 (a2 0) (a3 0) a4 (a6 0) (a7 0) m1' ++ (WDay z a2 m2 ++ (WDay z a3 m3 ++ (WMin a4 (a5 0) m4 ++ (WDay z a5 m5' ++ (WArr z a6 m6 ++ (WLet z a7 m7))))))) H locs (F0 m 16 ls []) := by
    intro u0 H locs hP hD hS ls hl hf
    have hf := jn1_ap ek1 hf
    refine lv_aload_n hx hb dX6_marks_16 rfl (lv_at hl 0 rfl) ?_
    refine va_get (D := D) (ci := 6) (v := .ref a4) (C := RX6) (T := TX6) (N := 9) hx hb hts iX6 hown hK hP 0 rfl rfl 2 (by decide) (hts _ aw242) (fun _ h9 => h9) rfl dX6_marks_17 ?_
    refine lv_aload_n hx hb dX6_marks_20 rfl (lv_at hl 0 rfl) ?_
    refine va_get (D := D) (ci := 6) (v := .ref (a2 0)) (C := RX6) (T := TX6) (N := 9) hx hb hts iX6 hown hK hP 0 rfl rfl 0 (by decide) (hts _ aw240) (fun _ h9 => h9) rfl dX6_marks_21 ?_
    obtain ⟨y2, q3, hf⟩ := bd_use hf
    have hfo : Foc (WFac z a1 (a2 0) (a3 0) a4 (a6 0) (a7 0) m1 ++ (WDay z a2 m2 ++ (WDay z a3 m3 ++ (WMin a4 (a5 0) m4 ++ (WDay z a5 m5 ++ (WArr z a6 m6 ++ (WLet z a7 m7))))))) (WMin a4 (a5 0) m4 ++ (WDay z a5 m5 ++ (WDay z a2 m2))) (WFac z a1 (a2 0) (a3 0) a4 (a6 0) (a7 0) m1 ++ (WDay z a2 m2 ++ (WDay z a3 m3 ++ (WMin a4 (a5 0) m4 ++ (WDay z a5 y2 ++ (WArr z a6 m6 ++ (WLet z a7 m7))))))) (WMin a4 (a5 0) m4 ++ (WDay z a5 y2 ++ (WDay z a2 m2))) := (foc_rot (foc_r (foc_app foc_all (foc_r (foc_app foc_all (foc_l foc_all))))))
    refine z_goV (ws1 := (WFac z a1 (a2 0) (a3 0) a4 (a6 0) (a7 0) m1 ++ (WDay z a2 m2 ++ (WDay z a3 m3 ++ (WMin a4 (a5 0) m4 ++ (WDay z a5 y2 ++ (WArr z a6 m6 ++ (WLet z a7 m7)))))))) (va_runV (As := [.ref (a2 0)]) (rest := []) ⟨hx, hb, hml, hown, hts⟩ (tX5_take l D z tt a4 a5 a2 m4 m5 m2  fu y2 q3 _) (cwV 1 hts (gV4 aw284 aw285 aw286 aw49 aw287) rfl rfl rfl (by decide +kernel) ⟨Nat.le_of_ble_eq_true rfl, Nat.le_of_ble_eq_true rfl⟩) (z_preV hK hP hD hS hA hT hN hfo (va_recv hK hP (ci := 5) (q0 := 33) rfl rfl)) rfl rfl hl.1 rfl (lv_room (Nat.le_of_ble_eq_true rfl)) dX6_marks_24 ⟨Nat.zero_le _, Nat.zero_le _⟩) hP hD hS hA hfo (fun H locs hP hD hS => ?_)
    refine lv_aload_n hx hb dX6_marks_27 rfl (lv_at hl 0 rfl) ?_
    refine va_get (D := D) (ci := 6) (v := .ref a4) (C := RX6) (T := TX6) (N := 9) hx hb hts iX6 hown hK hP 0 rfl rfl 2 (by decide) (hts _ aw242) (fun _ h9 => h9) rfl dX6_marks_28 ?_
    refine lv_iload_n hx hb dX6_marks_31 rfl (lv_at hl 1 rfl) ?_
    obtain ⟨k5, ek5, hf⟩ := jn1_use hf
    have B40_k5 : ∀ (x4 : Int32) (H : Heap) (locs : List Loc), va_P D vwCl (WFac z a1 (a2 0) (a3 0) a4 (a6 0) (a7 0) m1 ++ (WDay z a2 m2 ++ (WDay z a3 m3 ++ (WMin a4 (a5 0) m4 ++ (WDay z a5 y2 ++ (WArr z a6 m6 ++ (WLet z a7 m7))))))) H → va_D A (WFac z a1 (a2 0) (a3 0) a4 (a6 0) (a7 0) m1 ++ (WDay z a2 m2 ++ (WDay z a3 m3 ++ (WMin a4 (a5 0) m4 ++ (WDay z a5 y2 ++ (WArr z a6 m6 ++ (WLet z a7 m7))))))) → va_S A s.heap H locs → ∀ (ls : Array Slot), lv_has ls 2 [] → k5 x4 = some (rr, m1', m5') → GI p l e (headSpec wsX6_marks ({ frames := 6, cells := 0, slots := 0, locals := 137 } : Room)).room s m ([.ref (a1 0), .int p1] : List Value).toArray below meth c A D z rr (WFac z a1 (a2 0) (a3 0) a4 (a6 0) (a7 0) m1' ++ (WDay z a2 m2 ++ (WDay z a3 m3 ++ (WMin a4 (a5 0) m4 ++ (WDay z a5 m5' ++ (WArr z a6 m6 ++ (WLet z a7 m7))))))) H locs (F0 m 40 ls [.int x4, .ref a4]) := by
      intro x4 H locs hP hD hS ls hl hf
      have hf := jn1_ap ek5 hf
      obtain ⟨r6, y7, q8, hf⟩ := bd2_use hf
      have hfo : Foc (WFac z a1 (a2 0) (a3 0) a4 (a6 0) (a7 0) m1 ++ (WDay z a2 m2 ++ (WDay z a3 m3 ++ (WMin a4 (a5 0) m4 ++ (WDay z a5 y2 ++ (WArr z a6 m6 ++ (WLet z a7 m7))))))) (WMin a4 (a5 0) m4 ++ (WDay z a5 y2)) (WFac z a1 (a2 0) (a3 0) a4 (a6 0) (a7 0) m1 ++ (WDay z a2 m2 ++ (WDay z a3 m3 ++ (WMin a4 (a5 0) m4 ++ (WDay z a5 y7 ++ (WArr z a6 m6 ++ (WLet z a7 m7))))))) (WMin a4 (a5 0) m4 ++ (WDay z a5 y7)) := (foc_r (foc_r (foc_r (foc_app foc_all (foc_l foc_all)))))
      refine z_goI (ws1 := (WFac z a1 (a2 0) (a3 0) a4 (a6 0) (a7 0) m1 ++ (WDay z a2 m2 ++ (WDay z a3 m3 ++ (WMin a4 (a5 0) m4 ++ (WDay z a5 y7 ++ (WArr z a6 m6 ++ (WLet z a7 m7)))))))) (va_runV (As := [.int x4]) (rest := []) ⟨hx, hb, hml, hown, hts⟩ (tX5_bestMark l D z tt a4 a5 m4 y2 x4 fu r6 y7 q8 _) (cwV 1 hts (gV4 aw593 aw594 aw595 aw49 aw596) rfl rfl rfl (by decide +kernel) ⟨Nat.le_of_ble_eq_true rfl, Nat.le_of_ble_eq_true rfl⟩) (z_preV hK hP hD hS hA hT hN hfo (va_recv hK hP (ci := 5) (q0 := 33) rfl rfl)) rfl rfl hl.1 rfl (lv_room (Nat.le_of_ble_eq_true rfl)) dX6_marks_40 ⟨Nat.zero_le _, Nat.zero_le _⟩) hP hD hS hA hfo (fun H locs hP hD hS => ?_)
      obtain ⟨rfl, rfl, rfl⟩ := so3 hf
      exact ret_i hx hb hr hlocks hK hP hD hS dX6_marks_43
    refine lv_if_ne (tgt := 39) hx hb dX6_marks_32 (by decide) (fun c9 => ?_) (fun c9 => ?_)
    · have hf := if_f c9 hf
      refine lv_iconst (v := 0) hx hb dX6_marks_39 (by decide) ?_
      exact B40_k5 _ _ _ hP hD hS _ (lv_sub hl [] rfl) hf
    · have hf := if_t c9 hf
      refine lv_iconst (v := 1) hx hb dX6_marks_35 (by decide) ?_
      refine lv_goto (tgt := 40) hx hb dX6_marks_36 (by decide) ?_
      exact B40_k5 _ _ _ hP hD hS _ (lv_sub hl [] rfl) hf
  refine lv_if_eq (tgt := 16) hx hb dX6_marks_1 (by decide) (fun c10 => ?_) (fun c10 => ?_)
  · have hf := if_t c10 hf
    exact B16_k1 _ _ _ hP hD hS _ (lv_sub hl [0, 1] rfl) hf
  · have hf := if_f c10 hf
    refine lv_iload_n hx hb dX6_marks_4 rfl (lv_at hl 1 rfl) ?_
    refine lv_iconst (v := 1) hx hb dX6_marks_5 (by decide) ?_
    refine lv_icmp_eq (tgt := 16) hx hb dX6_marks_6 (by decide) (fun c11 => ?_) (fun c11 => ?_)
    · have hf := if_t c11 hf
      exact B16_k1 _ _ _ hP hD hS _ (lv_sub hl [0, 1] rfl) hf
    · have hf := if_f c11 hf
      refine lv_aload_n hx hb dX6_marks_9 rfl (lv_at hl 0 rfl) ?_
      refine lv_bipush (v := (-2)) hx hb dX6_marks_10 (by decide) ?_
      obtain ⟨r12, y13, q14, hf⟩ := bd2_use hf
      have hfo : Foc (WFac z a1 (a2 0) (a3 0) a4 (a6 0) (a7 0) m1 ++ (WDay z a2 m2 ++ (WDay z a3 m3 ++ (WMin a4 (a5 0) m4 ++ (WDay z a5 m5 ++ (WArr z a6 m6 ++ (WLet z a7 m7))))))) (WFac z a1 (a2 0) (a3 0) a4 (a6 0) (a7 0) m1) (WFac z a1 (a2 0) (a3 0) a4 (a6 0) (a7 0) y13 ++ (WDay z a2 m2 ++ (WDay z a3 m3 ++ (WMin a4 (a5 0) m4 ++ (WDay z a5 m5 ++ (WArr z a6 m6 ++ (WLet z a7 m7))))))) (WFac z a1 (a2 0) (a3 0) a4 (a6 0) (a7 0) y13) := (foc_l foc_all)
      refine z_goI (ws1 := (WFac z a1 (a2 0) (a3 0) a4 (a6 0) (a7 0) y13 ++ (WDay z a2 m2 ++ (WDay z a3 m3 ++ (WMin a4 (a5 0) m4 ++ (WDay z a5 m5 ++ (WArr z a6 m6 ++ (WLet z a7 m7)))))))) (va_runV (As := [.int (-2)]) (rest := []) ⟨hx, hb, hml, hown, hts⟩ (tX6_refuse l D z tt (a2 0) (a3 0) a4 (a6 0) (a7 0) a1 m1 (-2) fu r12 y13 q14 _) (cwV 1 hts (gV4 aw272 aw274 aw0 aw45 aw275) rfl rfl rfl (by decide +kernel) ⟨Nat.le_of_ble_eq_true rfl, Nat.le_of_ble_eq_true rfl⟩) (z_preV hK hP hD hS hA hT hN hfo (va_recv hK hP (ci := 6) (q0 := 0) rfl rfl)) rfl rfl hl.1 rfl (lv_room (Nat.le_of_ble_eq_true rfl)) dX6_marks_12 ⟨Nat.zero_le _, Nat.zero_le _⟩) hP hD hS hA hfo (fun H locs hP hD hS => ?_)
      obtain ⟨rfl, rfl, rfl⟩ := so3 hf
      exact ret_i hx hb hr hlocks hK hP hD hS dX6_marks_15
def pX6_second (fu : Nat) (m2 : Mem) (m5 : Mem) : Option (Int32 × Mem) :=
  bd (pX5_take fu m5 m2) fun y1 =>
  bd2 (pX5_savedBySecond fu y1) fun r3 y4 =>
  some (r3, y4)
set_option maxHeartbeats 4000000 in
set_option maxRecDepth 100000 in
theorem tX6_second (l : Launch) (D : va_G) (z tt : Nat → Nat) (a1 : Nat → Nat) (a2 : Nat → Nat) (a3 : Nat → Nat) (a4 : Nat) (a5 : Nat → Nat) (a6 : Nat → Nat) (a7 : Nat → Nat) (m1 : Mem) (m2 : Mem) (m3 : Mem) (m4 : Mem) (m5 : Mem) (m6 : Mem) (m7 : Mem)  (fu : Nat) (rr : Int32) (m5' : Mem) (hf : pX6_second fu m2 m5 = some (rr, m5')) : MetI l yX6_second wsX6_second ({ frames := 6, cells := 0, slots := 0, locals := 133 } : Room) D z tt ([.ref (a1 0)] : List Value) (WFac z a1 (a2 0) (a3 0) a4 (a6 0) (a7 0) m1 ++ (WDay z a2 m2 ++ (WDay z a3 m3 ++ (WMin a4 (a5 0) m4 ++ (WDay z a5 m5 ++ (WArr z a6 m6 ++ (WLet z a7 m7))))))) rr (WFac z a1 (a2 0) (a3 0) a4 (a6 0) (a7 0) m1 ++ (WDay z a2 m2 ++ (WDay z a3 m3 ++ (WMin a4 (a5 0) m4 ++ (WDay z a5 m5' ++ (WArr z a6 m6 ++ (WLet z a7 m7))))))) := by
  intro sz
  refine Met.ofW (cc := cX6_second) (maxL := 1) (ret := (some .int)) (by decide) rfl ?_
  intro p e s m args below meth c s₁ B hml hv
  obtain ⟨rfl, hsz, hP, hK, hD0, hT, hN⟩ := hv
  have hx := B.exec
  have hb := B.bytes
  have hr := B.returns
  have hts : ∀ w ∈ wsA, w.before ([.ref (a1 0)] : List Value).toArray s = true := fun w h => atoms_spec (ws := wsX6_second) B.pre w (List.mem_cons_of_mem _ h)
  have hown : s.vm.findClass RX6 = some m.cls := findClass_of_methodNamed B.named
  have hlocks := B.notSynchronized
  subst hsz
  have hD := hD0.self (sz := s.heap.size)
  generalize hAe : va_A (WFac z a1 (a2 0) (a3 0) a4 (a6 0) (a7 0) m1 ++ (WDay z a2 m2 ++ (WDay z a3 m3 ++ (WMin a4 (a5 0) m4 ++ (WDay z a5 m5 ++ (WArr z a6 m6 ++ (WLet z a7 m7))))))) s.heap.size = A at hD hT ⊢
  have hA : ∀ q : Nat, s.heap.size ≤ q → A q := fun q h => by rw [← hAe]; exact Or.inr h
  have hS : va_S A s.heap s.heap [] := va_S.rf
  have hl := lv_entry ([.ref (a1 0)] : List Value) (n := 1) (Nat.le_of_ble_eq_true rfl)
  rw [lg_entry_eq]
  generalize (lg_sl ([.ref (a1 0)] : List Value) ++ List.replicate (1 - (lg_sl ([.ref (a1 0)] : List Value)).length) Slot.unset).toArray = ls at hl ⊢
  have hl : lv_has ls 1 [(0, .ref (a1 0))] := hl
  unfold pX6_second at hf
  refine lv_aload_n hx hb dX6_second_0 rfl (lv_at hl 0 rfl) ?_
  refine va_get (D := D) (ci := 6) (v := .ref a4) (C := RX6) (T := TX6) (N := 9) hx hb hts iX6 hown hK hP 0 rfl rfl 2 (by decide) (hts _ aw242) (fun _ h9 => h9) rfl dX6_second_1 ?_
  refine lv_aload_n hx hb dX6_second_4 rfl (lv_at hl 0 rfl) ?_
  refine va_get (D := D) (ci := 6) (v := .ref (a2 0)) (C := RX6) (T := TX6) (N := 9) hx hb hts iX6 hown hK hP 0 rfl rfl 0 (by decide) (hts _ aw240) (fun _ h9 => h9) rfl dX6_second_5 ?_
  obtain ⟨y1, q2, hf⟩ := bd_use hf
  have hfo : Foc (WFac z a1 (a2 0) (a3 0) a4 (a6 0) (a7 0) m1 ++ (WDay z a2 m2 ++ (WDay z a3 m3 ++ (WMin a4 (a5 0) m4 ++ (WDay z a5 m5 ++ (WArr z a6 m6 ++ (WLet z a7 m7))))))) (WMin a4 (a5 0) m4 ++ (WDay z a5 m5 ++ (WDay z a2 m2))) (WFac z a1 (a2 0) (a3 0) a4 (a6 0) (a7 0) m1 ++ (WDay z a2 m2 ++ (WDay z a3 m3 ++ (WMin a4 (a5 0) m4 ++ (WDay z a5 y1 ++ (WArr z a6 m6 ++ (WLet z a7 m7))))))) (WMin a4 (a5 0) m4 ++ (WDay z a5 y1 ++ (WDay z a2 m2))) := (foc_rot (foc_r (foc_app foc_all (foc_r (foc_app foc_all (foc_l foc_all))))))
  refine z_goV (ws1 := (WFac z a1 (a2 0) (a3 0) a4 (a6 0) (a7 0) m1 ++ (WDay z a2 m2 ++ (WDay z a3 m3 ++ (WMin a4 (a5 0) m4 ++ (WDay z a5 y1 ++ (WArr z a6 m6 ++ (WLet z a7 m7)))))))) (va_runV (As := [.ref (a2 0)]) (rest := []) ⟨hx, hb, hml, hown, hts⟩ (tX5_take l D z tt a4 a5 a2 m4 m5 m2  fu y1 q2 _) (cwV 1 hts (gV4 aw284 aw285 aw286 aw49 aw287) rfl rfl rfl (by decide +kernel) ⟨Nat.le_of_ble_eq_true rfl, Nat.le_of_ble_eq_true rfl⟩) (z_preV hK hP hD hS hA hT hN hfo (va_recv hK hP (ci := 5) (q0 := 33) rfl rfl)) rfl rfl hl.1 rfl (lv_room (Nat.le_of_ble_eq_true rfl)) dX6_second_8 ⟨Nat.zero_le _, Nat.zero_le _⟩) hP hD hS hA hfo (fun H locs hP hD hS => ?_)
  refine lv_aload_n hx hb dX6_second_11 rfl (lv_at hl 0 rfl) ?_
  refine va_get (D := D) (ci := 6) (v := .ref a4) (C := RX6) (T := TX6) (N := 9) hx hb hts iX6 hown hK hP 0 rfl rfl 2 (by decide) (hts _ aw242) (fun _ h9 => h9) rfl dX6_second_12 ?_
  obtain ⟨r3, y4, q5, hf⟩ := bd2_use hf
  have hfo : Foc (WFac z a1 (a2 0) (a3 0) a4 (a6 0) (a7 0) m1 ++ (WDay z a2 m2 ++ (WDay z a3 m3 ++ (WMin a4 (a5 0) m4 ++ (WDay z a5 y1 ++ (WArr z a6 m6 ++ (WLet z a7 m7))))))) (WMin a4 (a5 0) m4 ++ (WDay z a5 y1)) (WFac z a1 (a2 0) (a3 0) a4 (a6 0) (a7 0) m1 ++ (WDay z a2 m2 ++ (WDay z a3 m3 ++ (WMin a4 (a5 0) m4 ++ (WDay z a5 y4 ++ (WArr z a6 m6 ++ (WLet z a7 m7))))))) (WMin a4 (a5 0) m4 ++ (WDay z a5 y4)) := (foc_r (foc_r (foc_r (foc_app foc_all (foc_l foc_all)))))
  refine z_goI (ws1 := (WFac z a1 (a2 0) (a3 0) a4 (a6 0) (a7 0) m1 ++ (WDay z a2 m2 ++ (WDay z a3 m3 ++ (WMin a4 (a5 0) m4 ++ (WDay z a5 y4 ++ (WArr z a6 m6 ++ (WLet z a7 m7)))))))) (va_runV (As := []) (rest := []) ⟨hx, hb, hml, hown, hts⟩ (tX5_savedBySecond l D z tt a4 a5 m4 y1  fu r3 y4 q5 _) (cwV 0 hts (gV4 aw601 aw602 aw603 aw49 aw604) rfl rfl rfl (by decide +kernel) ⟨Nat.le_of_ble_eq_true rfl, Nat.le_of_ble_eq_true rfl⟩) (z_preV hK hP hD hS hA hT hN hfo (va_recv hK hP (ci := 5) (q0 := 33) rfl rfl)) rfl rfl hl.1 rfl (lv_room (Nat.le_of_ble_eq_true rfl)) dX6_second_15 ⟨Nat.zero_le _, Nat.zero_le _⟩) hP hD hS hA hfo (fun H locs hP hD hS => ?_)
  obtain ⟨rfl, rfl⟩ := so2 hf
  exact ret_i hx hb hr hlocks hK hP hD hS dX6_second_18
