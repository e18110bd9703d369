/-! PURE 23: what a call of the model keeps; letters, rows, lines, images -/
def KD (m m' : Mem) : Prop := EQM m m' ∧ (∀ k, k < 8 → m' 10 k = m 10 k) ∧ m' 0 17 = m 0 17
theorem KD.of {m m' : Mem} (h0 : ∀ k, k = 15 ∨ k = 16 ∨ k = 17 → m' 0 k = m 0 k) (ho : ∀ o, 2 ≤ o → o < 16 → m' o = m o) : KD m m' :=
  ⟨⟨h0 15 (by omega), h0 16 (by omega), fun o i h1 h2 _ => by rw [ho o h1 (by omega)], fun o i h1 h2 _ => by rw [ho o (by omega) h2]⟩, fun k _ => by rw [ho 10 (by omega) (by omega)], h0 17 (by omega)⟩
theorem RD.keep {n m m' : Mem} (h : RD n m) (g : KD m m') : RD n m' := by
  obtain ⟨nn, t, l, hD⟩ := h
  exact ⟨nn, t, l, hD.cgm g.1 g.2.1 g.2.2⟩
theorem RI.keep {k m m' : Mem} (h : RI k m) (g1 : m' 0 27 = m 0 27) (g2 : ∀ i, i < 100 → m' 20 i = m 20 i) : RI k m' := by
  rcases h with a | ⟨a, nn', t', l', s, hs, k1, k2, k3, k4⟩
  · exact Or.inl (g1.trans a)
  · exact Or.inr ⟨g1.trans a, nn', t', l', s, hs, fun i hi => by rw [g2 _ (by omega)]; exact k1 i hi, by rw [g2 _ (by omega)]; exact k2, by rw [g2 _ (by omega)]; exact k3, by rw [g2 _ (by omega)]; exact k4⟩
theorem RLt.keep {le m m' : Mem} (h : RLt le m) (g1 : m' 0 23 = m 0 23) (g2 : m' 16 = m 16) : RLt le m' := by
  obtain ⟨c, c1, c2, c3, c4⟩ := h
  exact ⟨c, c1, c2, g1.trans c3, by rw [g2]; exact c4⟩
theorem RF.keep {f m m' : Mem} (h : RF f m) (g1 : m' 1 = m 1) (g2 : m' 22 = m 22) (g3 : m' 0 32 = m 0 32) (g4 : m' 0 27 = m 0 27) : RF f m' := by
  obtain ⟨⟨r, r1, r2, r3, r4⟩, f2, f8⟩ := h
  exact ⟨⟨r, r1, r2, g3.trans r3, fun i hi => by rw [g2]; exact r4 i hi⟩, by rw [g1]; exact f2, by rw [g4]; exact f8⟩
theorem RR.fw {f n n' k le m m' : Mem} (h : RR f n k le m) (g : FW m m') (hD : RD n' m') : RR f n' k le m' :=
  ⟨h.1.keep g.1 (g.2.1 22 (by omega)) (g.2.2 32 (by omega) (by omega) (by omega)) (g.2.2 27 (by omega) (by omega) (by omega)), hD, h.2.2.1.keep (g.2.2 27 (by omega) (by omega) (by omega)) (fun i _ => by rw [g.2.1 20 (by omega)]), h.2.2.2.keep (g.2.2 23 (by omega) (by omega) (by omega)) (g.2.1 16 (by omega))⟩
theorem up_row0 (x : Mem) (b : Nat) (v : Int32) (o : Nat) (h : o ≠ 0) : up2 x 0 b v o = x o := by rw [up2_rw, if_neg h]
theorem up_rowo (x : Mem) (a b : Nat) (v : Int32) (o : Nat) (h : o ≠ a) : up2 x a b v o = x o := by rw [up2_rw, if_neg h]
theorem feed_R {fu : Nat} {f n k le m : Mem} (h : RR f n k le m) (p : Int32) : ∃ r f' le' m', pX6_feed fu f le p = some (r, f', le') ∧ pX7_feed fu m p = some (r, m') ∧ RR f' n k le' m' := by
  obtain ⟨f4, m4, b1, b2, hr4⟩ := ref4 (fu := fu) h
  obtain ⟨f6, m6, c1, c2, hr6⟩ := ref6 (fu := fu) h
  obtain ⟨hF, hDD, hI, ⟨c, d1, d2, d3, d4⟩⟩ := h
  unfold pX6_feed pX7_feed pX7_bound
  by_cases p0 : 0 ≤ p
  · by_cases p1 : p ≤ 255
    · obtain ⟨v, v1, rfl⟩ := nI_of2 (x := p) (M := 255) (n := 255) rfl ((i_nlt p 0).mpr p0) p1
      rw [if_pos p0, if_pos p0, if_pos p1]
      simp only [jn1_eq, if_neg ((i_nlt 255 (nI v)).mpr p1), bd_some, reduceIte, d2, d3]
      by_cases w : c < 96
      · have ne : ¬ nI c = 96 := fun e => by
          have := (nI_eq (a := c) (b := 96) (by omega) (by omega)).mp e
          omega
        unfold pX4_append
        simp only [if_pos (show nI c < 96 from nI_lt w (by decide)), if_neg ne, reduceIte, d2, if_neg (show ¬ 96 ≤ nI c from nI_ge w (by decide)), ck_ok w (show 96 < 2 ^ 31 by decide), nI_cl (show c < 2 ^ 31 by omega), lt_eq, bd2_some, up2_same, up2_row (o := 1) (o' := 0) (show 0 ≠ 1 by omega), up2_row (o := 16) (o' := 0) (show 0 ≠ 16 by omega), d3, nI_1]
        refine ⟨_, _, _, _, rfl, rfl, ?_, ?_, ?_, ?_⟩
        · refine hF.keep ?_ ?_ ?_ ?_
          · rw [up_row0 _ _ _ _ (by omega), up_rowo _ _ _ _ _ (by omega)]
          · rw [up_row0 _ _ _ _ (by omega), up_rowo _ _ _ _ _ (by omega)]
          · rw [up2_col (by omega), up2_row (by omega)]
          · rw [up2_col (by omega), up2_row (by omega)]
        · refine hDD.keep (KD.of (fun k hk => ?_) (fun o h1 h2 => ?_))
          · rw [up2_col (by omega), up2_row (by omega)]
          · rw [up_row0 _ _ _ _ (by omega), up_rowo _ _ _ _ _ (by omega)]
        · refine hI.keep ?_ (fun i _ => ?_)
          · rw [up2_col (by omega), up2_row (by omega)]
          · rw [up2_row (by omega), up2_row (by omega)]
        · refine ⟨c + 1, by omega, up2_same _ _ _ _, up2_same _ _ _ _, fun i hi => ?_⟩
          rw [up2_row (o := 0) (o' := 1) (by omega), up2_row (o := 0) (o' := 16) (by omega)]
          by_cases e : i = c
          · subst e
            rw [up2_same, up2_same]
            exact ⟨rfl, v, by omega, v1, rfl⟩
          · rw [up2_col e, up2_col e]
            exact d4 i (by omega)
      · have e : c = 96 := by omega
        subst e
        simp only [if_neg (show ¬ nI 96 < 96 by decide), if_pos (show nI 96 = 96 from rfl), c1, c2, bd2_some, if_neg (show ¬ (-6 : Int32) = 0 by decide)]
        exact ⟨_, _, _, _, rfl, rfl, hr6⟩
    · rw [if_pos p0, if_pos p0, if_neg p1]
      simp only [jn1_eq, if_pos ((i_nle p 255).mp p1), bd_some, if_neg (show ¬ (-6 : Int32) = 0 by decide), c1, c2, bd2_some]
      exact ⟨_, _, _, _, rfl, rfl, hr6⟩
  · rw [if_neg p0, if_neg p0]
    simp only [jn1_eq, bd_some, if_neg (show ¬ (-4 : Int32) = 0 by decide), b1, b2, bd2_some]
    exact ⟨_, _, _, _, rfl, rfl, hr4⟩
theorem row_R {fu : Nat} {f n k le m : Mem} (h : RR f n k le m) (p : Int32) : ∃ r f' m', pX6_row fu f p = some (r, f') ∧ pX7_row fu m p = some (r, m') ∧ RR f' n k le m' := by
  obtain ⟨f4, m4, b1, b2, hr4⟩ := ref4 (fu := fu) h
  obtain ⟨f6, m6, c1, c2, hr6⟩ := ref6 (fu := fu) h
  obtain ⟨⟨⟨c, d1, d2, d3, d4⟩, f2, f8⟩, hDD, hI, hL⟩ := h
  unfold pX6_row pX7_row pX7_bound
  by_cases p0 : 0 ≤ p
  · by_cases p1 : p ≤ 99
    · rw [if_pos p0, if_pos p0, if_pos p1]
      simp only [jn1_eq, if_neg ((i_nlt 99 p).mpr p1), bd_some, reduceIte, d2, d3]
      by_cases w : c < 12
      · have ne : ¬ nI c = 12 := fun e => by
          have := (nI_eq (a := c) (b := 12) (by omega) (by omega)).mp e
          omega
        simp only [if_pos (show nI c < 12 from nI_lt w (by decide)), if_neg ne, reduceIte, ck_ok w (show 12 < 2 ^ 31 by decide), nI_cl (show c < 2 ^ 31 by omega), lt_eq, up2_same, up2_row (o := 1) (o' := 0) (show 0 ≠ 1 by omega), up2_row (o := 22) (o' := 0) (show 0 ≠ 22 by omega), d2, d3, nI_1]
        refine ⟨_, _, _, rfl, rfl, ⟨⟨c + 1, by omega, up2_same _ _ _ _, up2_same _ _ _ _, fun i hi => ?_⟩, fun i h1 h2 => ?_, ?_⟩, ?_, ?_, ?_⟩
        · rw [up2_row (o := 0) (o' := 1) (by omega), up2_row (o := 0) (o' := 22) (by omega)]
          by_cases e : i = c
          · subst e
            rw [up2_same, up2_same]
          · rw [up2_col e, up2_col e]
            exact d4 i (by omega)
        · rw [up2_row (by omega), up2_row (by omega), up2_row (by omega), up2_row (by omega)]
          exact f2 i h1 h2
        · rw [up2_col (by omega), up2_row (by omega), up2_col (by omega), up2_row (by omega)]
          exact f8
        · refine hDD.keep (KD.of (fun k hk => ?_) (fun o h1 h2 => ?_))
          · rw [up2_col (by omega), up2_row (by omega)]
          · rw [up_row0 _ _ _ _ (by omega), up_rowo _ _ _ _ _ (by omega)]
        · refine hI.keep ?_ (fun i _ => ?_)
          · rw [up2_col (by omega), up2_row (by omega)]
          · rw [up2_row (by omega), up2_row (by omega)]
        · refine hL.keep ?_ ?_
          · rw [up2_col (by omega), up2_row (by omega)]
          · rw [up_row0 _ _ _ _ (by omega), up_rowo _ _ _ _ _ (by omega)]
      · have e : c = 12 := by omega
        subst e
        simp only [if_neg (show ¬ nI 12 < 12 by decide), if_pos (show nI 12 = 12 from rfl), c1, c2, bd2_some, if_neg (show ¬ (-6 : Int32) = 0 by decide)]
        exact ⟨_, _, _, rfl, rfl, hr6⟩
    · rw [if_pos p0, if_pos p0, if_neg p1]
      simp only [jn1_eq, if_pos ((i_nle p 99).mp p1), bd_some, if_neg (show ¬ (-6 : Int32) = 0 by decide), c1, c2, bd2_some]
      exact ⟨_, _, _, rfl, rfl, hr6⟩
  · rw [if_neg p0, if_neg p0]
    simp only [jn1_eq, bd_some, if_neg (show ¬ (-4 : Int32) = 0 by decide), b1, b2, bd2_some]
    exact ⟨_, _, _, rfl, rfl, hr4⟩
theorem line_R {fu : Nat} {f n k le m : Mem} (h : RR f n k le m) (p : Int32) : ∃ r f' m', pX6_line fu f n p = some (r, f') ∧ pX7_line fu m p = some (r, m') ∧ RR f' n k le m' := by
  obtain ⟨f4, m4, b1, b2, hr4⟩ := ref4 (fu := fu) h
  have hh := h
  obtain ⟨hF, ⟨nn, t, l, hD⟩, -⟩ := hh
  have hl := hD.2.2.2.1.len
  have n8 := hD.1.1
  unfold pX6_line pX7_line
  rw [hD.2.2.2.2.1, hD.2.2.2.1.1]
  by_cases p0 : 0 ≤ p
  · rw [if_pos p0, if_pos p0]
    rcases pk_ix p (n := l.length) (by omega) with a | a | ⟨j, hj, rfl⟩
    · exact absurd a ((i_nlt p 0).mpr p0)
    · rw [if_pos a, if_pos a]
      exact ⟨_, _, _, rfl, rfl, h⟩
    · simp only [if_neg (nI_ge hj (show l.length < 2 ^ 31 by omega)), ck_ok (show j < 8 by omega) (show 8 < 2 ^ 31 by decide), nI_cl (show j < 2 ^ 31 by omega), hD.2.2.2.2.2 j hj, hD.2.2.2.1.2.1 j hj]
      exact ⟨_, _, _, rfl, rfl, h⟩
  · rw [if_neg p0, if_neg p0, b1, b2, bd2_some, bd2_some]
    exact ⟨_, _, _, rfl, rfl, hr4⟩
theorem anew_R {fu : Nat} {f n k le m : Mem} (h : RR f n k le m) (hfu : 200 < fu) : ∃ r n' m', pX6_anew fu n = some (r, n') ∧ pX7_anew fu m = some (r, m') ∧ RR f n' k le m' := by
  have hh := h
  obtain ⟨hF, ⟨nn, t, l, hD⟩, -⟩ := hh
  obtain ⟨d1, m1, e1, e2, hD1, hS⟩ := begin_sim (fu := fu) hD.bq (by omega)
  unfold pX6_anew pX7_anew
  rw [lt_eq, lt_eq, e1, e2, bd_some, bd_some, ← hD.1.2.2.2.1]
  exact ⟨_, _, _, rfl, rfl, h.fw hS.2.1.fw ⟨_, _, _, hD1⟩⟩
theorem go_R {fu : Nat} {f n k le m : Mem} (h : RR f n k le m) (hfu : 200 < fu) (p : Int32) : ∃ r f' n' m', pX6_go fu f n p = some (r, f', n') ∧ pX7_go fu m p = some (r, m') ∧ RR f' n' k le m' := by
  obtain ⟨f3, m3, a1, a2, hr3⟩ := ref3 (fu := fu) h
  obtain ⟨f4, m4, b1, b2, hr4⟩ := ref4 (fu := fu) h
  obtain ⟨f6, m6, c1, c2, hr6⟩ := ref6 (fu := fu) h
  have hh := h
  obtain ⟨hF, ⟨nn, t, l, hD⟩, -⟩ := hh
  unfold pX6_go pX7_go pX7_bound
  by_cases p0 : 1 ≤ p
  · by_cases p1 : p ≤ 60
    · obtain ⟨v, v1, rfl⟩ := nI_of2 (x := p) (M := 60) (n := 60) rfl (fun z => absurd ((i_lt p 0).mp z) (by have := (i_le 1 p).mp p0; rw [show (1 : Int32).toInt = 1 from rfl] at this; rw [show (0 : Int32).toInt = 0 from rfl]; omega)) p1
      obtain ⟨b, e1, e2, e3, e4⟩ := isOver_sim (fu := fu) hD (by omega)
      rw [if_pos p0, if_pos p0, if_pos p1, if_pos p1]
      simp only [jn1_eq, bd_some, reduceIte, e1, e2]
      by_cases b0 : b = 0
      · obtain ⟨d', m', t', l', g1, g2, hD2, hS⟩ := pass_sim (fu := fu) hD (p := v) (by omega) hfu
        rw [if_pos b0, if_pos b0, g1, bd_some]
        have : d' 0 6 = m' 0 16 := hD2.1.2.2.2.1
        rw [this]
        exact ⟨_, _, _, _, rfl, g2, h.fw hS.2.1.fw ⟨_, _, _, hD2⟩⟩
      · rw [if_neg b0, if_neg b0, if_neg (show ¬ (-3 : Int32) = 0 by decide), a1, a2, bd2_some, bd2_some]
        exact ⟨_, _, _, _, rfl, rfl, hr3⟩
    · rw [if_pos p0, if_pos p0, if_neg p1, if_neg p1]
      simp only [jn1_eq, bd_some, if_neg (show ¬ (-6 : Int32) = 0 by decide), c1, c2, bd2_some]
      exact ⟨_, _, _, _, rfl, rfl, hr6⟩
  · rw [if_neg p0, if_neg p0]
    simp only [jn1_eq, bd_some, if_neg (show ¬ (-4 : Int32) = 0 by decide), b1, b2, bd2_some]
    exact ⟨_, _, _, _, rfl, rfl, hr4⟩
theorem image_R {fu : Nat} {f n k le m : Mem} (h : RR f n k le m) (hfu : 200 < fu) : ∃ r f' k' m', pX6_image fu f n k = some (r, f', k') ∧ pX7_image fu m = some (r, m') ∧ RR f' n k' le m' := by
  obtain ⟨⟨⟨c, d1, d2, d3, d4⟩, f2, f8⟩, ⟨nn, t, l, hD⟩, hI, hL⟩ := h
  obtain ⟨y1, hy1⟩ : ∃ y, y = up2 m 0 27 1 := ⟨_, rfl⟩
  have ro : ∀ o, o ≠ 0 → y1 o = m o := fun o ho => by rw [hy1]; exact up_row0 _ _ _ _ ho
  have rc : ∀ i, i ≠ 27 → y1 0 i = m 0 i := fun i hi => by rw [hy1]; exact up2_col hi
  have hD1 : DAYR nn t n y1 l := hD.cgm ⟨rc 15 (by omega), rc 16 (by omega), fun o i _ _ _ => by rw [ro o (by omega)], fun o i _ _ _ => by rw [ro o (by omega)]⟩ (fun i _ => by rw [ro 10 (by omega)]) (rc 17 (by omega))
  obtain ⟨y, e, hDy⟩ := copy_day (fu := fu) (z := k) hD1 (by omega)
  obtain ⟨m1, e1, k1, k2, k3, k4, k5, k6, k7⟩ := save_all (fu := fu) (p := 0) (m := y1) (by omega) (by omega)
  have e1 : pX7_passesAll fu y1 0 1 = some m1 := e1
  unfold pX6_image pX7_image
  rw [e, bd_some, lt_eq, lt_eq, ← hy1, e1, bd_some]
  have e16 : m1 0 16 = n 0 6 := by rw [k6 16 (by omega) (by omega)]; exact hD1.1.2.2.2.1.symm
  rw [e16]
  refine ⟨_, _, _, _, rfl, rfl, ⟨⟨c, d1, ?_, ?_, fun i hi => ?_⟩, fun i h1 h2 => ?_, ?_⟩, ⟨nn, t, l, ?_⟩, Or.inr ⟨?_, nn, t, l, y1, hDy, k1, k2, k3, k4⟩, hL.keep ?_ ?_⟩
  · rw [up2_col (by omega)]; exact d2
  · rw [k6 32 (by omega) (by omega), rc 32 (by omega)]; exact d3
  · rw [up2_row (by omega), k5 22 (by omega) (by omega), ro 22 (by omega)]; exact d4 i hi
  · rw [up2_row (by omega), k5 1 (by omega) (by omega), ro 1 (by omega)]; exact f2 i h1 h2
  · rw [up2_same, k6 27 (by omega) (by omega), hy1, up2_same]
  · exact hD1.cgm ⟨k6 15 (by omega) (by omega), k6 16 (by omega) (by omega), fun o i _ _ _ => by rw [k5 o (by omega) (by omega)], fun o i _ _ _ => by rw [k5 o (by omega) (by omega)]⟩ (fun i _ => by rw [k5 10 (by omega) (by omega)]) (k6 17 (by omega) (by omega))
  · rw [k6 27 (by omega) (by omega), hy1, up2_same]
  · rw [k6 23 (by omega) (by omega), rc 23 (by omega)]
  · rw [k5 16 (by omega) (by omega), ro 16 (by omega)]
theorem restore_R {fu : Nat} {f n k le m : Mem} (h : RR f n k le m) (hfu : 200 < fu) : ∃ r f' n' m', pX6_restore fu f n k = some (r, f', n') ∧ pX7_restore fu m = some (r, m') ∧ RR f' n' k le m' := by
  obtain ⟨f3, m3, a1, a2, hr3⟩ := ref3 (fu := fu) h
  have hh := h
  obtain ⟨hF, hDD, hI, hL⟩ := hh
  unfold pX6_restore pX7_restore
  rw [hF.2.2]
  rcases hI with a | ⟨a, nn, t, l, s, hs, k1, k2, k3, k4⟩
  · rw [if_pos a, if_pos a, a1, a2, bd2_some, bd2_some]
    exact ⟨_, _, _, _, rfl, rfl, hr3⟩
  · have ne : ¬ m 0 27 = 0 := by rw [a]; decide
    obtain ⟨y, e, hDy⟩ := copy_day (fu := fu) (z := n) hs (by omega)
    obtain ⟨m4, e4, g1, g2, g3, g4, g5⟩ := load_all (fu := fu) (p := 0) (m := m) (s := s) k1 k2 k3 k4 (by omega) (by omega)
    have e4 : pX7_passesAll fu m 0 0 = some m4 := e4
    rw [if_neg ne, if_neg ne, e, e4, bd_some, bd_some]
    have hD4 := hDy.cgm g1 g2 g3
    have e16 : m4 0 16 = y 0 6 := hD4.1.2.2.2.1.symm
    rw [e16]
    refine ⟨_, _, _, _, rfl, rfl, hF.keep (g4 1 (Or.inl rfl)) (g4 22 (Or.inr (by omega))) (g5 32 (by omega) (by omega) (by omega) (by omega) (by omega)) (g5 27 (by omega) (by omega) (by omega) (by omega) (by omega)), ⟨nn, t, l, hD4⟩, ?_, hL.keep (g5 23 (by omega) (by omega) (by omega) (by omega) (by omega)) (g4 16 (Or.inr (by omega)))⟩
    have hI2 : RI k m := Or.inr ⟨a, nn, t, l, s, hs, k1, k2, k3, k4⟩
    exact hI2.keep (g5 27 (by omega) (by omega) (by omega) (by omega) (by omega)) (fun i _ => by rw [g4 20 (Or.inr (by omega))])
