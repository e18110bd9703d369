/-! PURE 24: comers, kettles, settings asked and set; fillings that fit; counts -/
theorem nI_ne {a b : Nat} (h : a ≠ b) (ha : a < 2 ^ 31) (hb : b < 2 ^ 31) : ¬ nI a = nI b := fun e => h ((nI_eq ha hb).mp e)
theorem comer_R {fu : Nat} {f n k le m : Mem} (h : RR f n k le m) (hfu : 200 < fu) (p q : Int32) : ∃ r f' m', pX6_comer fu f n p q = some (r, f') ∧ pX7_comer fu m p q = some (r, m') ∧ RR f' n k le m' := by
  obtain ⟨f1, m1, e1, e2, hr1⟩ := ref1 (fu := fu) h
  obtain ⟨f2, m2, e3, e4, hr2⟩ := ref2 (fu := fu) h
  have hh := h
  obtain ⟨hF, ⟨nn, t, l, hD⟩, -⟩ := hh
  have n8 := hD.1.1
  unfold pX6_comer pX7_comer
  rcases comer_c (fu := fu) hD p with ⟨a1, a2⟩ | ⟨j, hj, rfl, a1, a2⟩
  · simp only [a1, a2, bd_some, reduceIte, e1, e2, bd2_some]
    exact ⟨_, _, _, rfl, rfl, hr1⟩
  · obtain ⟨g0, g1, g2, g3, g4, g5, g6⟩ := hD.1.2.2.2.2.2.1 j hj
    obtain ⟨kd, -, kd6, ek⟩ := (hD.2.1.2.2.2.1 j hj).1
    obtain ⟨v, u1, u2, -⟩ := upTo_eq (fu := fu) hD.1 hD.2.1 hD.2.2.2.1 hj kd6 (by omega)
    simp only [a1, a2, bd_some, if_neg i10, jn1_eq, ck_ok (show j < 8 by omega) (show 8 < 2 ^ 31 by decide), nI_cl (show j < 2 ^ 31 by omega), ← g0, ← g1, ← g2, ← g3, ← g4, ← g5, g6, ek, u1, u2, e3, e4, bd2_some]
    by_cases q0 : q < 0
    · have no : ∀ c : Nat, c ≤ 7 → ¬ q = nI c := fun c hc e => nI_pos (n := c) (by omega) (e ▸ q0)
      simp only [if_pos q0, if_neg (show ¬ q = 0 from no 0 (by omega)), if_neg (show ¬ q = 1 from no 1 (by omega)), if_neg (show ¬ q = 2 from no 2 (by omega)), if_neg (show ¬ q = 3 from no 3 (by omega)), if_neg (show ¬ q = 4 from no 4 (by omega)), if_neg (show ¬ q = 5 from no 5 (by omega)), if_neg (show ¬ q = 6 from no 6 (by omega)), if_neg (show ¬ q = 7 from no 7 (by omega))]
      exact ⟨_, _, _, rfl, rfl, hr2⟩
    · by_cases q7 : q ≤ 7
      · obtain ⟨c, c7, rfl⟩ := nI_of2 (M := 7) (n := 7) rfl q0 q7
        simp only [if_neg q0, if_pos q7]
        unfold pX1_tell
        rcases (show c = 0 ∨ c = 1 ∨ c = 2 ∨ c = 3 ∨ c = 4 ∨ c = 5 ∨ c = 6 ∨ c = 7 by omega) with rfl | rfl | rfl | rfl | rfl | rfl | rfl | rfl
        · rw [if_neg (show ¬ nI 0 = 7 by decide), if_pos (show nI 0 = 0 from rfl), if_pos (show nI 0 = 0 from rfl), bd_some]
          exact ⟨_, _, _, rfl, by rw [← ek], h⟩
        · rw [if_neg (show ¬ nI 1 = 7 by decide), if_neg (show ¬ nI 1 = 0 by decide), if_neg (show ¬ nI 1 = 0 by decide), if_pos (show nI 1 = 1 from rfl), if_pos (show nI 1 = 1 from rfl), bd_some]
          exact ⟨_, _, _, rfl, rfl, h⟩
        · rw [if_neg (show ¬ nI 2 = 7 by decide), if_neg (show ¬ nI 2 = 0 by decide), if_neg (show ¬ nI 2 = 0 by decide), if_neg (show ¬ nI 2 = 1 by decide), if_neg (show ¬ nI 2 = 1 by decide), if_pos (show nI 2 = 2 from rfl), if_pos (show nI 2 = 2 from rfl), bd_some]
          exact ⟨_, _, _, rfl, rfl, h⟩
        · rw [if_neg (show ¬ nI 3 = 7 by decide), if_neg (show ¬ nI 3 = 0 by decide), if_neg (show ¬ nI 3 = 0 by decide), if_neg (show ¬ nI 3 = 1 by decide), if_neg (show ¬ nI 3 = 1 by decide), if_neg (show ¬ nI 3 = 2 by decide), if_neg (show ¬ nI 3 = 2 by decide), if_pos (show nI 3 = 3 from rfl), if_pos (show nI 3 = 3 from rfl), bd_some]
          exact ⟨_, _, _, rfl, rfl, h⟩
        · rw [if_neg (show ¬ nI 4 = 7 by decide), if_neg (show ¬ nI 4 = 0 by decide), if_neg (show ¬ nI 4 = 0 by decide), if_neg (show ¬ nI 4 = 1 by decide), if_neg (show ¬ nI 4 = 1 by decide), if_neg (show ¬ nI 4 = 2 by decide), if_neg (show ¬ nI 4 = 2 by decide), if_neg (show ¬ nI 4 = 3 by decide), if_neg (show ¬ nI 4 = 3 by decide), if_pos (show nI 4 = 4 from rfl), if_pos (show nI 4 = 4 from rfl), bd_some]
          exact ⟨_, _, _, rfl, rfl, h⟩
        · rw [if_neg (show ¬ nI 5 = 7 by decide), if_neg (show ¬ nI 5 = 0 by decide), if_neg (show ¬ nI 5 = 0 by decide), if_neg (show ¬ nI 5 = 1 by decide), if_neg (show ¬ nI 5 = 1 by decide), if_neg (show ¬ nI 5 = 2 by decide), if_neg (show ¬ nI 5 = 2 by decide), if_neg (show ¬ nI 5 = 3 by decide), if_neg (show ¬ nI 5 = 3 by decide), if_neg (show ¬ nI 5 = 4 by decide), if_neg (show ¬ nI 5 = 4 by decide), if_pos (show nI 5 = 5 from rfl), if_pos (show nI 5 = 5 from rfl), bd_some]
          exact ⟨_, _, _, rfl, rfl, h⟩
        · rw [if_neg (show ¬ nI 6 = 7 by decide), if_neg (show ¬ nI 6 = 0 by decide), if_neg (show ¬ nI 6 = 0 by decide), if_neg (show ¬ nI 6 = 1 by decide), if_neg (show ¬ nI 6 = 1 by decide), if_neg (show ¬ nI 6 = 2 by decide), if_neg (show ¬ nI 6 = 2 by decide), if_neg (show ¬ nI 6 = 3 by decide), if_neg (show ¬ nI 6 = 3 by decide), if_neg (show ¬ nI 6 = 4 by decide), if_neg (show ¬ nI 6 = 4 by decide), if_neg (show ¬ nI 6 = 5 by decide), if_neg (show ¬ nI 6 = 5 by decide), if_pos (show nI 6 = 6 from rfl), X1_waited_eq, bd_some, bd_some]
          exact ⟨_, _, _, rfl, rfl, h⟩
        · rw [if_pos (show nI 7 = 7 from rfl), if_neg (show ¬ nI 7 = 0 by decide), if_neg (show ¬ nI 7 = 1 by decide), if_neg (show ¬ nI 7 = 2 by decide), if_neg (show ¬ nI 7 = 3 by decide), if_neg (show ¬ nI 7 = 4 by decide), if_neg (show ¬ nI 7 = 5 by decide), if_neg (show ¬ nI 7 = 6 by decide), if_pos (show nI 7 = 7 from rfl)]
          exact ⟨_, _, _, rfl, rfl, h⟩
      · have no : ∀ c : Nat, c ≤ 7 → ¬ q = nI c := fun c hc e => q7 (e ▸ (show nI c ≤ nI 7 from nI_le hc (by decide)))
        simp only [if_neg q0, if_neg q7, if_neg (show ¬ q = 0 from no 0 (by omega)), if_neg (show ¬ q = 1 from no 1 (by omega)), if_neg (show ¬ q = 2 from no 2 (by omega)), if_neg (show ¬ q = 3 from no 3 (by omega)), if_neg (show ¬ q = 4 from no 4 (by omega)), if_neg (show ¬ q = 5 from no 5 (by omega)), if_neg (show ¬ q = 6 from no 6 (by omega)), if_neg (show ¬ q = 7 from no 7 (by omega))]
        exact ⟨_, _, _, rfl, rfl, hr2⟩
theorem DAYR.kind {n t j : Nat} {d m : Mem} {l : List Nat} {a b : Int32} (h : DAYR n t d m l) (hj : j < n) (ha : rng a 0 6) (hb : rng b 0 9) : DAYR n t (va_up d (5 + j) (upd (upd (d (5 + j)) 0 a) 1 b)) (up2 (up2 m 3 j a) 4 j b) l := by
  obtain ⟨⟨n8, q1, q2, q3, q4, q5, q6, q7⟩, ⟨o1, o2, o3, o4, o5, o6, o7⟩, h0, hL, hC⟩ := h
  have hd : ∀ o, o < 5 → va_up d (5 + j) (upd (upd (d (5 + j)) 0 a) 1 b) o = d o := fun o ho => by rw [vu_rw, if_neg (by omega)]
  have hm : ∀ o, o ≠ 3 → o ≠ 4 → up2 (up2 m 3 j a) 4 j b o = m o := fun o h3 h4 => by rw [up_rowo _ _ _ _ _ h4, up_rowo _ _ _ _ _ h3]
  have h5 : ∀ i, va_up d (5 + j) (upd (upd (d (5 + j)) 0 a) 1 b) (5 + i) 5 = d (5 + i) 5 := fun i => by
    rw [vu_rw]
    by_cases e : i = j
    · subst e
      rw [if_pos rfl, pk_un (by omega), pk_un (by omega)]
    · rw [if_neg (by omega)]
  refine ⟨⟨n8, by rw [hd 0 (by omega)]; exact q1, by rw [hm 0 (by omega) (by omega)]; exact q2, by rw [hd 0 (by omega), hm 0 (by omega) (by omega)]; exact q3, by rw [hd 1 (by omega), hm 2 (by omega) (by omega)]; exact q4, fun i hi => ?_, ?_, ?_⟩, ⟨by rw [hd 0 (by omega)]; exact o1, o2, by rw [hd 1 (by omega)]; exact o3, fun i hi => ?_, by rw [hd 3 (by omega)]; exact o5, by rw [hd 4 (by omega)]; exact o6, by rw [hd 1 (by omega), hd 4 (by omega)]; exact o7⟩, fun z => ?_, ⟨by rw [hm 0 (by omega) (by omega)]; exact hL.1, by rw [hm 10 (by omega) (by omega)]; exact hL.2.1, hL.2.2.1, fun i => by rw [h5 i]; exact hL.2.2.2 i⟩, ⟨by rw [hd 0 (by omega)]; exact hC.1, by rw [hd 2 (by omega)]; exact hC.2⟩⟩
  · obtain ⟨g0, g1, g2, g3, g4, g5, g6⟩ := q5 i hi
    rw [hm 5 (by omega) (by omega), hm 6 (by omega) (by omega), hm 7 (by omega) (by omega), hm 8 (by omega) (by omega), hm 9 (by omega) (by omega), vu_rw, up2_row (o := 4) (o' := 3) (by omega), up2_at, up2_at, up2_row (o := 3) (o' := 4) (by omega)]
    by_cases e : i = j
    · subst e
      simp only [and_self, if_true, wtd]
      rw [pk_un (by omega), pk_us, pk_us, pk_un (by omega), pk_un (by omega), pk_un (by omega), pk_un (by omega), pk_un (by omega), pk_un (by omega), pk_un (by omega), pk_un (by omega), pk_un (by omega), pk_un (by omega)]
      exact ⟨rfl, rfl, g2, g3, g4, g5, g6⟩
    · simp only [if_neg (show ¬ 5 + i = 5 + j by omega), e, and_false, if_false]
      exact ⟨g0, g1, g2, g3, g4, g5, g6⟩
  · unfold DKr
    rw [hd (3 + 0) (by omega), hd 0 (by omega), hm 11 (by omega) (by omega), hm 12 (by omega) (by omega), hm 13 (by omega) (by omega), hm 14 (by omega) (by omega), hm 15 (by omega) (by omega)]
    exact q6
  · unfold DKr
    rw [hd (3 + 1) (by omega), hd 0 (by omega), hm 11 (by omega) (by omega), hm 12 (by omega) (by omega), hm 13 (by omega) (by omega), hm 14 (by omega) (by omega), hm 15 (by omega) (by omega)]
    exact q7
  · have g := o4 i hi
    rw [vu_rw]
    by_cases e : i = j
    · subst e
      rw [if_pos rfl]
      obtain ⟨c0, c1, c2, c3, c4, c5, c6, c7⟩ := g
      unfold CRg
      rw [pk_un (k := 1) (j := 0) (by omega), pk_us, pk_us, pk_un (k := 1) (j := 2) (by omega), pk_un (k := 0) (j := 2) (by omega), pk_un (k := 1) (j := 3) (by omega), pk_un (k := 0) (j := 3) (by omega), pk_un (k := 1) (j := 4) (by omega), pk_un (k := 0) (j := 4) (by omega), pk_un (k := 1) (j := 5) (by omega), pk_un (k := 0) (j := 5) (by omega), pk_un (k := 1) (j := 6) (by omega), pk_un (k := 0) (j := 6) (by omega)]
      exact ⟨ha, hb, c2, c3, c4, c5, c6, c7⟩
    · rw [if_neg (by omega)]
      exact g
  · rw [hd 3 (by omega), hd 4 (by omega)]
    exact h0 z
theorem kind_R {fu : Nat} {f n k le m : Mem} (h : RR f n k le m) (p q s : Int32) : ∃ r f' n' m', pX6_kind fu f n p q s = some (r, f', n') ∧ pX7_kind fu m p q s = some (r, m') ∧ RR f' n' k le m' := by
  obtain ⟨f1, m1, e1, e2, hr1⟩ := ref1 (fu := fu) h
  obtain ⟨f2, m2, e3, e4, hr2⟩ := ref2 (fu := fu) h
  obtain ⟨f4, m4, b1, b2, hr4⟩ := ref4 (fu := fu) h
  obtain ⟨f6, m6, c1, c2, hr6⟩ := ref6 (fu := fu) h
  have hh := h
  obtain ⟨hF, ⟨nn, t, l, hD⟩, hI, hL⟩ := hh
  have n8 := hD.1.1
  unfold pX6_kind pX7_kind pX7_isIn pX7_bound
  simp only [jn1_eq]
  rcases comer_c (fu := fu) hD p with ⟨a1, a2⟩ | ⟨j, hj, rfl, a1, a2⟩
  · simp only [a1, a2, bd_some, reduceIte, if_neg (show ¬ (-1 : Int32) = 0 by decide), e1, e2, bd2_some]
    exact ⟨_, _, _, _, rfl, rfl, hr1⟩
  · simp only [a1, a2, bd_some, if_neg i10]
    by_cases q0 : q < 0
    · simp only [if_pos q0, bd_some, reduceIte, if_neg (show ¬ (-2 : Int32) = 0 by decide), e3, e4, bd2_some]
      exact ⟨_, _, _, _, rfl, rfl, hr2⟩
    · by_cases q6 : q ≤ 6
      · obtain ⟨a, a6, rfl⟩ := nI_of2 (M := 6) (n := 6) rfl q0 q6
        rw [if_neg q0, if_pos (show nI a < 7 from nI_lt (b := 7) (by omega) (by decide)), if_neg q0, if_neg ((i_nlt 6 (nI a)).mpr q6)]
        simp only [bd_some, if_neg i10]
        by_cases s0 : 0 ≤ s
        · by_cases s9 : s ≤ 9
          · obtain ⟨b, b9, rfl⟩ := nI_of2 (x := s) (M := 9) (n := 9) rfl ((i_nlt s 0).mpr s0) s9
            obtain ⟨g0, g1, -⟩ := hD.1.2.2.2.2.2.1 j hj
            simp only [if_pos s0, if_pos s9, bd_some, reduceIte, ck_ok (show j < 8 by omega) (show 8 < 2 ^ 31 by decide), nI_cl (show j < 2 ^ 31 by omega), lt_eq, become_eq, g0, g1]
            refine ⟨_, _, _, _, rfl, rfl, ⟨hF.keep ?_ ?_ ?_ ?_, ⟨nn, t, l, hD.kind hj ⟨a, by omega, a6, rfl⟩ ⟨b, by omega, b9, rfl⟩⟩, hI.keep ?_ (fun i _ => ?_), hL.keep ?_ ?_⟩⟩
            · rw [up_rowo _ _ _ _ _ (by omega), up_rowo _ _ _ _ _ (by omega)]
            · rw [up_rowo _ _ _ _ _ (by omega), up_rowo _ _ _ _ _ (by omega)]
            · rw [up2_row (by omega), up2_row (by omega)]
            · rw [up2_row (by omega), up2_row (by omega)]
            · rw [up2_row (by omega), up2_row (by omega)]
            · rw [up2_row (by omega), up2_row (by omega)]
            · rw [up2_row (by omega), up2_row (by omega)]
            · rw [up_rowo _ _ _ _ _ (by omega), up_rowo _ _ _ _ _ (by omega)]
          · rw [if_pos s0, if_neg s9, if_pos s0, if_neg s9, bd_some, if_neg (show ¬ (-6 : Int32) = 0 by decide), c1, c2, bd2_some, bd2_some]
            exact ⟨_, _, _, _, rfl, rfl, hr6⟩
        · rw [if_neg s0, if_neg s0, bd_some, if_neg (show ¬ (-4 : Int32) = 0 by decide), b1, b2, bd2_some, bd2_some]
          exact ⟨_, _, _, _, rfl, rfl, hr4⟩
      · have q7 : ¬ q < 7 := fun z => q6 (by
          have h1 := (i_lt q 7).mp z
          rw [show (7 : Int32).toInt = 7 from rfl] at h1
          rw [i_le, show (6 : Int32).toInt = 6 from rfl]
          omega)
        simp only [if_neg q0, if_neg q7, if_pos ((i_nle q 6).mp q6), bd_some, reduceIte, if_neg (show ¬ (-2 : Int32) = 0 by decide), e3, e4, bd2_some]
        exact ⟨_, _, _, _, rfl, rfl, hr2⟩
theorem kettle_R {fu : Nat} {f n k le m : Mem} (h : RR f n k le m) (p q : Int32) : ∃ r f' m', pX6_kettle fu f n p q = some (r, f') ∧ pX7_kettle fu m p q = some (r, m') ∧ RR f' n k le m' := by
  obtain ⟨f1, m1, e1, e2, hr1⟩ := ref1 (fu := fu) h
  obtain ⟨f2, m2, e3, e4, hr2⟩ := ref2 (fu := fu) h
  have hh := h
  obtain ⟨hF, ⟨nn, t, l, hD⟩, -⟩ := hh
  obtain ⟨K, K1, K2, eK⟩ : ∃ K, 1 ≤ K ∧ K ≤ 2 ∧ n 1 7 = nI K := by
    rcases hD.2.1.2.2.1.2.2.2.2.2.2.2 with e | e
    · exact ⟨1, by omega, by omega, e⟩
    · exact ⟨2, by omega, by omega, e⟩
  have em : m 2 7 - 1 = nI (K - 1) := by
    rw [← hD.1.2.2.2.2.1 7 (by omega), eK, show (1 : Int32) = nI 1 from rfl, pk_sub (by omega)]
  unfold pX6_kettle pX7_kettle pX7_isIn pX2_kettlesInUse
  simp only [jn1_eq, em, eK, bd_some]
  by_cases p0 : p < 0
  · simp only [if_pos p0, bd_some, reduceIte, e1, e2, bd2_some]
    exact ⟨_, _, _, rfl, rfl, hr1⟩
  · by_cases p1 : p < nI K
    · obtain ⟨j, jK, rfl⟩ := nI_of2 (x := p) (M := nI (K - 1)) (n := K - 1) (nI_toInt (by omega)) p0 (by
        have h1 := (i_lt p (nI K)).mp p1
        rw [nI_toInt (show K < 2 ^ 31 by omega)] at h1
        rw [i_le, nI_toInt (show K - 1 < 2 ^ 31 by omega)]
        omega)
      obtain ⟨g0, g1, g2, g3, -⟩ := hD.1.kk (k := j) (by omega)
      obtain ⟨-, -, ⟨bt, -, bt1, eb⟩⟩ := hD.2.1.kk (k := j) (by omega)
      have ht := hD.2.1.1
      have ht1 := hD.2.1.2.1
      have hmt : m 0 16 = nI t := by rw [← hD.1.2.2.2.1]; exact ht
      rw [if_neg p0, if_pos p1, if_neg p0, if_neg ((i_nlt (nI (K - 1)) (nI j)).mpr (nI_le (by omega) (by omega)))]
      simp only [bd_some, if_neg i10, ck_ok (show j < 2 by omega) (show 2 < 2 ^ 31 by decide), nI_cl (show j < 2 ^ 31 by omega), ← g0, ← g1, ← g2, ← g3, eb, ht, hmt, e3, e4, bd2_some]
      by_cases q0 : q < 0
      · have no : ∀ c : Nat, c ≤ 7 → ¬ q = nI c := fun c hc e => nI_pos (n := c) (by omega) (e ▸ q0)
        simp only [if_pos q0, if_neg (show ¬ q = 0 from no 0 (by omega)), if_neg (show ¬ q = 1 from no 1 (by omega)), if_neg (show ¬ q = 2 from no 2 (by omega)), if_neg (show ¬ q = 3 from no 3 (by omega))]
        exact ⟨_, _, _, rfl, rfl, hr2⟩
      · by_cases q7 : q ≤ 3
        · obtain ⟨c, c7, rfl⟩ := nI_of2 (M := 3) (n := 3) rfl q0 q7
          simp only [if_neg q0, if_pos q7]
          unfold pX3_tell
          rcases (show c = 0 ∨ c = 1 ∨ c = 2 ∨ c = 3 by omega) with rfl | rfl | rfl | rfl
          · rw [if_pos (show nI 0 = 0 from rfl), if_pos (show nI 0 = 0 from rfl), bd_some]
            exact ⟨_, _, _, rfl, rfl, h⟩
          · rw [if_neg (show ¬ nI 1 = 0 by decide), if_pos (show nI 1 = 1 from rfl), if_neg (show ¬ nI 1 = 0 by decide), if_pos (show nI 1 = 1 from rfl), bd_some]
            exact ⟨_, _, _, rfl, rfl, h⟩
          · rw [if_neg (show ¬ nI 2 = 0 by decide), if_neg (show ¬ nI 2 = 1 by decide), if_pos (show nI 2 = 2 from rfl), if_neg (show ¬ nI 2 = 0 by decide), if_neg (show ¬ nI 2 = 1 by decide), if_pos (show nI 2 = 2 from rfl), bd_some]
            exact ⟨_, _, _, rfl, rfl, h⟩
          · rw [if_neg (show ¬ nI 3 = 0 by decide), if_neg (show ¬ nI 3 = 1 by decide), if_neg (show ¬ nI 3 = 2 by decide), if_neg (show ¬ nI 3 = 0 by decide), if_neg (show ¬ nI 3 = 1 by decide), if_neg (show ¬ nI 3 = 2 by decide), if_pos (show nI 3 = 3 from rfl), bd_some, eb]
            unfold pX7_isFree
            rw [ck_ok (show j < 2 by omega) (show 2 < 2 ^ 31 by decide), nI_cl (show j < 2 ^ 31 by omega), ← g3, eb, hmt]
            by_cases z : t < bt
            · rw [if_pos (nI_lt z (by omega)), bd_some, if_pos rfl, pk_sub (by omega), show imax 0 (nI (bt - t)) = nI (bt - t) from if_pos (nI_lt (a := 0) (by omega) (by omega))]
              exact ⟨_, _, _, rfl, rfl, h⟩
            · rw [if_neg (nI_nlt (by omega) (by omega)), bd_some, if_neg i10]
              have : imax 0 (nI bt - nI t) = 0 := by
                unfold imax
                refine if_neg ?_
                rw [i_lt, pk_sub_toInt (by omega) (by omega), show (0 : Int32).toInt = 0 from rfl]
                omega
              rw [this]
              exact ⟨_, _, _, rfl, rfl, h⟩
        · have no : ∀ c : Nat, c ≤ 3 → ¬ q = nI c := fun c hc e => q7 (e ▸ (show nI c ≤ nI 3 from nI_le hc (by decide)))
          simp only [if_neg q0, if_neg q7, if_neg (show ¬ q = 0 from no 0 (by omega)), if_neg (show ¬ q = 1 from no 1 (by omega)), if_neg (show ¬ q = 2 from no 2 (by omega)), if_neg (show ¬ q = 3 from no 3 (by omega))]
          exact ⟨_, _, _, rfl, rfl, hr2⟩
    · have p2 : nI (K - 1) < p := by
        have h1 := (not_congr (i_lt p (nI K))).mp p1
        rw [nI_toInt (show K < 2 ^ 31 by omega)] at h1
        rw [i_lt, nI_toInt (show K - 1 < 2 ^ 31 by omega)]
        omega
      simp only [if_neg p0, if_neg p1, if_pos p2, bd_some, reduceIte, e1, e2, bd2_some]
      exact ⟨_, _, _, rfl, rfl, hr1⟩
theorem high_eq {fu n t : Nat} {d m : Mem} (hQ : DQ n d m) (hO : DOK n t d) (hfu : 3 ≤ fu) : ∃ a b, a ≤ 11 ∧ b ≤ 11 ∧ m 11 0 = nI a ∧ m 11 1 = nI b ∧ pX2_highestLevel fu d = some (nI (max a b)) := by
  obtain ⟨a, -, a1, a2⟩ := (hO.kk (k := 0) (by omega)).1
  obtain ⟨b, -, b1, b2⟩ := (hO.kk (k := 1) (by omega)).1
  have a3 : d 3 0 = nI a := a2
  have b3 : d 4 0 = nI b := b2
  have mx : ∀ x y : Nat, x ≤ 11 → y ≤ 11 → imax (nI x) (nI y) = nI (max x y) := fun x y hx hy => by
    unfold imax
    by_cases z : x < y
    · rw [if_pos (nI_lt z (by omega)), Nat.max_eq_right (by omega)]
    · rw [if_neg (nI_nlt (by omega) (by omega)), Nat.max_eq_left (by omega)]
  refine ⟨a, b, a1, b1, (hQ.kk (k := 0) (by omega)).1 ▸ a2, (hQ.kk (k := 1) (by omega)).1 ▸ b2, ?_⟩
  obtain ⟨f, rfl⟩ : ∃ f, fu = f + 3 := ⟨fu - 3, by omega⟩
  unfold pX2_highestLevel
  have m1 : imax 0 (nI a) = nI a := by rw [show (0 : Int32) = nI 0 from rfl, mx 0 a (by omega) a1, Nat.max_eq_right (by omega)]
  rcases hO.2.2.1.2.2.2.2.2.2.2 with u | u
  · have b0 : b = 0 := by
      have := (hO.2.2.2.2.2.2 u).1
      rw [b3] at this
      exact (nI_eq (a := b) (b := 0) (by omega) (by omega)).mp this
    subst b0
    simp only [zl2, pX2_kettlesInUse, bd_some, ck_0_2, i01, cl0, lt_eq, Nat.add_zero, u, le_k1, show (1 : Int32) ≤ 1 from by decide, if_true, if_false, a3, m1]
    rw [Nat.max_eq_left (by omega)]
  · simp only [zl2, pX2_kettlesInUse, bd_some, ck_0_2, ck_1_2, i01, i11, cl0, cl1, lt_eq, Nat.add_zero, u, le_k2, le_k3, show (2 : Int32) ≤ 2 from by decide, if_true, if_false, a3, b3, m1, show 3 + 1 = 4 from rfl]
    rw [mx a b a1 b1]
/-- what a setting is refused by, on both sides -/
theorem notSet_eq {fu n t : Nat} {d m : Mem} {l : List Nat} (h : DAYR n t d m l) (hfu : 3 ≤ fu) (p q : Int32) : ∃ r, pX2_settingRefusal fu d p q = some r ∧ pX7_notSet fu m p q = some r ∧ (r = -1 ∨ r = -3 ∨ r = -4 ∨ r = -6 ∨ (r = 0 ∧ ∃ k v, k < 8 ∧ p = nI k ∧ q = nI v ∧ [2, 0, 1, 1, 0, 0, 0, 1].getD k 0 ≤ v ∧ v ≤ [11, 9, 20, 9, 9, 9, 11, 2].getD k 0 ∧ (k = 7 → q = d 1 7 ∨ t = 0))) := by
  obtain ⟨a, b, a1, b1, ea, eb, eh⟩ := high_eq (fu := fu) h.1 h.2.1 hfu
  have ht : d 0 6 = nI t := h.2.1.1
  have ht1 := h.2.1.2.1
  have hmt : m 0 16 = nI t := by rw [← h.1.2.2.2.1]; exact ht
  have e7 : m 2 7 = d 1 7 := (h.1.2.2.2.2.1 7 (by omega)).symm
  unfold pX2_settingRefusal pX7_notSet pX7_isIn pX7_bound
  simp only [jn1_eq]
  rcases pk_ix p (n := 8) (by omega) with c | c | ⟨k, hk, rfl⟩
  · simp only [if_pos c, bd_some, reduceIte]
    exact ⟨_, rfl, rfl, Or.inl rfl⟩
  · have c1 : ¬ p < 0 := fun z => by
      have h1 := (i_lt _ _).mp z
      have h2 := (i_le _ _).mp c
      rw [nI_toInt (by omega)] at h2
      rw [show (0 : Int32).toInt = 0 from rfl] at h1
      omega
    have c2 : ¬ p < 8 := (i_nlt p 8).mpr c
    have c3 : (7 : Int32) < p := by
      have h2 := (i_le _ _).mp c
      rw [nI_toInt (by omega)] at h2
      rw [i_lt, show (7 : Int32).toInt = 7 from rfl]
      omega
    simp only [if_neg c1, if_neg c2, if_pos c3, bd_some, reduceIte]
    exact ⟨_, rfl, rfl, Or.inl rfl⟩
  · rw [if_neg (nI_pos (by omega)), if_pos (show nI k < 8 from nI_lt hk (by decide)), ck_ok hk (by decide), ck_ok hk (by decide), nI_cl (by omega), if_neg (nI_pos (by omega)), if_neg (show ¬ 7 < nI k from nI_nlt (b := k) (a := 7) (by omega) (by decide)), bd_some, if_neg i10]
    have L : ∃ lo hi : Nat, lo ≤ hi ∧ hi ≤ 20 ∧ (List.getD [2, 0, 1, 1, 0, 0, 0, 1] k 0 : Int32) = nI lo ∧ (List.getD [11, 9, 20, 9, 9, 9, 11, 2] k 0 : Int32) = nI hi ∧ pX7_leastOf fu (nI k) = some (nI lo) ∧ pX7_mostOf fu (nI k) = some (nI hi) ∧ [2, 0, 1, 1, 0, 0, 0, 1].getD k 0 = lo ∧ [11, 9, 20, 9, 9, 9, 11, 2].getD k 0 = hi := by
      unfold pX7_leastOf pX7_mostOf
      rcases (show k = 0 ∨ k = 1 ∨ k = 2 ∨ k = 3 ∨ k = 4 ∨ k = 5 ∨ k = 6 ∨ k = 7 by omega) with rfl | rfl | rfl | rfl | rfl | rfl | rfl | rfl
      · exact ⟨2, 11, by omega, by omega, rfl, rfl, by decide, by decide, rfl, rfl⟩
      · exact ⟨0, 9, by omega, by omega, rfl, rfl, by decide, by decide, rfl, rfl⟩
      · exact ⟨1, 20, by omega, by omega, rfl, rfl, by decide, by decide, rfl, rfl⟩
      · exact ⟨1, 9, by omega, by omega, rfl, rfl, by decide, by decide, rfl, rfl⟩
      · exact ⟨0, 9, by omega, by omega, rfl, rfl, by decide, by decide, rfl, rfl⟩
      · exact ⟨0, 9, by omega, by omega, rfl, rfl, by decide, by decide, rfl, rfl⟩
      · exact ⟨0, 11, by omega, by omega, rfl, rfl, by decide, by decide, rfl, rfl⟩
      · exact ⟨1, 2, by omega, by omega, rfl, rfl, by decide, by decide, rfl, rfl⟩
    obtain ⟨lo, hi, lh, h20, L1, L2, L3, L4, L5, L6⟩ := L
    rw [L1, L2, L3, L4, bd_some, bd_some]
    by_cases q1 : nI lo ≤ q
    · by_cases q2 : q ≤ nI hi
      · obtain ⟨v, v1, rfl⟩ := nI_of2 (x := q) (M := nI hi) (n := hi) (nI_toInt (by omega)) (fun z => by
          have h1 := (i_lt _ _).mp z
          have h2 := (i_le _ _).mp q1
          rw [nI_toInt (by omega)] at h2
          rw [show (0 : Int32).toInt = 0 from rfl] at h1
          omega) q2
        have v0 : lo ≤ v := (nI_leI (by omega) (by omega)).mp q1
        simp only [if_pos q1, if_pos q2, bd_some, reduceIte]
        by_cases k0 : k = 0
        · subst k0
          simp only [show nI 0 = 0 from rfl, reduceIte, if_neg (show ¬ (0 : Int32) = 7 by decide), eh, bd_some, ea, eb]
          by_cases z1 : v < a
          · rw [if_neg (nI_ge (show v < max a b by omega) (by omega)), if_neg i10, if_pos (nI_lt z1 (by omega)), if_neg i10]
            exact ⟨_, rfl, rfl, Or.inr (Or.inl rfl)⟩
          · by_cases z2 : v < b
            · rw [if_neg (nI_ge (show v < max a b by omega) (by omega)), if_neg i10, if_neg (nI_nlt (by omega) (by omega)), if_pos (nI_lt z2 (by omega)), if_neg i10]
              exact ⟨_, rfl, rfl, Or.inr (Or.inl rfl)⟩
            · rw [if_pos (nI_le (show max a b ≤ v by omega) (by omega)), if_neg (nI_nlt (by omega) (by omega)), if_neg (nI_nlt (by omega) (by omega)), if_neg i10]
              exact ⟨_, rfl, rfl, Or.inr (Or.inr (Or.inr (Or.inr ⟨rfl, 0, v, by omega, rfl, rfl, by rw [L5]; exact v0, by rw [L6]; exact v1, fun z => absurd z (by omega)⟩)))⟩
        · have k0' : ¬ nI k = 0 := nI_ne (b := 0) k0 (by omega) (by omega)
          simp only [if_neg k0', reduceIte]
          by_cases k7 : k = 7
          · subst k7
            simp only [show nI 7 = 7 from rfl, reduceIte, ht, hmt, e7]
            by_cases z1 : nI v = d 1 7
            · simp only [if_pos z1, reduceIte]
              exact ⟨_, rfl, rfl, Or.inr (Or.inr (Or.inr (Or.inr ⟨rfl, 7, v, by omega, rfl, rfl, by rw [L5]; exact v0, by rw [L6]; exact v1, fun _ => Or.inl z1⟩)))⟩
            · by_cases z2 : t = 0
              · subst z2
                simp only [if_neg z1, show nI 0 = 0 from rfl, reduceIte, show (0 : Int32) ≤ 0 from by decide]
                exact ⟨_, rfl, rfl, Or.inr (Or.inr (Or.inr (Or.inr ⟨rfl, 7, v, by omega, rfl, rfl, by rw [L5]; exact v0, by rw [L6]; exact v1, fun _ => Or.inr trivial⟩)))⟩
              · have z3 : ¬ nI t = 0 := nI_ne (b := 0) z2 (by omega) (by omega)
                have z4 : ¬ nI t ≤ 0 := nI_nle (by omega) (by omega)
                simp only [if_neg z1, if_neg z3, if_neg z4, if_neg i10]
                exact ⟨_, rfl, rfl, Or.inr (Or.inl rfl)⟩
          · have k7' : ¬ nI k = 7 := nI_ne (b := 7) k7 (by omega) (by omega)
            simp only [if_neg k7', reduceIte]
            exact ⟨_, rfl, rfl, Or.inr (Or.inr (Or.inr (Or.inr ⟨rfl, k, v, hk, rfl, rfl, by rw [L5]; exact v0, by rw [L6]; exact v1, fun z => absurd z k7⟩)))⟩
      · simp only [if_pos q1, if_neg q2, bd_some, if_neg (show ¬ (-6 : Int32) = 0 by decide)]
        exact ⟨_, rfl, rfl, Or.inr (Or.inr (Or.inr (Or.inl rfl)))⟩
    · simp only [if_neg q1, bd_some, if_neg (show ¬ (-4 : Int32) = 0 by decide)]
      exact ⟨_, rfl, rfl, Or.inr (Or.inr (Or.inl rfl))⟩
theorem DAYR.set {n t k v : Nat} {d m : Mem} {l : List Nat} (h : DAYR n t d m l) (hk : k < 8) (h1 : [2, 0, 1, 1, 0, 0, 0, 1].getD k 0 ≤ v) (h2 : v ≤ [11, 9, 20, 9, 9, 9, 11, 2].getD k 0) (h7 : k = 7 → nI v = d 1 7 ∨ t = 0) : DAYR n t (up2 d 1 k (nI v)) (up2 m 2 k (nI v)) l := by
  obtain ⟨⟨n8, q1, q2, q3, q4, q5, q6, q7⟩, ⟨o1, o2, o3, o4, o5, o6, o7⟩, h0, hL, hC⟩ := h
  have hd : ∀ o, o ≠ 1 → up2 d 1 k (nI v) o = d o := fun o ho => up_rowo _ _ _ _ _ ho
  have hm : ∀ o, o ≠ 2 → up2 m 2 k (nI v) o = m o := fun o ho => up_rowo _ _ _ _ _ ho
  have r1 : up2 d 1 k (nI v) 1 = upd (d 1) k (nI v) := by rw [up2_rw, if_pos rfl]
  refine ⟨⟨n8, by rw [hd 0 (by omega)]; exact q1, by rw [hm 0 (by omega)]; exact q2, by rw [hd 0 (by omega), hm 0 (by omega)]; exact q3, fun i hi => ?_, fun i hi => ?_, ?_, ?_⟩, ⟨by rw [hd 0 (by omega)]; exact o1, o2, by rw [r1]; exact o3.up h1 h2, fun i hi => by rw [hd (5 + i) (by omega)]; exact o4 i hi, by rw [hd 3 (by omega)]; exact o5, by rw [hd 4 (by omega)]; exact o6, ?_⟩, fun z => ?_, ⟨by rw [hm 0 (by omega)]; exact hL.1, by rw [hm 10 (by omega)]; exact hL.2.1, hL.2.2.1, fun i => by rw [hd (5 + i) (by omega)]; exact hL.2.2.2 i⟩, ⟨by rw [hd 0 (by omega)]; exact hC.1, by rw [hd 2 (by omega)]; exact hC.2⟩⟩
  · rw [up2_at, up2_at]
    by_cases e : i = k
    · subst e
      simp
    · simp [e, q4 i hi]
  · rw [hd (5 + i) (by omega), hm 3 (by omega), hm 4 (by omega), hm 5 (by omega), hm 6 (by omega), hm 7 (by omega), hm 8 (by omega), hm 9 (by omega)]
    exact q5 i hi
  · unfold DKr
    rw [hd (3 + 0) (by omega), hd 0 (by omega), hm 11 (by omega), hm 12 (by omega), hm 13 (by omega), hm 14 (by omega), hm 15 (by omega)]
    exact q6
  · unfold DKr
    rw [hd (3 + 1) (by omega), hd 0 (by omega), hm 11 (by omega), hm 12 (by omega), hm 13 (by omega), hm 14 (by omega), hm 15 (by omega)]
    exact q7
  · rw [hd 4 (by omega)]
    intro u
    by_cases e : k = 7
    · rcases h7 e with z | z
      · subst e
        rw [up2_same, z] at u
        exact o7 u
      · have := h0 z
        exact ⟨this.2.2.2.2.1, this.2.2.2.2.2.1, this.2.2.2.2.2.2.1, this.2.2.2.2.2.2.2⟩
    · rw [up2_col (by omega)] at u
      exact o7 u
  · rw [hd 3 (by omega), hd 4 (by omega)]
    exact h0 z
theorem set_R {fu : Nat} {f n k le m : Mem} (h : RR f n k le m) (hfu : 200 < fu) (p q : Int32) : ∃ r f' n' m', pX6_set fu f n p q = some (r, f', n') ∧ pX7_set fu m p q = some (r, m') ∧ RR f' n' k le m' := by
  obtain ⟨f1, m1, e1, e2, hr1⟩ := ref1 (fu := fu) h
  obtain ⟨f3, m3, a1, a2, hr3⟩ := ref3 (fu := fu) h
  obtain ⟨f4, m4, b1, b2, hr4⟩ := ref4 (fu := fu) h
  obtain ⟨f6, m6, c1, c2, hr6⟩ := ref6 (fu := fu) h
  have hh := h
  obtain ⟨hF, ⟨nn, t, l, hD⟩, hI, hL⟩ := hh
  obtain ⟨r, g1, g2, g3⟩ := notSet_eq (fu := fu) hD (by omega) p q
  unfold pX6_set pX7_set pX2_change
  rw [g1, g2, bd_some, bd_some]
  rcases g3 with rfl | rfl | rfl | rfl | ⟨rfl, i, v, i8, rfl, rfl, v1, v2, v3⟩
  · simp only [if_neg (show ¬ (-1 : Int32) = 0 by decide), e1, e2, bd2_some]
    exact ⟨_, _, _, _, rfl, rfl, hr1⟩
  · simp only [if_neg (show ¬ (-3 : Int32) = 0 by decide), a1, a2, bd2_some]
    exact ⟨_, _, _, _, rfl, rfl, hr3⟩
  · simp only [if_neg (show ¬ (-4 : Int32) = 0 by decide), b1, b2, bd2_some]
    exact ⟨_, _, _, _, rfl, rfl, hr4⟩
  · simp only [if_neg (show ¬ (-6 : Int32) = 0 by decide), c1, c2, bd2_some]
    exact ⟨_, _, _, _, rfl, rfl, hr6⟩
  · simp only [reduceIte, ck_ok i8 (show 8 < 2 ^ 31 by decide), nI_cl (show i < 2 ^ 31 by omega), lt_eq, bd2_some, hD.1.2.2.2.2.1 i i8]
    refine ⟨_, _, _, _, rfl, rfl, ⟨hF.keep ?_ ?_ ?_ ?_, ⟨nn, t, l, hD.set i8 v1 v2 v3⟩, hI.keep ?_ (fun i _ => ?_), hL.keep ?_ ?_⟩⟩
    · rw [up_rowo _ _ _ _ _ (by omega)]
    · rw [up_rowo _ _ _ _ _ (by omega)]
    · rw [up2_row (by omega)]
    · rw [up2_row (by omega)]
    · rw [up2_row (by omega)]
    · rw [up2_row (by omega)]
    · rw [up2_row (by omega)]
    · rw [up_rowo _ _ _ _ _ (by omega)]
theorem fits_R {fu : Nat} {f n k le m : Mem} (h : RR f n k le m) (hfu : 200 < fu) (p : Int32) : ∃ r f' m', pX6_fits fu f n p = some (r, f') ∧ pX7_fits fu m p = some (r, m') ∧ RR f' n k le m' := by
  obtain ⟨f4, m4, b1, b2, hr4⟩ := ref4 (fu := fu) h
  obtain ⟨f6, m6, c1, c2, hr6⟩ := ref6 (fu := fu) h
  have hh := h
  obtain ⟨hF, ⟨nn, t, l, hD⟩, -⟩ := hh
  have n8 := hD.1.1
  have hl := hD.2.2.2.1.len
  unfold pX6_fits pX7_fits pX7_bound pX2_kindsThatFill
  by_cases p0 : 0 ≤ p
  · by_cases p1 : p ≤ 11
    · simp only [if_pos p0, if_pos p1, bd_some, reduceIte, hD.2.2.2.2.1, hD.2.2.2.1.1, lt_eq]
      suffices key : ∃ r, zl2 (fun g4 (x1 : Int32) (x2 : Int32) =>
    if 7 ≤ x2 then
      some x1
    else
      if (nI l.length) ≤ 0 then
        some x1
      else
        ck (n 2 0) 8 <|
        bd (pX2_upTo fu n ((n 2 0).toNatClampNeg) x2) fun r9 =>
        if r9 = p then
          g4 (x1 ||| (1 <<< (x2 &&& 31))) (x2 + 1)
        else
          g4 x1 (x2 + 1)) fu 0 0 = some r ∧ zl2 (fun g7 (x4 : Int32) (x5 : Int32) =>
      if 7 ≤ x5 then
        some (x4, m)
      else
        if (nI l.length) ≤ 0 then
          some (x4, m)
        else
          bd (pX7_upTo fu m (m 10 0) x5) fun r11 =>
          if r11 = p then
            g7 (x4 ||| (1 <<< (x5 &&& 31))) (x5 + 1)
          else
            g7 (x4 ||| 0) (x5 + 1)) fu 0 0 = some (r, m) by
        obtain ⟨r, k1, k2⟩ := key
        rw [k1, bd_some]
        exact ⟨_, _, _, rfl, k2, h⟩
      refine csim22 7 (fun i (a b : Int32) (p r : Int32) => p = a ∧ b = nI i ∧ r = nI i) (fun (x : Option Int32) (y : Option (Int32 × Mem)) => ∃ r, x = some r ∧ y = some (r, m)) ?_ fu 0 _ _ _ _ ⟨rfl, rfl, rfl⟩ (by omega) (by omega)
      rintro i g hh a b u r i1 ⟨rfl, rfl, rfl⟩ hc
      by_cases w : i < 7
      · rw [if_neg (show ¬ (7 : Int32) ≤ nI i from nI_ge w (by decide)), if_neg (show ¬ (7 : Int32) ≤ nI i from nI_ge w (by decide))]
        by_cases z : l.length = 0
        · rw [z, if_pos (show nI 0 ≤ 0 by decide), if_pos (show nI 0 ≤ 0 by decide)]
          exact ⟨_, rfl, rfl⟩
        · have e0 := hD.2.2.2.2.2 0 (by omega)
          have e1 := hD.2.2.2.1.2.1 0 (by omega)
          have lj := ((hD.2.2.2.1.2.2.2 l[0]).mp (List.getElem_mem _)).1
          obtain ⟨v, u1, u2, -⟩ := upTo_eq (fu := fu) hD.1 hD.2.1 hD.2.2.2.1 lj (a := i) (by omega) (by omega)
          rw [if_neg (nI_nle (by omega) (by omega)), if_neg (nI_nle (by omega) (by omega)), e0, e1, ck_ok (show l[0] < 8 by omega) (by decide), nI_cl (by omega), u1, u2, bd_some, bd_some]
          by_cases q : v = p
          · rw [if_pos q, if_pos q]
            exact hc _ _ _ _ w ⟨rfl, nI_1 _, nI_1 _⟩
          · rw [if_neg q, if_neg q]
            exact hc _ _ _ _ w ⟨by simp, nI_1 _, nI_1 _⟩
      · have e : i = 7 := by omega
        subst e
        rw [if_pos (show (7 : Int32) ≤ nI 7 by decide), if_pos (show (7 : Int32) ≤ nI 7 by decide)]
        exact ⟨_, rfl, rfl⟩
    · simp only [if_pos p0, if_neg p1, bd_some, if_neg (show ¬ (-6 : Int32) = 0 by decide), c1, c2, bd2_some]
      exact ⟨_, _, _, rfl, rfl, hr6⟩
  · simp only [if_neg p0, bd_some, if_neg (show ¬ (-4 : Int32) = 0 by decide), b1, b2, bd2_some]
    exact ⟨_, _, _, rfl, rfl, hr4⟩
def chn (p a0 a1 a2 a3 a4 a5 a6 a7 a8 : Int32) : Int32 := if p = 0 then a0 else if p = 1 then a1 else if p = 2 then a2 else if p = 3 then a3 else if p = 4 then a4 else if p = 5 then a5 else if p = 6 then a6 else if p = 7 then a7 else if p = 8 then a8 else -9
theorem chn_eq {p a0 a1 a2 a3 a4 a5 a6 a7 a8 : Int32} : (if p = 0 then some a0 else if p = 1 then some a1 else if p = 2 then some a2 else if p = 3 then some a3 else if p = 4 then some a4 else if p = 5 then some a5 else if p = 6 then some a6 else if p = 7 then some a7 else if p = 8 then some a8 else some (-9)) = some (chn p a0 a1 a2 a3 a4 a5 a6 a7 a8) := by
  unfold chn
  by_cases c0 : p = 0
  · rw [if_pos c0, if_pos c0]
  rw [if_neg c0, if_neg c0]
  by_cases c1 : p = 1
  · rw [if_pos c1, if_pos c1]
  rw [if_neg c1, if_neg c1]
  by_cases c2 : p = 2
  · rw [if_pos c2, if_pos c2]
  rw [if_neg c2, if_neg c2]
  by_cases c3 : p = 3
  · rw [if_pos c3, if_pos c3]
  rw [if_neg c3, if_neg c3]
  by_cases c4 : p = 4
  · rw [if_pos c4, if_pos c4]
  rw [if_neg c4, if_neg c4]
  by_cases c5 : p = 5
  · rw [if_pos c5, if_pos c5]
  rw [if_neg c5, if_neg c5]
  by_cases c6 : p = 6
  · rw [if_pos c6, if_pos c6]
  rw [if_neg c6, if_neg c6]
  by_cases c7 : p = 7
  · rw [if_pos c7, if_pos c7]
  rw [if_neg c7, if_neg c7]
  by_cases c8 : p = 8
  · rw [if_pos c8, if_pos c8]
  rw [if_neg c8, if_neg c8]
theorem X6_count_c {fu n t c cl : Nat} {f d le m : Mem} {l : List Nat} (hD : DAYR n t d m l) (d2 : f 0 7 = nI c) (e2 : le 0 1 = nI cl) (hfu : 200 < fu) {s2 s3 w : Nat} {b : Int32} (s21 : pX2_comersWith fu d 2 = some (nI s2)) (s31 : pX2_comersWith fu d 3 = some (nI s3)) (w1 : pX2_allWaited fu d = some (nI w)) (b1 : pX2_isOver fu d = some b) (bb : b = 0 ∨ b = 1) (p : Int32) :
    (p < 11 → pX6_count fu f d le p = some (chn p (nI n) (nI t) (nI l.length) (nI s2) (nI s3) b (nI w) (nI cl) (nI c))) ∧ (16 < p → p < 20 → pX6_count fu f d le p = some (chn p (nI n) (nI t) (nI l.length) (nI s2) (nI s3) b (nI w) (nI cl) (nI c))) ∧ (27 < p → pX6_count fu f d le p = some (chn p (nI n) (nI t) (nI l.length) (nI s2) (nI s3) b (nI w) (nI cl) (nI c))) ∧ (∀ j, j < 8 → ¬ nI (20 + j) < 11 → 16 < nI (20 + j) → ¬ nI (20 + j) < 20 → ¬ 27 < nI (20 + j) → pX6_count fu f d le (nI (20 + j)) = some (d 1 j)) ∧ ∀ j, j < 7 → ¬ nI (10 + j) < 11 → ¬ 16 < nI (10 + j) → pX6_count fu f d le (nI (10 + j)) = some (f 2 j) := by
  have eb : (if b = 0 then some (0 : Int32) else some 1) = some b := by
    rcases bb with rfl | rfl
    · rw [if_pos rfl]
    · rw [if_neg i10]
  unfold pX6_count
  simp only [jn1_eq, hD.1.2.1, hD.2.1.1, hD.2.2.2.2.1, s21, s31, w1, b1, bd_some, d2, e2, eb, chn_eq]
  refine ⟨fun a1 => ?_, fun a1 a2 => ?_, fun a1 => ?_, fun j j1 a1 a2 a3 a4 => ?_, fun j j1 a1 a2 => ?_⟩
  · have a2 : p < 20 := by
      rw [i_lt, show (11 : Int32).toInt = 11 from rfl] at a1
      rw [i_lt, show (20 : Int32).toInt = 20 from rfl]
      omega
    rw [if_pos a1, if_pos a2]
  · have a0 : ¬ p < 11 := by
      rw [i_lt, show (16 : Int32).toInt = 16 from rfl] at a1
      rw [i_lt, show (11 : Int32).toInt = 11 from rfl]
      omega
    rw [if_neg a0, if_pos a1, if_pos a2]
  · have a0 : ¬ p < 11 := by
      rw [i_lt, show (27 : Int32).toInt = 27 from rfl] at a1
      rw [i_lt, show (11 : Int32).toInt = 11 from rfl]
      omega
    have a2 : ¬ p < 20 := by
      rw [i_lt, show (27 : Int32).toInt = 27 from rfl] at a1
      rw [i_lt, show (20 : Int32).toInt = 20 from rfl]
      omega
    have a3 : 16 < p := by
      rw [i_lt, show (27 : Int32).toInt = 27 from rfl] at a1
      rw [i_lt, show (16 : Int32).toInt = 16 from rfl]
      omega
    rw [if_neg a0, if_pos a3, if_neg a2, if_pos a1]
  · have e : nI (20 + j) - 20 = nI j := by rw [show (20 : Int32) = nI 20 from rfl, pk_sub (by omega), Nat.add_sub_cancel_left]
    rw [if_neg a1, if_pos a2, if_neg a3, if_neg a4, e, ck_ok j1 (by decide), nI_cl (by omega)]
  · have e : nI (10 + j) - 10 = nI j := by rw [show (10 : Int32) = nI 10 from rfl, pk_sub (by omega), Nat.add_sub_cancel_left]
    rw [if_neg a1, if_neg a2, e, ck_ok j1 (by decide), nI_cl (by omega)]
theorem X7_count_c {fu n t c cl : Nat} {d m : Mem} {l : List Nat} (hD : DAYR n t d m l) (d2 : m 0 32 = nI c) (e2 : m 0 23 = nI cl) (hfu : 200 < fu) {s2 s3 w : Nat} {b : Int32} (s21 : pX7_stateMany fu m 2 = some (nI s2)) (s31 : pX7_stateMany fu m 3 = some (nI s3)) (w1 : pX7_waitedAll fu m = some (nI w)) (b1 : pX7_isOver fu m = some b) (bb : b = 0 ∨ b = 1) (p : Int32) :
    (p < 11 → pX7_count fu m p = some (chn p (nI n) (nI t) (nI l.length) (nI s2) (nI s3) b (nI w) (nI cl) (nI c))) ∧ (16 < p → p < 20 → pX7_count fu m p = some (chn p (nI n) (nI t) (nI l.length) (nI s2) (nI s3) b (nI w) (nI cl) (nI c))) ∧ (27 < p → pX7_count fu m p = some (chn p (nI n) (nI t) (nI l.length) (nI s2) (nI s3) b (nI w) (nI cl) (nI c))) ∧ (∀ j, j < 8 → ¬ nI (20 + j) < 11 → 16 < nI (20 + j) → ¬ nI (20 + j) < 20 → ¬ 27 < nI (20 + j) → pX7_count fu m (nI (20 + j)) = some (m 2 j)) ∧ ∀ j, j < 7 → ¬ nI (10 + j) < 11 → ¬ 16 < nI (10 + j) → pX7_count fu m (nI (10 + j)) = some (m 1 j) := by
  have eb : (if b = 0 then some (0 : Int32) else some 1) = some b := by
    rcases bb with rfl | rfl
    · rw [if_pos rfl]
    · rw [if_neg i10]
  have e16 : m 0 16 = nI t := hD.1.2.2.2.1.symm.trans hD.2.1.1
  unfold pX7_count pX7_isIn
  simp only [hD.1.2.2.1, e16, hD.2.2.2.1.1, s21, s31, w1, b1, bd_some, d2, e2, eb, chn_eq]
  refine ⟨fun a1 => ?_, fun a1 a2 => ?_, fun a1 => ?_, fun j j1 a1 a2 a3 a4 => ?_, fun j j1 a1 a2 => ?_⟩
  · have a2 : p < 20 := by
      rw [i_lt, show (11 : Int32).toInt = 11 from rfl] at a1
      rw [i_lt, show (20 : Int32).toInt = 20 from rfl]
      omega
    rw [if_pos a1, bd_some, if_pos rfl, if_pos a2, bd_some, if_pos rfl]
  · have a0 : ¬ p < 11 := by
      rw [i_lt, show (16 : Int32).toInt = 16 from rfl] at a1
      rw [i_lt, show (11 : Int32).toInt = 11 from rfl]
      omega
    rw [if_neg a0, if_pos a1, bd_some, if_pos rfl, if_pos a2, bd_some, if_pos rfl]
  · have a0 : ¬ p < 11 := by
      rw [i_lt, show (27 : Int32).toInt = 27 from rfl] at a1
      rw [i_lt, show (11 : Int32).toInt = 11 from rfl]
      omega
    have a2 : ¬ p < 20 := by
      rw [i_lt, show (27 : Int32).toInt = 27 from rfl] at a1
      rw [i_lt, show (20 : Int32).toInt = 20 from rfl]
      omega
    have a3 : 16 < p := by
      rw [i_lt, show (27 : Int32).toInt = 27 from rfl] at a1
      rw [i_lt, show (16 : Int32).toInt = 16 from rfl]
      omega
    rw [if_neg a0, if_pos a3, bd_some, if_pos rfl, if_neg a2, if_pos a1, bd_some, if_pos rfl]
  · have e : nI (20 + j) - 20 = nI j := by rw [show (20 : Int32) = nI 20 from rfl, pk_sub (by omega), Nat.add_sub_cancel_left]
    rw [if_neg a1, if_pos a2, bd_some, if_pos rfl, if_neg a3, if_neg a4, bd_some, if_neg i10, e, ck_ok j1 (by decide), nI_cl (by omega)]
  · have e : nI (10 + j) - 10 = nI j := by rw [show (10 : Int32) = nI 10 from rfl, pk_sub (by omega), Nat.add_sub_cancel_left]
    rw [if_neg a1, if_neg a2, bd_some, if_neg i10, e, ck_ok j1 (by decide), nI_cl (by omega)]
theorem count_R {fu : Nat} {f n k le m : Mem} (h : RR f n k le m) (hfu : 200 < fu) (p : Int32) : ∃ r, pX6_count fu f n le p = some r ∧ pX7_count fu m p = some r := by
  obtain ⟨⟨⟨c, d1, d2, d3, d4⟩, f2, f8⟩, ⟨nn, t, l, hD⟩, hI, ⟨cl, e1, e2, e3, e4⟩⟩ := h
  obtain ⟨s2, -, s21, s22⟩ := state_eq (fu := fu) hD.1 hD.2.1 (by omega) 2
  obtain ⟨s3, -, s31, s32⟩ := state_eq (fu := fu) hD.1 hD.2.1 (by omega) 3
  obtain ⟨w, -, w1, w2⟩ := waited_eq (fu := fu) hD.1 hD.2.1 (by omega)
  obtain ⟨b, b1, b2, b3, -⟩ := isOver_sim (fu := fu) hD (by omega)
  obtain ⟨x1, x2, x3, x4, x5⟩ := X6_count_c (f := f) (le := le) hD d2 e2 hfu s21 s31 w1 b1 b3 p
  obtain ⟨y1, y2, y3, y4, y5⟩ := X7_count_c hD d3 e3 hfu s22 s32 w2 b2 b3 p
  by_cases a1 : p < 11
  · exact ⟨_, x1 a1, y1 a1⟩
  · by_cases a2 : 16 < p
    · by_cases a3 : p < 20
      · exact ⟨_, x2 a2 a3, y2 a2 a3⟩
      · by_cases a4 : 27 < p
        · exact ⟨_, x3 a4, y3 a4⟩
        · obtain ⟨j, j1, ej⟩ : ∃ j, j < 8 ∧ p = nI (20 + j) := by
            have q3 := a3
            have q4 := a4
            rw [i_lt, show (20 : Int32).toInt = 20 from rfl] at q3
            rw [i_lt, show (27 : Int32).toInt = 27 from rfl] at q4
            refine ⟨(p.toInt - 20).toNat, by omega, Int32.toInt_inj.mp ?_⟩
            rw [nI_toInt (by omega)]
            omega
          rw [ej] at a1 a2 a3 a4 ⊢
          exact ⟨_, x4 j j1 a1 a2 a3 a4, by rw [hD.1.2.2.2.2.1 j j1]; exact y4 j j1 a1 a2 a3 a4⟩
    · obtain ⟨j, j0, j1, ej⟩ : ∃ j, 1 ≤ j ∧ j < 7 ∧ p = nI (10 + j) := by
        have q1 := a1
        have q2 := a2
        rw [i_lt, show (11 : Int32).toInt = 11 from rfl] at q1
        rw [i_lt, show (16 : Int32).toInt = 16 from rfl] at q2
        refine ⟨(p.toInt - 10).toNat, by omega, by omega, Int32.toInt_inj.mp ?_⟩
        rw [nI_toInt (by omega)]
        omega
      rw [ej] at a1 a2 ⊢
      exact ⟨_, x5 j j1 a1 a2, by rw [f2 j j0 j1]; exact y5 j j1 a1 a2⟩
