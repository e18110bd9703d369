/-! PURE 20: the best kind, rounds, marks, a second kettle -/
theorem BQ.kind {n j x : Nat} {d m : Mem} (h : BQ n d m) (hx : x ≤ 6) : BQ n (up2 d (5 + j) 0 (nI x)) (up2 m 3 j (nI x)) := by
  obtain ⟨n8, h1, h2, h3, h4, h5⟩ := h
  have r1 : up2 d (5 + j) 0 (nI x) 1 = d 1 := by rw [up2_rw, if_neg (by omega)]
  refine ⟨n8, by rw [up2_row (by omega)]; exact h1, by rw [up2_row (by omega)]; exact h2, by rw [r1, up2_rw, if_neg (by omega)]; exact h3, by rw [r1]; exact h4, fun i hi => ?_⟩
  obtain ⟨⟨c0, c1, c2, c3, c4⟩, g0, g1, g2, g3, g4⟩ := h5 i hi
  unfold CS
  rw [up2_row (m := m) (o' := 4) (by omega), up2_row (m := m) (o' := 5) (by omega), up2_row (m := m) (o' := 6) (by omega), up2_row (m := m) (o' := 7) (by omega)]
  by_cases e : i = j
  · subst e
    rw [up2_same, up2_same, up2_col (by omega), up2_col (by omega), up2_col (by omega), up2_col (by omega)]
    exact ⟨⟨⟨x, by omega, hx, rfl⟩, c1, c2, c3, c4⟩, rfl, g1, g2, g3, g4⟩
  · rw [up2_row (by omega), up2_row (by omega), up2_row (by omega), up2_row (by omega), up2_row (by omega), up2_col e]
    exact ⟨⟨c0, c1, c2, c3, c4⟩, g0, g1, g2, g3, g4⟩
theorem BQ.set {n k v : Nat} {d m : Mem} (h : BQ n d m) (hs : SRg (upd (d 1) k (nI v))) : BQ n (up2 d 1 k (nI v)) (up2 m 2 k (nI v)) := by
  obtain ⟨n8, h1, h2, h3, h4, h5⟩ := h
  refine ⟨n8, by rw [up2_row (by omega)]; exact h1, by rw [up2_row (by omega)]; exact h2, fun i hi => ?_, by rw [up2_rw, if_pos rfl]; exact hs, fun i hi => ?_⟩
  · rw [up2_at, up2_at]
    by_cases e : i = k
    · subst e
      simp
    · simp [e, h3 i hi]
  · unfold CS
    rw [up2_rw, if_neg (by omega), up2_row (by omega), up2_row (by omega), up2_row (by omega), up2_row (by omega), up2_row (by omega)]
    exact h5 i hi
theorem bestKind_sim {fu n j : Nat} {d m : Mem} {q q' : Int32} (h : BQ n d m) (hj : j < n) (hq : (q' = 0 ∧ ¬ q = 0) ∨ (¬ q' = 0 ∧ q = 0)) (hfu : 200 < fu) :
    ∃ b d' m', b ≤ 6 ∧ pX5_bestKind fu d (nI j) q' = some (nI b, d') ∧ pX7_bestKind fu m (nI j) q = some (nI b, m') ∧ BQ n d' m' ∧ FW m m' := by
  have n8 := h.1
  have hj8 : j < 8 := by omega
  obtain ⟨⟨⟨k0, -, k06, kk0⟩, -⟩, g0, -⟩ := h.2.2.2.2.2 j hj
  unfold pX5_bestKind pX7_bestKind
  simp only [ck_ok hj8 (show 8 < 2 ^ 31 by decide), nI_cl (show j < 2 ^ 31 by omega), lt_eq, ← g0, kk0]
  refine csim44 7 (fun i (a b c : Int32) (y : Mem) (p r s : Int32) (z : Mem) => ∃ x, x ≤ 6 ∧ a = nI x ∧ p = nI x ∧ MNi i b r ∧ c = nI i ∧ s = nI i ∧ BQ n y z ∧ FW m z) (fun (x y : Option (Int32 × Mem)) => ∃ b d' m', b ≤ 6 ∧ x = some (nI b, d') ∧ y = some (nI b, m') ∧ BQ n d' m' ∧ FW m m') ?_ fu 0 _ _ _ _ _ _ _ _ ⟨0, by omega, rfl, rfl, Or.inl ⟨rfl, rfl, rfl⟩, rfl, rfl, h, FW.rf⟩ (by omega) (by omega)
  rintro i g hh a b c y p r s z i7 ⟨x, x6, rfl, rfl, hM, rfl, rfl, hB, hW⟩ hc
  by_cases w : i < 7
  · obtain ⟨cst, d2, m2, t2, l2, c2, e1, e2, hD, hF, hG⟩ := anew_sim (fu := fu) (hB.kind (j := j) (x := i) (by omega)) hfu
    have hB2 := FD.bq (hB.kind (j := j) (x := i) (by omega)) hF hG
    have hW2 := (hW.tr (FW.up (o := 3) (k := j) (v := nI i) (by omega) (by omega))).tr hG.fw
    have hrw := hD.1.2.2.2.2.2.1 j hj
    simp only [if_neg (show ¬ (7 : Int32) ≤ nI i from nI_ge w (by decide)), e1, e2, bd2_some, jn1_eq, nI_1, ← hrw.2.2.2.2.2.1]
    have fin : ∀ v, v ≤ 20000 → (fun (x y : Option (Int32 × Mem)) => ∃ b d' m', b ≤ 6 ∧ x = some (nI b, d') ∧ y = some (nI b, m') ∧ BQ n d' m' ∧ FW m m') (if b ≤ nI v then g (nI x) b (nI (i + 1)) d2 else g (nI i) (nI v) (nI (i + 1)) d2) (if nI v < r then hh (nI i) (nI v) (nI (i + 1)) m2 else hh (nI x) r (nI (i + 1)) m2) := by
      intro v hv
      by_cases z1 : b ≤ nI v
      · rw [if_pos z1, if_neg ((hM.st hv).mp z1)]
        exact hc _ _ _ _ _ _ _ _ w ⟨x, x6, rfl, rfl, hM.nx hv z1, rfl, rfl, hB2, hW2⟩
      · rw [if_neg z1, if_pos (Decidable.not_not.mp (fun e => z1 ((hM.st hv).mpr e)))]
        exact hc _ _ _ _ _ _ _ _ w ⟨i, by omega, rfl, rfl, Or.inr ⟨by omega, v, hv, rfl, rfl⟩, rfl, rfl, hB2, hW2⟩
    rcases hq with ⟨q1, q2⟩ | ⟨q1, q2⟩
    · rw [if_pos q1, if_neg q2]
      exact fin cst c2
    · rw [if_neg q1, if_pos q2]
      by_cases s : d2 (5 + j) 5 = 2
      · have hw := hrw.2.2.2.2.2.2
        obtain ⟨v, -, v1, v2⟩ := wtd_rng (hD.2.1.2.2.2.1 j hj)
        rw [if_pos s, if_pos s, X1_waited_eq, bd_some, hw, v2]
        exact fin v (by omega)
      · rw [if_neg s, if_neg s]
        exact fin 99 (by omega)
  · have e : i = 7 := by omega
    subst e
    simp only [show (7 : Int32) ≤ nI 7 from by decide, if_true]
    exact ⟨x, _, _, x6, rfl, rfl, hB.kind k06, hW.tr (FW.up (by omega) (by omega))⟩
theorem best_R {fu : Nat} {f n k le m : Mem} (h : RR f n k le m) (hfu : 200 < fu) (md : Mem) (p q : Int32) : ∃ r f' md' m', pX6_best fu f n md p q = some (r, f', md') ∧ pX7_best fu m p q = some (r, m') ∧ RR f' n k le m' := by
  obtain ⟨f1, m1, e1, e2, hr1⟩ := ref1 (fu := fu) h
  obtain ⟨f2, m2, e3, e4, hr2⟩ := ref2 (fu := fu) h
  have hh := h
  obtain ⟨hF, ⟨nn, t, l, hD⟩, -⟩ := hh
  unfold pX6_best pX7_best pX7_isIn
  rcases comer_c (fu := fu) hD p with ⟨a1, a2⟩ | ⟨j, hj, rfl, a1, a2⟩
  · simp only [a1, a2, bd_some, reduceIte, e1, e2, bd2_some]
    exact ⟨_, _, _, _, rfl, rfl, hr1⟩
  · obtain ⟨y, m3, t1, t2, hD1, hS1⟩ := take_save (fu := fu) (z := md) hD (by omega)
    by_cases q0 : q = 0
    · subst q0
      obtain ⟨b, d', m', -, g1, g2, hB, hW⟩ := bestKind_sim (fu := fu) (q := 0) (q' := 1) hD1.bq hj (Or.inr ⟨by decide, rfl⟩) hfu
      obtain ⟨m4, e5, hK, -⟩ := back (fu := fu) (hS1.fw hW) (by omega)
      simp only [a1, a2, bd_some, if_neg i10, jn1_eq, if_true, if_neg (show ¬ (0 : Int32) < 0 by decide), if_neg (show ¬ (1 : Int32) < 0 by decide), t1, t2, g1, g2, bd2_some, e5]
      exact ⟨_, _, _, _, rfl, rfl, h.keep hK⟩
    · by_cases q1 : q = 1
      · subst q1
        obtain ⟨b, d', m', -, g1, g2, hB, hW⟩ := bestKind_sim (fu := fu) (q := 1) (q' := 0) hD1.bq hj (Or.inl ⟨rfl, by decide⟩) hfu
        obtain ⟨m4, e5, hK, -⟩ := back (fu := fu) (hS1.fw hW) (by omega)
        simp only [a1, a2, bd_some, if_neg i10, jn1_eq, if_true, if_neg (show ¬ (1 : Int32) < 0 by decide), if_neg (show ¬ (1 : Int32) < 1 by decide), t1, t2, g1, g2, bd2_some, e5]
        exact ⟨_, _, _, _, rfl, rfl, h.keep hK⟩
      · have : (if q < 0 then some (0 : Int32) else if 1 < q then some 0 else some 1) = some 0 := by
          by_cases w : q < 0
          · rw [if_pos w]
          · rw [if_neg w, if_pos]
            rcases Classical.em (1 < q) with z | z
            · exact z
            · obtain ⟨c, c1, rfl⟩ := nI_of2 (M := 1) (n := 1) rfl w ((i_nlt _ _).mp z)
              rcases (show c = 0 ∨ c = 1 by omega) with rfl | rfl
              · exact absurd rfl q0
              · exact absurd rfl q1
        simp only [a1, a2, bd_some, if_neg i10, jn1_eq, if_neg q0, if_neg q1, this, reduceIte, e3, e4, bd2_some]
        exact ⟨_, _, _, _, rfl, rfl, hr2⟩
theorem rounds_sim {fu n : Nat} {d m : Mem} (h : BQ n d m) (hfu : 200 < fu) : ∃ b d' m', pX5_playRounds fu d = some (b, d') ∧ pX7_goesRounds fu m = some (b, m') ∧ BQ n d' m' ∧ FW m m' := by
  unfold pX5_playRounds pX7_goesRounds
  refine csim33 20 (fun i (a b : Int32) (y : Mem) (p r : Int32) (z : Mem) => a = r ∧ (a = 0 ∨ a = 1) ∧ b = nI i ∧ p = nI i ∧ BQ n y z ∧ FW m z) (fun (x y : Option (Int32 × Mem)) => ∃ b d' m', x = some (b, d') ∧ y = some (b, m') ∧ BQ n d' m' ∧ FW m m') ?_ fu 0 _ _ _ _ _ _ ⟨rfl, Or.inr rfl, rfl, rfl, h, FW.rf⟩ (by omega) (by omega)
  rintro i g hh a b y p r z i20 ⟨rfl, ha, rfl, rfl, hB, hW⟩ hc
  by_cases a0 : a = 0
  · rw [if_pos a0, if_pos a0]
    exact ⟨_, _, _, rfl, rfl, hB, hW⟩
  · rw [if_neg a0, if_neg a0]
    by_cases w : i < 20
    · rw [if_neg (show ¬ (20 : Int32) ≤ nI i from nI_ge w (by decide)), if_neg (show ¬ (20 : Int32) ≤ nI i from nI_ge w (by decide))]
      have n8 := h.1
      refine csim33 n (fun j (a b : Int32) (y : Mem) (p r : Int32) (z : Mem) => a = p ∧ (a = 0 ∨ a = 1) ∧ b = nI j ∧ r = nI j ∧ BQ n y z ∧ FW m z) (fun (x y : Option (Int32 × Mem)) => ∃ b d' m', x = some (b, d') ∧ y = some (b, m') ∧ BQ n d' m' ∧ FW m m') ?_ fu 0 _ _ _ _ _ _ ⟨rfl, Or.inl rfl, rfl, rfl, hB, hW⟩ (by omega) (by omega)
      rintro j g2 h2 a b y p r z j1 ⟨rfl, ha, rfl, rfl, hB, hW⟩ hc2
      rw [hB.2.1, hB.2.2.1]
      by_cases v : j < n
      · have j8 : j < 8 := by omega
        obtain ⟨x, d', m', x6, e1, e2, hB2, hW2⟩ := bestKind_sim (fu := fu) (q := 0) (q' := 1) hB v (Or.inr ⟨by decide, rfl⟩) hfu
        have hk := (hB2.2.2.2.2.2 j v).2.1
        simp only [if_neg (nI_ge v (show n < 2 ^ 31 by omega)), e1, e2, bd2_some, jn1_eq, ck_ok j8 (show 8 < 2 ^ 31 by decide), nI_cl (show j < 2 ^ 31 by omega), lt_eq, nI_1, ← hk]
        have hB3 := hB2.kind (j := j) x6
        have hW3 := (hW.tr hW2).tr (FW.up (o := 3) (k := j) (v := nI x) (by omega) (by omega))
        by_cases s : nI x = d' (5 + j) 0
        · rcases ha with rfl | rfl
          · simp only [if_true, if_pos s]
            exact hc2 _ _ _ _ _ _ v ⟨by decide, Or.inl rfl, rfl, rfl, hB3, hW3⟩
          · simp only [if_neg (show ¬ (1 : Int32) = 0 by decide), if_pos s]
            exact hc2 _ _ _ _ _ _ v ⟨by decide, Or.inr rfl, rfl, rfl, hB3, hW3⟩
        · rcases ha with rfl | rfl
          · simp only [if_true, if_neg s]
            exact hc2 _ _ _ _ _ _ v ⟨by decide, Or.inr rfl, rfl, rfl, hB3, hW3⟩
          · simp only [if_neg (show ¬ (1 : Int32) = 0 by decide), if_neg s]
            exact hc2 _ _ _ _ _ _ v ⟨by decide, Or.inr rfl, rfl, rfl, hB3, hW3⟩
      · have e : j = n := by omega
        subst e
        simp only [if_pos (nI_le (Nat.le_refl _) (show j < 2 ^ 31 by omega)), lt_eq, nI_1]
        exact hc _ _ _ _ _ _ w ⟨rfl, ha, rfl, rfl, hB, hW⟩
    · have e : i = 20 := by omega
      subst e
      rw [if_pos (show (20 : Int32) ≤ nI 20 by decide), if_pos (show (20 : Int32) ≤ nI 20 by decide)]
      exact ⟨_, _, _, rfl, rfl, hB, hW⟩
theorem digits_sim {fu n : Nat} {d m : Mem} (h : BQ n d m) (hfu : 200 < fu) : ∃ b, pX5_kindDigits fu d = some b ∧ pX7_kindsDigits fu m = some b := by
  have n8 := h.1
  unfold pX5_kindDigits pX7_kindsDigits
  simp only [lt_eq]
  refine csim22 n (fun i (a b : Int32) (p r : Int32) => p = a ∧ b = nI (n - i) + (-1) ∧ r = nI (n - i) + (-1)) (fun (x y : Option Int32) => ∃ b, x = some b ∧ y = some b) ?_ fu 0 _ _ _ _ ⟨rfl, by rw [h.2.1, Int32.sub_eq_add_neg]; rfl, by rw [h.2.2.1, Int32.sub_eq_add_neg]; rfl⟩ (by omega) (by omega)
  rintro i g hh a b p r i1 ⟨rfl, rfl, rfl⟩ hc
  by_cases w : i < n
  · obtain ⟨j, hj⟩ : ∃ j, n - i = j + 1 := ⟨n - i - 1, by omega⟩
    have hk := (h.2.2.2.2.2 j (by omega)).2.1
    rw [hj, pk_m1]
    simp only [if_neg (nI_pos (show j < 2 ^ 31 by omega)), ck_ok (show j < 8 by omega) (show 8 < 2 ^ 31 by decide), nI_cl (show j < 2 ^ 31 by omega), ← hk, Int32.mul_comm 10]
    exact hc _ _ _ _ w ⟨rfl, by rw [show n - (i + 1) = j by omega], by rw [show n - (i + 1) = j by omega]⟩
  · have e : i = n := by omega
    subst e
    rw [Nat.sub_self, if_pos (by decide), if_pos (by decide)]
    exact ⟨_, rfl, rfl⟩
theorem oneKind_sim {fu n : Nat} {d m : Mem} {P : Option (Int32 × Mem) → Option (Int32 × Mem) → Prop} {x4 : Int32} (h : BQ n d m) (hfu : 200 < fu) (hP : ∀ b d' m', BQ n d' m' → FW m m' → P (some (x4 - b, d')) (some (b, m'))) :
    P (zl3 (fun g8 (x4' : Int32) (x5 : Int32) (y6 : Mem) =>
    if 7 ≤ x5 then
      some ((x4 - x4'), y6)
    else
      zl2 (fun g14 (x11 : Int32) (y12 : Mem) =>
        if (y12 0 4) ≤ x11 then
          bd2 (pX5_costAnew fu y12) fun r17 y18 =>
          lt' ((imin x4' r17) : Int32) fun x20 =>
          lt' (x5 + 1) fun x21 =>
          g8 x20 x21 y18
        else
          ck x11 8 <|
          lt' (up2 y12 (5 + x11.toNatClampNeg) 0 x5) fun y23 =>
          lt' (x11 + 1) fun x24 =>
          g14 x24 y23) fu 0 y6) fu 2147483647 0 d) (pX7_leastOfOneKind fu m) := by
  have n8 := h.1
  unfold pX7_leastOfOneKind
  refine csim33 7 (fun i (a b : Int32) (y : Mem) (p r : Int32) (z : Mem) => MNi i a p ∧ b = nI i ∧ r = nI i ∧ BQ n y z ∧ FW m z) P ?_ fu 0 _ _ _ _ _ _ ⟨Or.inl ⟨rfl, rfl, rfl⟩, rfl, rfl, h, FW.rf⟩ (by omega) (by omega)
  rintro i g hh a b y p r z i7 ⟨hM, rfl, rfl, hB, hW⟩ hc
  by_cases w : i < 7
  · rw [if_neg (show ¬ (7 : Int32) ≤ nI i from nI_ge w (by decide)), if_neg (show ¬ (7 : Int32) ≤ nI i from nI_ge w (by decide))]
    refine csim22 n (fun j (b : Int32) (y : Mem) (r : Int32) (z : Mem) => b = nI j ∧ r = nI j ∧ BQ n y z ∧ FW m z) P ?_ fu 0 _ _ _ _ ⟨rfl, rfl, hB, hW⟩ (by omega) (by omega)
    rintro j g2 h2 b y r z j1 ⟨rfl, rfl, hB, hW⟩ hc2
    rw [hB.2.1, hB.2.2.1]
    by_cases v : j < n
    · simp only [if_neg (nI_ge v (show n < 2 ^ 31 by omega)), ck_ok (show j < 8 by omega) (show 8 < 2 ^ 31 by decide), nI_cl (show j < 2 ^ 31 by omega), lt_eq, nI_1]
      exact hc2 _ _ _ _ v ⟨rfl, rfl, hB.kind (by omega), hW.tr (FW.up (by omega) (by omega))⟩
    · obtain ⟨cst, d2, m2, t2, l2, c2, e1, e2, hD, hF, hG⟩ := anew_sim (fu := fu) hB hfu
      have e : j = n := by omega
      subst e
      simp only [if_pos (nI_le (Nat.le_refl _) (show j < 2 ^ 31 by omega)), e1, e2, bd2_some, lt_eq, nI_1]
      have hB2 := FD.bq hB hF hG
      have hW2 := hW.tr hG.fw
      rcases hM with ⟨-, rfl, rfl⟩ | ⟨-, c, c1, rfl, rfl⟩
      · rw [if_neg ((i_nle _ _).mpr (nI_max c2).2)]
        have : imin 2147483647 (nI cst) = nI cst := by
          unfold imin
          rw [if_pos (nI_max c2).1]
        rw [this]
        exact hc _ _ _ _ _ _ w ⟨Or.inr ⟨by omega, cst, c2, rfl, rfl⟩, rfl, rfl, hB2, hW2⟩
      · have : imin (nI c) (nI cst) = if nI c ≤ nI cst then nI c else nI cst := by
          unfold imin
          by_cases q : nI cst < nI c
          · rw [if_pos q, if_neg ((i_nle _ _).mpr q)]
          · rw [if_neg q, if_pos ((i_nlt _ _).mp q)]
        rw [this]
        by_cases q : nI c ≤ nI cst
        · rw [if_pos q, if_pos q]
          exact hc _ _ _ _ _ _ w ⟨Or.inr ⟨by omega, c, c1, rfl, rfl⟩, rfl, rfl, hB2, hW2⟩
        · rw [if_neg q, if_neg q]
          exact hc _ _ _ _ _ _ w ⟨Or.inr ⟨by omega, cst, c2, rfl, rfl⟩, rfl, rfl, hB2, hW2⟩
  · have e : i = 7 := by omega
    subst e
    rw [if_pos (show (7 : Int32) ≤ nI 7 by decide), if_pos (show (7 : Int32) ≤ nI 7 by decide)]
    rcases hM with ⟨q, -⟩ | ⟨-, c, c1, rfl, rfl⟩
    · omega
    · exact hP _ _ _ hB hW
