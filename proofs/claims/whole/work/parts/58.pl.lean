/-! PURE 21: rounds, marks, a second kettle on both faces -/
theorem lower2 {fu : Nat} {m m' : Mem} (h : pX7_no fu m (-2) = some (-2, m')) : pX7_lower fu m (-2) = some (1000000000 - (-2), m') := by
  unfold pX7_no at h
  unfold pX7_lower
  have e : (-(-2) : Int32) = nI 2 := by decide
  rw [e] at h ⊢
  simp only [ck_ok (show 2 < 7 by decide) (show 7 < 2 ^ 31 by decide), lt_eq] at h ⊢
  injection h with h
  injection h with _ h
  rw [h]
theorem isIn_no1 {fu : Nat} {q : Int32} (q0 : ¬ q = 0) (q1 : ¬ q = 1) : pX7_isIn fu q 0 1 = some 0 := by
  unfold pX7_isIn
  by_cases w : q < 0
  · rw [if_pos w]
  · rw [if_neg w, if_pos]
    rcases Classical.em (1 < q) with z | z
    · exact z
    · obtain ⟨c, c1, rfl⟩ := nI_of2 (M := 1) (n := 1) rfl w ((i_nlt _ _).mp z)
      rcases (show c = 0 ∨ c = 1 by omega) with rfl | rfl
      · exact absurd rfl q0
      · exact absurd rfl q1
theorem isIn_01 (fu : Nat) : pX7_isIn fu 0 0 1 = some 1 ∧ pX7_isIn fu 1 0 1 = some 1 := by
  unfold pX7_isIn
  exact ⟨by rw [if_neg (by decide), if_neg (by decide)], by rw [if_neg (by decide), if_neg (by decide)]⟩
theorem SRg_all {s : Rw} : SRg s ↔ ∀ i, i < 8 → rng (s i) ([2, 0, 1, 1, 0, 0, 0, 1].getD i 0) ([11, 9, 20, 9, 9, 9, 11, 2].getD i 0) := by
  constructor
  · rintro ⟨h0, h1, h2, h3, h4, h5, h6, h7⟩ i hi
    rcases (show i = 0 ∨ i = 1 ∨ i = 2 ∨ i = 3 ∨ i = 4 ∨ i = 5 ∨ i = 6 ∨ i = 7 by omega) with rfl | rfl | rfl | rfl | rfl | rfl | rfl | rfl
    · exact h0
    · exact h1
    · exact h2
    · exact h3
    · exact h4
    · exact h5
    · exact h6
    · exact h7.elim (fun e => ⟨1, by decide, by decide, e⟩) (fun e => ⟨2, by decide, by decide, e⟩)
  · intro h
    refine ⟨h 0 (by omega), h 1 (by omega), h 2 (by omega), h 3 (by omega), h 4 (by omega), h 5 (by omega), h 6 (by omega), ?_⟩
    obtain ⟨v, v1, v2, e⟩ := h 7 (by omega)
    have v1 : 1 ≤ v := v1
    have v2 : v ≤ 2 := v2
    rcases (show v = 1 ∨ v = 2 by omega) with rfl | rfl
    · exact Or.inl e
    · exact Or.inr e
theorem SRg.up {s : Rw} {k v : Nat} (h : SRg s) (h1 : [2, 0, 1, 1, 0, 0, 0, 1].getD k 0 ≤ v) (h2 : v ≤ [11, 9, 20, 9, 9, 9, 11, 2].getD k 0) : SRg (upd s k (nI v)) := SRg_all.mpr fun i hi => by
  by_cases e : i = k
  · subst e
    rw [pk_us]
    exact ⟨v, h1, h2, rfl⟩
  · rw [pk_un e]
    exact SRg_all.mp h i hi
theorem rounds_R {fu : Nat} {f n k le m : Mem} (h : RR f n k le m) (hfu : 200 < fu) (md : Mem) (p : Int32) : ∃ r f' md' m', pX6_rounds fu f n md p = some (r, f', md') ∧ pX7_rounds fu m p = some (r, m') ∧ RR f' n k le m' := by
  obtain ⟨f', m', e1, e2, hr⟩ := ref2 (fu := fu) h
  have e3 := lower2 e2
  unfold pX6_rounds pX7_rounds pX7_isIn
  by_cases a : p < 0
  · simp only [if_pos a, jn1_eq, bd_some, e1, e3, bd2_some, reduceIte]
    exact ⟨_, _, _, _, rfl, rfl, hr⟩
  · by_cases b : p ≤ 3
    · have hh := h
      obtain ⟨hF, ⟨nn, t, l, hD⟩, -⟩ := hh
      obtain ⟨y, m1, t1, t2, hD1, hS1⟩ := take_save (fu := fu) (z := md) hD (by omega)
      obtain ⟨b0, d2, m2, g1, g2, hB, hW⟩ := rounds_sim (fu := fu) hD1.bq hfu
      simp only [if_neg a, if_pos b, if_neg ((i_nlt 3 p).mpr b), jn1_eq, jn2_eq, bd_some, if_neg i10, t1, t2, g1, g2, bd2_some]
      obtain ⟨j, j4, rfl⟩ := nI_of2 (M := 3) (n := 3) rfl a b
      rcases (show j = 0 ∨ j = 1 ∨ j = 2 ∨ j = 3 by omega) with rfl | rfl | rfl | rfl
      · obtain ⟨m3, k3, hK, -⟩ := back (fu := fu) (hS1.fw hW) (by omega)
        simp only [show nI 0 = 0 from rfl, reduceIte, if_neg (show ¬ (0 : Int32) = 1 by decide), if_neg (show ¬ (0 : Int32) = 3 by decide), if_pos (show (0 : Int32) ≤ 1 by decide), k3, bd_some]
        exact ⟨_, _, _, _, rfl, rfl, h.keep hK⟩
      · obtain ⟨m3, k3, hK, -⟩ := back (fu := fu) (hS1.fw hW) (by omega)
        obtain ⟨g, h1, h2⟩ := digits_sim (fu := fu) hB hfu
        simp only [show nI 1 = 1 from rfl, reduceIte, if_neg (show ¬ (1 : Int32) = 0 by decide), if_neg (show ¬ (1 : Int32) = 3 by decide), if_pos (show (1 : Int32) ≤ 1 by decide), h1, h2, k3, bd_some]
        exact ⟨_, _, _, _, rfl, rfl, h.keep hK⟩
      · obtain ⟨c, d3, m3, t3, l3, c1, e5, e6, hD3, hF3, hG3⟩ := anew_sim (fu := fu) hB hfu
        obtain ⟨m4, k3, hK, -⟩ := back (fu := fu) (hS1.fw (hW.tr hG3.fw)) (by omega)
        simp only [show nI 2 = 2 from rfl, reduceIte, if_neg (show ¬ (2 : Int32) = 0 by decide), if_neg (show ¬ (2 : Int32) = 1 by decide), if_neg (show ¬ (2 : Int32) = 3 by decide), if_neg (show ¬ (2 : Int32) ≤ 1 by decide), e5, e6, k3, bd_some, bd2_some]
        exact ⟨_, _, _, _, rfl, rfl, h.keep hK⟩
      · obtain ⟨c, d3, m3, t3, l3, c1, e5, e6, hD3, hF3, hG3⟩ := anew_sim (fu := fu) hB hfu
        have hB3 := FD.bq hB hF3 hG3
        obtain ⟨x, d4, m4, e7, e8, hB4, hW4⟩ := oneKind_sim (fu := fu) (x4 := nI c) (P := fun (u v : Option (Int32 × Mem)) => ∃ x d' m', u = some (nI c - x, d') ∧ v = some (x, m') ∧ BQ nn d' m' ∧ FW m3 m') hB3 hfu (fun b d' m' h1 h2 => ⟨b, d', m', rfl, rfl, h1, h2⟩)
        obtain ⟨m5, k3, hK, -⟩ := back (fu := fu) (hS1.fw ((hW.tr hG3.fw).tr hW4)) (by omega)
        have e9 : pX5_lostByKinds fu d2 = some (nI c - x, d4) := by
          unfold pX5_lostByKinds
          rw [e5, bd2_some]
          exact e7
        simp only [show nI 3 = 3 from rfl, reduceIte, if_neg (show ¬ (3 : Int32) = 0 by decide), if_neg (show ¬ (3 : Int32) = 1 by decide), if_neg (show ¬ (3 : Int32) = 2 by decide), if_neg (show ¬ (3 : Int32) ≤ 1 by decide), e9, e6, e8, k3, bd_some, bd2_some, lt_eq]
        exact ⟨_, _, _, _, rfl, rfl, h.keep hK⟩
    · simp only [if_neg a, if_neg b, if_pos ((i_nle p 3).mp b), jn1_eq, bd_some, e1, e3, bd2_some, reduceIte]
      exact ⟨_, _, _, _, rfl, rfl, hr⟩
theorem mark_sim {fu n : Nat} {d m0 m : Mem} (h : BQ n d m) (hS : SVD m0 m) (hfu : 200 < fu) (pc pm : Int32) (hp : (pc = 0 ∧ ¬ pm = 0) ∨ (¬ pc = 0 ∧ pm = 0)) :
    ∃ r d' m', pX5_bestMark fu d pc = some (r, d') ∧ zl4 (fun g11 (x6 : Int32) (x7 : Int32) (x8 : Int32) (y9 : Mem) =>
      if (y9 2 0) < x8 then
        bd (pX7_passesAll fu y9 1 0) fun y14 =>
        if pm = 0 then
          some (x6, y14)
        else
          some (x7, y14)
      else
        lt' (up2 y9 2 6 x8) fun y17 =>
        bd2 (pX7_costAnew fu y17) fun r18 y19 =>
        if r18 < x7 then
          lt' (x8 + 1) fun x22 =>
          g11 x8 r18 x22 y19
        else
          lt' (x8 + 1) fun x23 =>
          g11 x6 x7 x23 y19) fu 0 1000000000 0 m = some (r, m') ∧ KEEP m0 m' := by
  obtain ⟨H, H2, H11, eH⟩ := h.2.2.2.2.1.1
  unfold pX5_bestMark
  refine csim44 (H + 1) (fun i (a b c : Int32) (y : Mem) (p r s : Int32) (z : Mem) => ∃ x, x ≤ 11 ∧ a = nI x ∧ p = nI x ∧ MNi i b r ∧ c = nI i ∧ s = nI i ∧ BQ n y z ∧ SVD m0 z ∧ y 1 0 = nI H) (fun (x y : Option (Int32 × Mem)) => ∃ r d' m', x = some (r, d') ∧ y = some (r, m') ∧ KEEP m0 m') ?_ fu 0 _ _ _ _ _ _ _ _ ⟨0, by omega, rfl, rfl, Or.inl ⟨rfl, rfl, rfl⟩, rfl, rfl, h, hS, eH⟩ (by omega) (by omega)
  rintro i g hh a b c y p r s z i7 ⟨x, x6, rfl, rfl, hM, rfl, rfl, hB, hS, hH⟩ hc
  have hz : z 2 0 = nI H := by rw [← hB.2.2.2.1 0 (by omega)]; exact hH
  by_cases w : i < H + 1
  · rw [hH, hz, if_neg (nI_nlt (by omega) (by omega)), if_neg (nI_nlt (by omega) (by omega))]
    have hB1 := hB.set (k := 6) (v := i) (hB.2.2.2.2.1.up (show 0 ≤ i by omega) (show i ≤ 11 by omega))
    obtain ⟨cst, d2, m2, t2, l2, c2, e1, e2, hD, hF, hG⟩ := anew_sim (fu := fu) hB1 hfu
    have hB2 := FD.bq hB1 hF hG
    have hS2 := hS.fw ((FW.up (o := 2) (k := 6) (v := nI i) (by omega) (by omega)).tr hG.fw)
    have hH2 : d2 1 0 = nI H := by rw [hF.1, up2_col (by omega)]; exact hH
    simp only [lt_eq, e1, e2, bd2_some, nI_1]
    by_cases z1 : b ≤ nI cst
    · rw [if_pos z1, if_neg ((hM.st c2).mp z1)]
      exact hc _ _ _ _ _ _ _ _ w ⟨x, x6, rfl, rfl, hM.nx c2 z1, rfl, rfl, hB2, hS2, hH2⟩
    · rw [if_neg z1, if_pos (Decidable.not_not.mp (fun e => z1 ((hM.st c2).mpr e)))]
      exact hc _ _ _ _ _ _ _ _ w ⟨i, by omega, rfl, rfl, Or.inr ⟨by omega, cst, c2, rfl, rfl⟩, rfl, rfl, hB2, hS2, hH2⟩
  · have e : i = H + 1 := by omega
    subst e
    obtain ⟨m3, e5, hK, -⟩ := back (fu := fu) hS (by omega)
    rw [hH, hz, if_pos (nI_lt (by omega) (by omega)), if_pos (nI_lt (by omega) (by omega)), e5, bd_some]
    rcases hM with ⟨q, -⟩ | ⟨-, c, c1, rfl, rfl⟩
    · omega
    · rcases hp with ⟨p1, p2⟩ | ⟨p1, p2⟩
      · rw [if_pos p1, if_neg p2]
        exact ⟨_, _, _, rfl, rfl, hK⟩
      · rw [if_neg p1, if_pos p2]
        exact ⟨_, _, _, rfl, rfl, hK⟩
theorem marks_R {fu : Nat} {f n k le m : Mem} (h : RR f n k le m) (hfu : 200 < fu) (md : Mem) (p : Int32) : ∃ r f' md' m', pX6_marks fu f n md p = some (r, f', md') ∧ pX7_marks fu m p = some (r, m') ∧ RR f' n k le m' := by
  obtain ⟨f', m', e1, e2, hr⟩ := ref2 (fu := fu) h
  have hh := h
  obtain ⟨hF, ⟨nn, t, l, hD⟩, -⟩ := hh
  obtain ⟨y, m1, t1, t2, hD1, hS1⟩ := take_save (fu := fu) (z := md) hD (by omega)
  by_cases q0 : p = 0
  · subst q0
    obtain ⟨r, d', m3, g1, g2, hK⟩ := mark_sim (fu := fu) hD1.bq hS1 hfu 1 0 (Or.inr ⟨by decide, rfl⟩)
    have E2 : pX7_marks fu m 0 = some (r, m3) := by
      unfold pX7_marks
      rw [(isIn_01 fu).1, bd_some, if_neg i10, t2, bd_some]
      exact g2
    refine ⟨r, f, d', m3, ?_, E2, h.keep hK⟩
    · unfold pX6_marks
      simp only [jn1_eq, reduceIte, t1, bd_some, g1, bd2_some]
  · by_cases q1 : p = 1
    · subst q1
      obtain ⟨r, d', m3, g1, g2, hK⟩ := mark_sim (fu := fu) hD1.bq hS1 hfu 0 1 (Or.inl ⟨rfl, by decide⟩)
      have E2 : pX7_marks fu m 1 = some (r, m3) := by
        unfold pX7_marks
        rw [(isIn_01 fu).2, bd_some, if_neg i10, t2, bd_some]
        exact g2
      refine ⟨r, f, d', m3, ?_, E2, h.keep hK⟩
      · unfold pX6_marks
        simp only [jn1_eq, if_neg (show ¬ (1 : Int32) = 0 by decide), reduceIte, t1, bd_some, g1, bd2_some]
    · unfold pX6_marks pX7_marks
      simp only [isIn_no1 (fu := fu) q0 q1, jn1_eq, if_neg q0, if_neg q1, bd_some, reduceIte, e1, e2, bd2_some]
      exact ⟨_, _, _, _, rfl, rfl, hr⟩
theorem second_R {fu : Nat} {f n k le m : Mem} (h : RR f n k le m) (hfu : 200 < fu) (md : Mem) : ∃ r md' m', pX6_second fu n md = some (r, md') ∧ pX7_second fu m = some (r, m') ∧ RR f n k le m' := by
  have hh := h
  obtain ⟨hF, ⟨nn, t, l, hD⟩, -⟩ := hh
  obtain ⟨y, m1, t1, t2, hD1, hS1⟩ := take_save (fu := fu) (z := md) hD (by omega)
  have hB := hD1.bq
  have hB1 := hB.set (k := 7) (v := 1) (hB.2.2.2.2.1.up (show 1 ≤ 1 by omega) (show 1 ≤ 2 by omega))
  obtain ⟨c1, d2, m2, t2', l2, -, e1, e2, hD2, hF2, hG2⟩ := anew_sim (fu := fu) hB1 hfu
  have hB2 := FD.bq hB1 hF2 hG2
  have hB3 := hB2.set (k := 7) (v := 2) (hB2.2.2.2.2.1.up (show 1 ≤ 2 by omega) (show 2 ≤ 2 by omega))
  obtain ⟨c3, d4, m4, t4', l4, -, e3, e4, hD4, hF4, hG4⟩ := anew_sim (fu := fu) hB3 hfu
  obtain ⟨m5, k3, hK, -⟩ := back (fu := fu) (hS1.fw (((FW.up (o := 2) (k := 7) (v := nI 1) (by omega) (by omega)).tr hG2.fw).tr ((FW.up (o := 2) (k := 7) (v := nI 2) (by omega) (by omega)).tr hG4.fw))) (by omega)
  have e1 : pX5_costAnew fu (up2 y 1 7 1) = some (nI c1, d2) := e1
  have e2 : pX7_costAnew fu (up2 m1 2 7 1) = some (nI c1, m2) := e2
  have e3 : pX5_costAnew fu (up2 d2 1 7 2) = some (nI c3, d4) := e3
  have e4 : pX7_costAnew fu (up2 m2 2 7 2) = some (nI c3, m4) := e4
  unfold pX6_second pX7_second pX5_savedBySecond
  simp only [t1, t2, bd_some, lt_eq, e1, e2, bd2_some, e3, e4, k3]
  exact ⟨_, _, _, rfl, rfl, h.keep hK⟩
