/-! PURE 22: whom to follow, the row looked at, days by seeds -/
def BQ0 (n i : Nat) (d m : Mem) : Prop := n ≤ 8 ∧ d 0 4 = nI n ∧ m 0 15 = nI n ∧ (∀ k, k < 8 → d 1 k = m 2 k) ∧ SRg (d 1) ∧ ∀ j, j < n → CS (d (5 + j)) ∧ d (5 + j) 2 = m 5 j ∧ d (5 + j) 3 = m 6 j ∧ d (5 + j) 4 = m 7 j ∧ (j < i → d (5 + j) 0 = m 3 j ∧ d (5 + j) 1 = m 4 j)
theorem BQ.b0 {n : Nat} {d m : Mem} (h : BQ n d m) : BQ0 n 0 d m :=
  ⟨h.1, h.2.1, h.2.2.1, h.2.2.2.1, h.2.2.2.2.1, fun j hj => ⟨(h.2.2.2.2.2 j hj).1, (h.2.2.2.2.2 j hj).2.2.2.1, (h.2.2.2.2.2 j hj).2.2.2.2.1, (h.2.2.2.2.2 j hj).2.2.2.2.2, fun q => absurd q (by omega)⟩⟩
theorem BQ0.bq {n : Nat} {d m : Mem} (h : BQ0 n n d m) : BQ n d m :=
  ⟨h.1, h.2.1, h.2.2.1, h.2.2.2.1, h.2.2.2.2.1, fun j hj => ⟨(h.2.2.2.2.2 j hj).1, ((h.2.2.2.2.2 j hj).2.2.2.2 hj).1, ((h.2.2.2.2.2 j hj).2.2.2.2 hj).2, (h.2.2.2.2.2 j hj).2.1, (h.2.2.2.2.2 j hj).2.2.1, (h.2.2.2.2.2 j hj).2.2.2.1⟩⟩
theorem BQ0.cgm {n : Nat} {d m m' : Mem} (h : BQ0 n 0 d m) (e : EQM m m') : BQ0 n 0 d m' := by
  obtain ⟨n8, h1, h2, h3, h4, h5⟩ := h
  refine ⟨n8, h1, e.1.trans h2, fun k hk => by rw [e.2.2.1 2 k (by omega) (by omega) hk]; exact h3 k hk, h4, fun j hj => ?_⟩
  rw [e.2.2.1 5 j (by omega) (by omega) (by omega), e.2.2.1 6 j (by omega) (by omega) (by omega), e.2.2.1 7 j (by omega) (by omega) (by omega)]
  exact ⟨(h5 j hj).1, (h5 j hj).2.1, (h5 j hj).2.2.1, (h5 j hj).2.2.2.1, fun q => absurd q (by omega)⟩
theorem BQ0.fd {n : Nat} {d d' m : Mem} (h : BQ0 n 0 d m) (e : FD d d') : BQ0 n 0 d' m := by
  obtain ⟨n8, h1, h2, h3, h4, h5⟩ := h
  refine ⟨n8, e.2.1.trans h1, h2, by rw [e.1]; exact h3, by rw [e.1]; exact h4, fun j hj => ?_⟩
  unfold CS
  rw [e.2.2 j 0 (by omega), e.2.2 j 1 (by omega), e.2.2 j 2 (by omega), e.2.2 j 3 (by omega), e.2.2 j 4 (by omega)]
  exact ⟨(h5 j hj).1, (h5 j hj).2.1, (h5 j hj).2.2.1, (h5 j hj).2.2.2.1, fun q => absurd q (by omega)⟩
theorem become_eq {fu : Nat} {r : Rw} {a b : Int32} : pX1_become fu r a b = some (upd (upd r 0 a) 1 b) := rfl
theorem BQ0.next {n i : Nat} {d m : Mem} {a b : Int32} (h : BQ0 n i d m) (hi : i < n) (ha : rng a 0 6) (hb : rng b 0 9) : BQ0 n (i + 1) (va_up d (5 + i) (upd (upd (d (5 + i)) 0 a) 1 b)) (up2 (up2 m 3 i a) 4 i b) := by
  obtain ⟨n8, h1, h2, h3, h4, h5⟩ := h
  have r1 : va_up d (5 + i) (upd (upd (d (5 + i)) 0 a) 1 b) 1 = d 1 := by rw [vu_rw, if_neg (by omega)]
  refine ⟨n8, by rw [vu_rw, if_neg (by omega)]; exact h1, by rw [up2_row (by omega), up2_row (by omega)]; exact h2, fun k hk => by rw [r1, up2_row (by omega), up2_row (by omega)]; exact h3 k hk, by rw [r1]; exact h4, fun j hj => ?_⟩
  rw [up2_row (o' := 5) (by omega), up2_row (o' := 5) (by omega), up2_row (o' := 6) (by omega), up2_row (o' := 6) (by omega), up2_row (o' := 7) (by omega), up2_row (o' := 7) (by omega), up2_row (o := 4) (o' := 3) (by omega)]
  obtain ⟨⟨c0, c1, c2, c3, c4⟩, g2, g3, g4, g5⟩ := h5 j hj
  by_cases e : j = i
  · subst e
    rw [vu_rw, if_pos rfl, up2_same, up2_same]
    unfold CS
    rw [pk_us, pk_un (k := 1) (j := 0) (by omega), pk_us, pk_un (k := 1) (j := 2) (by omega), pk_un (k := 0) (j := 2) (by omega), pk_un (k := 1) (j := 3) (by omega), pk_un (k := 0) (j := 3) (by omega), pk_un (k := 1) (j := 4) (by omega), pk_un (k := 0) (j := 4) (by omega)]
    exact ⟨⟨ha, hb, c2, c3, c4⟩, g2, g3, g4, fun _ => ⟨rfl, rfl⟩⟩
  · rw [vu_rw, if_neg (by omega), up2_col (k' := j) (by omega), up2_col (k' := j) (by omega), up2_row (o := 3) (o' := 4) (by omega)]
    exact ⟨⟨c0, c1, c2, c3, c4⟩, g2, g3, g4, fun q => g5 (by omega)⟩
theorem BQ0.cls {n i : Nat} {d m : Mem} {a b : Int32} (h : BQ0 n 0 d m) (ha : rng a 0 6) (hb : rng b 0 9) : BQ0 n 0 (va_up d (5 + i) (upd (upd (d (5 + i)) 0 a) 1 b)) m := by
  obtain ⟨n8, h1, h2, h3, h4, h5⟩ := h
  have r1 : va_up d (5 + i) (upd (upd (d (5 + i)) 0 a) 1 b) 1 = d 1 := by rw [vu_rw, if_neg (by omega)]
  refine ⟨n8, by rw [vu_rw, if_neg (by omega)]; exact h1, h2, by rw [r1]; exact h3, by rw [r1]; exact h4, fun j hj => ?_⟩
  obtain ⟨⟨c0, c1, c2, c3, c4⟩, g2, g3, g4, g5⟩ := h5 j hj
  by_cases e : j = i
  · subst e
    rw [vu_rw, if_pos rfl]
    unfold CS
    rw [pk_us, pk_un (k := 1) (j := 0) (by omega), pk_us, pk_un (k := 1) (j := 2) (by omega), pk_un (k := 0) (j := 2) (by omega), pk_un (k := 1) (j := 3) (by omega), pk_un (k := 0) (j := 3) (by omega), pk_un (k := 1) (j := 4) (by omega), pk_un (k := 0) (j := 4) (by omega)]
    exact ⟨⟨ha, hb, c2, c3, c4⟩, g2, g3, g4, fun q => absurd q (by omega)⟩
  · rw [vu_rw, if_neg (by omega)]
    exact ⟨⟨c0, c1, c2, c3, c4⟩, g2, g3, g4, fun q => absurd q (by omega)⟩
theorem follow_R {fu : Nat} {f n k le m : Mem} (h : RR f n k le m) (hfu : 200 < fu) (md : Mem) : ∃ r md' m', pX6_follow fu n md = some (r, md') ∧ pX7_follow fu m = some (r, m') ∧ RR f n k le m' := by
  have hh := h
  obtain ⟨hF, ⟨nn, t, l, hD⟩, -⟩ := hh
  obtain ⟨y0, m1, t1, t2, hD1, hS1⟩ := take_save (fu := fu) (z := md) hD (by omega)
  have n8 := hD.1.1
  have hB0 := hD.bq
  suffices key : ∃ r d' m', pX5_comerToFollow fu y0 n = some (r, d') ∧ pX7_follow fu m = some (r, m') ∧ KEEP m m' by
    obtain ⟨r, d', m', g1, g2, hK⟩ := key
    refine ⟨r, d', m', ?_, g2, h.keep hK⟩
    unfold pX6_follow
    rw [t1, bd_some, g1, bd2_some]
  unfold pX5_comerToFollow pX7_follow
  rw [t2, bd_some]
  have hI : BQ0 nn 0 y0 m := by
    have q := hD1.bq.b0
    obtain ⟨q1, q2, q3, q4, q5, q6⟩ := q
    obtain ⟨p1, p2, p3, p4, p5, p6, p7, p8, p9, p10, p11⟩ := hS1
    obtain ⟨y1, g0, g1⟩ : ∃ y, pX5_take fu md n = some y ∧ DAYR nn t y m l := by
      obtain ⟨y, g0, g1⟩ := copy_day (fu := fu) (z := md) hD (by omega)
      exact ⟨y, by unfold pX5_take; rw [g0, bd_some], g1⟩
    rw [t1] at g0
    injection g0 with g0
    subst g0
    exact g1.bq.b0
  refine csim44 nn (fun i (a b c : Int32) (y : Mem) (p r s : Int32) (z : Mem) => p = a ∧ MNi i b r ∧ c = nI i ∧ s = nI i ∧ BQ0 nn 0 y m ∧ SVD m z ∧ z 0 15 = nI nn) (fun (x y : Option (Int32 × Mem)) => ∃ r d' m', x = some (r, d') ∧ y = some (r, m') ∧ KEEP m m') ?_ fu 0 _ _ _ _ _ _ _ _ ⟨rfl, Or.inl ⟨rfl, rfl, rfl⟩, rfl, rfl, hI, hS1, hD1.1.2.2.1⟩ (by omega) (by omega)
  rintro i g hh a b c y p r s z i7 ⟨rfl, hM, rfl, rfl, hB, hS, hz⟩ hc
  obtain ⟨m3, e5, hK, hS3⟩ := back (fu := fu) hS (by omega)
  rw [hB0.2.1, hz]
  by_cases w : i < nn
  · have i8 : i < 8 := by omega
    obtain ⟨⟨kr, fr, -⟩, k0, k1, -⟩ := hB0.2.2.2.2.2 i w
    have x16 : m3 3 i = n (5 + i) 0 := by rw [hK.1.2.2.1 3 i (by omega) (by omega) i8, k0]
    have x18 : m3 4 i = n (5 + i) 1 := by rw [hK.1.2.2.1 4 i (by omega) (by omega) i8, k1]
    simp only [if_neg (nI_ge w (show nn < 2 ^ 31 by omega)), e5, bd_some, ck_ok i8 (show 8 < 2 ^ 31 by decide), nI_cl (show i < 2 ^ 31 by omega), x16, x18, lt_eq]
    refine csim22 nn (fun j (u : Int32) (y : Mem) (v : Int32) (z : Mem) => u = nI j ∧ v = nI j ∧ BQ0 nn j y z ∧ BQ0 nn 0 y m ∧ FW m3 z) (fun (x y : Option (Int32 × Mem)) => ∃ r d' m', x = some (r, d') ∧ y = some (r, m') ∧ KEEP m m') ?_ fu 0 _ _ _ _ ⟨rfl, rfl, hB.cgm hK.1, hB, FW.rf⟩ (by omega) (by omega)
    rintro j g2 h2 u y v z j1 ⟨rfl, rfl, hB1, hB2, hW⟩ hc2
    rw [hB1.2.1, hB1.2.2.1]
    by_cases q : j < nn
    · simp only [if_neg (nI_ge q (show nn < 2 ^ 31 by omega)), ck_ok (show j < 8 by omega) (show 8 < 2 ^ 31 by decide), nI_cl (show j < 2 ^ 31 by omega), nI_1, become_eq, bd_some]
      exact hc2 _ _ _ _ q ⟨rfl, rfl, hB1.next q kr fr, hB2.cls kr fr, (hW.tr (FW.up (o := 3) (k := j) (v := n (5 + i) 0) (by omega) (by omega))).tr (FW.up (o := 4) (k := j) (v := n (5 + i) 1) (by omega) (by omega))⟩
    · have e : j = nn := by omega
      subst e
      obtain ⟨cst, d2, m2, t2', l2, c2, e1, e2, hD2, hF2, hG2⟩ := anew_sim (fu := fu) hB1.bq hfu
      simp only [if_pos (nI_le (Nat.le_refl _) (show j < 2 ^ 31 by omega)), e1, e2, bd2_some, nI_1]
      have hS4 := hS3.fw (hW.tr hG2.fw)
      have hz4 : m2 0 15 = nI j := by rw [hG2.2.2 15 (by omega) (by omega) (by omega)]; exact hB1.2.2.1
      by_cases z1 : b ≤ nI cst
      · rw [if_pos z1, if_neg ((hM.st c2).mp z1)]
        exact hc _ _ _ _ _ _ _ _ w ⟨rfl, hM.nx c2 z1, rfl, rfl, hB2.fd hF2, hS4, hz4⟩
      · rw [if_neg z1, if_pos (Decidable.not_not.mp (fun e => z1 ((hM.st c2).mpr e)))]
        exact hc _ _ _ _ _ _ _ _ w ⟨rfl, Or.inr ⟨by omega, cst, c2, rfl, rfl⟩, rfl, rfl, hB2.fd hF2, hS4, hz4⟩
  · have e : i = nn := by omega
    subst e
    rw [if_pos (nI_le (Nat.le_refl _) (by omega)), if_pos (nI_le (Nat.le_refl _) (by omega)), e5, bd_some]
    exact ⟨_, _, _, rfl, rfl, hK⟩
theorem draw_rng (x : Int32) : rng ((x &&& 2147483647) / 65536 - (x &&& 2147483647) / 65536 / 120 * 120) 0 119 := by
  obtain ⟨q, q1, q2⟩ := pk_andE x (m := 2147483647) 31 (by decide)
  rw [q2, show (65536 : Int32) = nI 65536 from rfl, pk_div (by omega) (by omega) (by omega), show (120 : Int32) = nI 120 from rfl, pk_rem (by omega) (by omega) (by omega)]
  exact ⟨q / 65536 % 120, by omega, by omega, rfl⟩
theorem BQ.min {n j : Nat} {d m : Mem} {v : Int32} (h : BQ n d m) (hv : rng v 0 119) : BQ n (up2 d (5 + j) 2 v) (up2 m 5 j v) := by
  obtain ⟨n8, h1, h2, h3, h4, h5⟩ := h
  have r1 : up2 d (5 + j) 2 v 1 = d 1 := by rw [up2_rw, if_neg (by omega)]
  refine ⟨n8, by rw [up2_row (by omega)]; exact h1, by rw [up2_row (by omega)]; exact h2, by rw [r1, up2_rw, if_neg (by omega)]; exact h3, by rw [r1]; exact h4, fun i hi => ?_⟩
  obtain ⟨⟨c0, c1, c2, c3, c4⟩, g0, g1, g2, g3, g4⟩ := h5 i hi
  unfold CS
  rw [up2_row (m := m) (o' := 3) (by omega), up2_row (m := m) (o' := 4) (by omega), up2_row (m := m) (o' := 6) (by omega), up2_row (m := m) (o' := 7) (by omega)]
  by_cases e : i = j
  · subst e
    rw [up2_same, up2_same, up2_col (by omega), up2_col (by omega), up2_col (by omega), up2_col (by omega)]
    exact ⟨⟨c0, c1, hv, c3, c4⟩, g0, g1, rfl, g3, g4⟩
  · rw [up2_row (by omega), up2_row (by omega), up2_row (by omega), up2_row (by omega), up2_row (by omega), up2_col e]
    exact ⟨⟨c0, c1, c2, c3, c4⟩, g0, g1, g2, g3, g4⟩
theorem seeds_sim {fu n N : Nat} {d m0 m sm : Mem} (h : BQ n d m) (hS : SVD m0 m) (hN : N ≤ 20) (hfu : 200 < fu) (sd pc pm : Int32) (hp : (pc = 0 ∧ ¬ pm = 0) ∨ (¬ pc = 0 ∧ pm = 0)) :
    ∃ r a d' m', pX5_drawnDays fu sm d (nI N) sd pc = some (r, a, d') ∧ zl5 (fun g14 (x8 : Int32) (x9 : Int32) (x10 : Int32) (x11 : Int32) (y12 : Mem) =>
        if (nI N) ≤ x11 then
          bd (pX7_passesAll fu y12 1 0) fun y17 =>
          if pm = 0 then
            some (x9, y17)
          else
            some (x10, y17)
        else
          zl3 (fun g24 (x20 : Int32) (x21 : Int32) (y22 : Mem) =>
            if (y22 0 15) ≤ x21 then
              bd2 (pX7_costAnew fu y22) fun r27 y28 =>
              lt' ((x9 + r27) : Int32) fun x30 =>
              bd (pX7_stateMany fu y28 3) fun r31 =>
              lt' ((x10 + r31) : Int32) fun x33 =>
              lt' (x11 + 1) fun x34 =>
              g14 x20 x30 x33 x34 y28
            else
              lt' (((x20 * 1103515245) + 12345) : Int32) fun x35 =>
              ck x21 8 <|
              lt' (up2 y22 5 x21.toNatClampNeg (((x35 &&& 2147483647) / 65536) - ((x35 &&& 2147483647) / 65536) / 120 * 120)) fun y36 =>
              lt' (x21 + 1) fun x38 =>
              g24 x35 x38 y36) fu x8 0 y12) fu sd 0 0 0 m = some (r, m') ∧ KEEP m0 m' := by
  have n8 := h.1
  unfold pX5_drawnDays
  rw [lt_eq]
  refine csim55 N (fun i (a b c : Int32) (u y : Mem) (p q r s : Int32) (z : Mem) => p = u 0 1 ∧ q = a ∧ r = b ∧ c = nI i ∧ s = nI i ∧ BQ n y z ∧ SVD m0 z) (fun (x : Option (Int32 × Mem × Mem)) (y : Option (Int32 × Mem)) => ∃ r a d' m', x = some (r, a, d') ∧ y = some (r, m') ∧ KEEP m0 m') ?_ fu 0 _ _ _ _ _ _ _ _ _ _ ⟨by rw [up2_same], rfl, rfl, rfl, rfl, h, hS⟩ (by omega) (by omega)
  rintro i g hh a b c u y p q r s z i1 ⟨rfl, rfl, rfl, rfl, rfl, hB, hS⟩ hc
  by_cases w : i < N
  · rw [if_neg (nI_ge w (by omega)), if_neg (nI_ge w (by omega))]
    refine csim33 n (fun j (x : Int32) (v y : Mem) (p x' : Int32) (z : Mem) => x = nI j ∧ x' = nI j ∧ p = v 0 1 ∧ BQ n y z ∧ SVD m0 z) (fun (x : Option (Int32 × Mem × Mem)) (y : Option (Int32 × Mem)) => ∃ r a d' m', x = some (r, a, d') ∧ y = some (r, m') ∧ KEEP m0 m') ?_ fu 0 _ _ _ _ _ _ ⟨rfl, rfl, rfl, hB, hS⟩ (by omega) (by omega)
    rintro j g2 h2 x v y p x' z j1 ⟨rfl, rfl, rfl, hB, hS⟩ hc2
    rw [hB.2.1, hB.2.2.1]
    by_cases e : j < n
    · have dr : pX5_draw fu v 120 = some (((v 0 1 * 1103515245 + 12345) &&& 2147483647) / 65536 - ((v 0 1 * 1103515245 + 12345) &&& 2147483647) / 65536 / 120 * 120, up2 v 0 1 (v 0 1 * 1103515245 + 12345)) := by
        unfold pX5_draw
        simp only [lt_eq, up2_same]
        rw [if_neg (by decide), ckn_ok (by decide)]
      simp only [if_neg (nI_ge e (show n < 2 ^ 31 by omega)), ck_ok (show j < 8 by omega) (show 8 < 2 ^ 31 by decide), nI_cl (show j < 2 ^ 31 by omega), nI_1, dr, bd2_some, lt_eq]
      exact hc2 _ _ _ _ _ _ e ⟨rfl, rfl, by rw [up2_same], hB.min (draw_rng _), hS.fw (FW.up (by omega) (by omega))⟩
    · have e : j = n := by omega
      subst e
      obtain ⟨cst, d2, m2, t2', l2, c2, e1, e2, hD2, hF2, hG2⟩ := anew_sim (fu := fu) hB hfu
      obtain ⟨s, -, s1, s2⟩ := state_eq (fu := fu) hD2.1 hD2.2.1 (by omega) 3
      simp only [if_pos (nI_le (Nat.le_refl _) (show j < 2 ^ 31 by omega)), e1, e2, bd2_some, s1, s2, bd_some, lt_eq, nI_1]
      exact hc _ _ _ _ _ _ _ _ _ _ w ⟨rfl, rfl, rfl, rfl, rfl, FD.bq hB hF2 hG2, hS.fw hG2.fw⟩
  · have e : i = N := by omega
    subst e
    obtain ⟨m3, e5, hK, -⟩ := back (fu := fu) hS (by omega)
    rw [if_pos (nI_le (Nat.le_refl _) (by omega)), if_pos (nI_le (Nat.le_refl _) (by omega)), e5, bd_some]
    rcases hp with ⟨p1, p2⟩ | ⟨p1, p2⟩
    · rw [if_pos p1, if_neg p2]
      exact ⟨_, _, _, _, rfl, rfl, hK⟩
    · rw [if_neg p1, if_pos p2]
      exact ⟨_, _, _, _, rfl, rfl, hK⟩
theorem seeds_R {fu : Nat} {f n k le m : Mem} (h : RR f n k le m) (hfu : 200 < fu) (mi md : Mem) (p q s : Int32) : ∃ r f' mi' md' m', pX6_seeds fu f n mi md p q s = some (r, f', mi', md') ∧ pX7_seeds fu m p q s = some (r, m') ∧ RR f' n k le m' := by
  obtain ⟨f2, m2, a1, a2, hr2⟩ := ref2 (fu := fu) h
  obtain ⟨f4, m4, b1, b2, hr4⟩ := ref4 (fu := fu) h
  obtain ⟨f6, m6, c1, c2, hr6⟩ := ref6 (fu := fu) h
  have hh := h
  obtain ⟨hF, ⟨nn, t, l, hD⟩, -⟩ := hh
  obtain ⟨y, m1, t1, t2, hD1, hS1⟩ := take_save (fu := fu) (z := md) hD (by omega)
  unfold pX6_seeds pX7_seeds pX7_bound
  by_cases p1 : 1 ≤ p
  · by_cases p20 : p ≤ 20
    · obtain ⟨N, N1, rfl⟩ := nI_of2 (x := p) (M := 20) (n := 20) rfl (fun z => absurd (i_lt p 0 |>.mp z) (by have := (i_le 1 p).mp p1; rw [show (1 : Int32).toInt = 1 from rfl] at this; rw [show (0 : Int32).toInt = 0 from rfl]; omega)) p20
      by_cases s0 : s = 0
      · subst s0
        obtain ⟨r, a, d', m3, g1, g2, hK⟩ := seeds_sim (fu := fu) (sm := mi) hD1.bq hS1 N1 hfu q 1 0 (Or.inr ⟨by decide, rfl⟩)
        rw [if_pos p1, if_pos p20, if_pos p1, if_pos p20]
        simp only [jn1_eq, bd_some, (isIn_01 fu).1, if_neg i10, reduceIte, t1, t2, g1, bd3_some] at g2 ⊢
        exact ⟨_, _, _, _, _, rfl, g2, h.keep hK⟩
      · by_cases s1 : s = 1
        · subst s1
          obtain ⟨r, a, d', m3, g1, g2, hK⟩ := seeds_sim (fu := fu) (sm := mi) hD1.bq hS1 N1 hfu q 0 1 (Or.inl ⟨rfl, by decide⟩)
          rw [if_pos p1, if_pos p20, if_pos p1, if_pos p20]
          simp only [jn1_eq, bd_some, (isIn_01 fu).2, if_neg i10, if_neg s0, reduceIte, t1, t2, g1, bd3_some] at g2 ⊢
          exact ⟨_, _, _, _, _, rfl, g2, h.keep hK⟩
        · rw [if_pos p1, if_pos p20, if_pos p1, if_pos p20]
          simp only [jn1_eq, bd_some, isIn_no1 (fu := fu) s0 s1, if_neg s0, if_neg s1, reduceIte, if_neg (show ¬ (-2 : Int32) = 0 by decide), a1, a2, bd2_some]
          exact ⟨_, _, _, _, _, rfl, rfl, hr2⟩
    · rw [if_pos p1, if_neg p20, if_pos p1, if_neg p20, bd_some]
      simp only [jn1_eq, if_neg (show ¬ (-6 : Int32) = 0 by decide), c1, c2, bd2_some]
      exact ⟨_, _, _, _, _, rfl, rfl, hr6⟩
  · rw [if_neg p1, if_neg p1, bd_some]
    simp only [jn1_eq, if_neg (show ¬ (-4 : Int32) = 0 by decide), b1, b2, bd2_some]
    exact ⟨_, _, _, _, _, rfl, rfl, hr4⟩
theorem pass1 {fu : Nat} {d d' : Mem} {b : Int32} (hfu : 2 ≤ fu) (hb : pX2_isOver fu d = some b) : (b = 0 → pX2_passMinute fu d = some d' → pX2_pass fu d 1 = some d') ∧ (¬ b = 0 → pX2_pass fu d 1 = some d) := by
  have st : ∀ (F : (Int32 → Mem → Option Mem) → Int32 → Mem → Option Mem) (x : Int32) (y : Mem), zl2 F fu x y = F (zl2 F (fu - 1)) x y := fun F x y => by
    obtain ⟨f, rfl⟩ : ∃ f, fu = f + 1 := ⟨fu - 1, by omega⟩
    rfl
  have st2 : ∀ (F : (Int32 → Mem → Option Mem) → Int32 → Mem → Option Mem) (x : Int32) (y : Mem), zl2 F (fu - 1) x y = F (zl2 F (fu - 2)) x y := fun F x y => by
    obtain ⟨f, rfl⟩ : ∃ f, fu = f + 2 := ⟨fu - 2, by omega⟩
    rfl
  unfold pX2_pass
  rw [st, if_neg (show ¬ (1 : Int32) ≤ 0 by decide), hb, bd_some]
  refine ⟨fun b0 e => ?_, fun b0 => ?_⟩
  · rw [if_pos b0, e, bd_some, lt_eq, st2, if_pos (show (1 : Int32) ≤ 0 + 1 by decide)]
  · rw [if_neg b0]
theorem RR.row0 {f n k le m : Mem} (h : RR f n k le m) : RR (up2 f 0 7 0) n k le (up2 m 0 32 0) := by
  obtain ⟨⟨⟨r, r1, r2, r3, r4⟩, f2, f8⟩, ⟨nn, t, l, hD⟩, hI, ⟨cc, c1, c2, c3, c4⟩⟩ := h
  have ro : ∀ (x : Mem) (b : Nat) (v : Int32) (o : Nat), o ≠ 0 → up2 x 0 b v o = x o := fun x b v o h => by rw [up2_rw, if_neg h]
  refine ⟨⟨⟨0, by omega, up2_same _ _ _ _, up2_same _ _ _ _, fun i hi => absurd hi (by omega)⟩, ?_, ?_⟩, ⟨nn, t, l, hD.cgm ⟨?_, ?_, ?_, ?_⟩ ?_ ?_⟩, ?_, ⟨cc, c1, c2, ?_, ?_⟩⟩
  · intro i hi hi2
    rw [up2_row (by omega), up2_row (by omega)]
    exact f2 i hi hi2
  · rw [up2_col (by omega), up2_col (by omega)]; exact f8
  · rw [up2_col (by omega)]
  · rw [up2_col (by omega)]
  · intro o i a b _
    rw [up2_row (by omega)]
  · intro o i a b _
    rw [up2_row (by omega)]
  · intro i _
    rw [up2_row (by omega)]
  · rw [up2_col (by omega)]
  · unfold RI KP
    rw [up2_col (k' := 27) (by omega), ro m 32 0 20 (by omega)]
    exact hI
  · rw [up2_col (by omega)]; exact c3
  · rw [ro m 32 0 16 (by omega)]; exact c4
theorem judge_R {fu : Nat} {f n k le m : Mem} (h : RR f n k le m) (hfu : 200 < fu) (md : Mem) : ∃ r f' md' m', pX6_judge fu f n md = some (r, f', md') ∧ pX7_judge fu m = some (r, m') ∧ RR f' n k le m' := by
  have h0 := h.row0
  obtain ⟨⟨⟨r, r1, r2, r3, r4⟩, -⟩, -⟩ := h
  have hh := h0
  obtain ⟨-, ⟨nn, t, l, hD⟩, -⟩ := hh
  have e22 : up2 m 0 32 0 22 = m 22 := by rw [up2_rw, if_neg (by omega)]
  generalize hm0 : up2 m 0 32 0 = m0 at h0 hD e22
  obtain ⟨y, m1, t1, t2, hD1, hS1⟩ := take_save (fu := fu) (z := md) hD (by omega)
  unfold pX6_judge pX7_judge
  simp only [t1, bd_some, lt_eq, hm0, t2, r2, r3, jn1_eq]
  generalize hR : pX5_firstOtherLevel fu y (f 1) (nI r) = R
  unfold pX5_firstOtherLevel at hR
  simp only [lt_eq] at hR
  suffices key : ∀ Z : Option (Int32 × Mem), (∃ x d' m', R = some (x, d') ∧ Z = some (x, m') ∧ KEEP m0 m') → ∃ r f' md' m', bd2 R (fun r3 y4 => some (r3, up2 f 0 7 0, y4)) = some (r, f', md') ∧ Z = some (r, m') ∧ RR f' n k le m' by
    refine key _ ?_
    refine csp3 13 (fun i (a b : Int32) (z : Mem) => (a = -9 ∧ b = nI i ∧ i ≤ r ∧ SVD m0 z ∧ z 22 = m 22 ∧ ∃ yy t' l', DAYR nn t' yy z l' ∧ zl2 (fun g4 (x1 : Int32) (y2 : Mem) =>
    if (nI r) ≤ x1 then
      some ((-9), y2)
    else
      if 12 ≤ x1 then
        some ((-9), y2)
      else
        bd (pX2_pass fu y2 1) fun y8 =>
        ck x1 12 <|
        if (y8 (3 + 0) 0) = (f 1 x1.toNatClampNeg) then
          g4 (x1 + 1) y8
        else
          some (x1, y8)) (fu - i) (nI i) yy = R) ∨ (0 ≤ a ∧ SVD m0 z ∧ ∃ d', R = some (a, d'))) (fun Z => ∃ x d' m', R = some (x, d') ∧ Z = some (x, m') ∧ KEEP m0 m') ?_ fu 0 _ _ _ (Or.inl ⟨rfl, rfl, by omega, hS1, ?_, y, t, l, hD1, hR⟩) (by omega) (by omega)
    · rintro i g a b z i13 (⟨rfl, rfl, ir, hS, hz, yy, t', l', hDD, hRR⟩ | ⟨a0, hS, d', hd'⟩) hc
      · have st : ∀ (F : (Int32 → Mem → Option (Int32 × Mem)) → Int32 → Mem → Option (Int32 × Mem)) (x : Int32) (y : Mem), zl2 F (fu - i) x y = F (zl2 F (fu - (i + 1))) x y := fun F x y => by
          obtain ⟨f, hf⟩ : ∃ f, fu = f + (i + 1) := ⟨fu - (i + 1), by omega⟩
          subst hf
          rw [show f + (i + 1) - i = f + 1 by omega, show f + (i + 1) - (i + 1) = f by omega]
          rfl
        rw [st] at hRR
        by_cases w : i < r
        · obtain ⟨bb, b1, b2, b3, b4⟩ := isOver_sim (fu := fu) hDD (by omega)
          simp only [if_neg (nI_ge w (show r < 2 ^ 31 by omega)), if_neg (show ¬ (12 : Int32) ≤ nI i from nI_ge (show i < 12 by omega) (by decide)), ck_ok (show i < 12 by omega) (show 12 < 2 ^ 31 by decide), nI_cl (show i < 2 ^ 31 by omega), nI_1, Nat.add_zero] at hRR ⊢
          rw [if_neg (show ¬ (0 : Int32) ≤ -9 by decide), b2, bd_some]
          have fin : ∀ yy' z' t2 l2, DAYR nn t2 yy' z' l2 → SVD m0 z' → z' 22 = m 22 → pX2_pass fu yy 1 = some yy' → ∃ x d' m', R = some (x, d') ∧ (if z' 11 0 = z' 22 i then g (-9) (nI (i + 1)) z' else g (nI i) (nI (i + 1)) z') = some (x, m') ∧ KEEP m0 m' := by
            intro yy' z' t2 l2 hD2 hS2 hz2 hps
            rw [hps, bd_some] at hRR
            have lv : yy' 3 0 = z' 11 0 := (hD2.1.kk (k := 0) (by omega)).1
            have rw4 : f 1 i = z' 22 i := by rw [hz2]; exact r4 i w
            rw [lv, rw4] at hRR
            by_cases q : z' 11 0 = z' 22 i
            · rw [if_pos q] at hRR ⊢
              exact hc _ _ _ (by omega) (Or.inl ⟨rfl, rfl, by omega, hS2, hz2, yy', t2, l2, hD2, hRR⟩)
            · rw [if_neg q] at hRR ⊢
              exact hc _ _ _ (by omega) (Or.inr ⟨nI_pos' (by omega), hS2, yy', hRR.symm⟩)
          by_cases b0 : bb = 0
          · obtain ⟨d', m', l2, e1, e2, h2, hS2⟩ := min_day (fu := fu) hDD (b4 b0) (by omega)
            rw [if_pos b0, e2, bd_some]
            exact fin d' m' _ _ h2 (hS.fw hS2.2.1.fw) (by rw [hS2.2.1.fw.2.1 22 (by omega)]; exact hz) ((pass1 (by omega) b1).1 b0 e1)
          · rw [if_neg b0]
            exact fin yy z _ _ hDD hS hz ((pass1 (d' := yy) (by omega) b1).2 b0)
        · have e : i = r := by omega
          subst e
          rw [if_pos (nI_le (Nat.le_refl _) (by omega))] at hRR ⊢
          obtain ⟨m3, e5, hK, -⟩ := back (fu := fu) hS (by omega)
          rw [e5, bd_some]
          exact ⟨_, _, _, hRR.symm, rfl, hK⟩
      · obtain ⟨m3, e5, hK, -⟩ := back (fu := fu) hS (by omega)
        have q : (bd (pX7_passesAll fu z 1 0) fun y12 => some (a, y12)) = some (a, m3) := by rw [e5, bd_some]
        rw [q, if_pos a0]
        refine ⟨a, d', m3, hd', ?_, hK⟩
        split <;> rfl
    · rw [← e22]
      exact hS1.2.2.2.2.2.2.1
  · rintro Z ⟨x, d', m', rfl, rfl, hK⟩
    exact ⟨_, _, _, _, rfl, rfl, h0.keep hK⟩
