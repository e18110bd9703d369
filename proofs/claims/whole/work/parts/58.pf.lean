/-! PURE 15: what a day costs; a day begun anew -/
theorem sumN_rng {f : Nat → Int32} {b : Nat} (hb : b ≤ 1000) : ∀ n, n ≤ 8 → (∀ j, j < n → rng (f j) 0 b) → ∃ s, s ≤ n * b ∧ sumN n f = nI s
  | 0, _, _ => ⟨0, by omega, rfl⟩
  | n + 1, h, hf => by
    obtain ⟨s, h1, h2⟩ := sumN_rng hb n (by omega) (fun j hj => hf j (by omega))
    obtain ⟨k, -, h3, h4⟩ := hf n (by omega)
    refine ⟨s + k, ?_, by rw [sumN, h2, h4, nI_add]⟩
    rw [Nat.succ_mul]
    omega
theorem wtd_rng {t : Nat} {r : Rw} (h : CRg t r) : rng (wtd r) 0 180 := by
  obtain ⟨-, -, -, -, ⟨p, -, p30, kp⟩, h5, -, h2⟩ := h
  unfold wtd
  by_cases a : r 5 = 2
  · obtain ⟨c, v, v1, e2, e6⟩ := h2 a
    rw [if_pos a, e2, e6, pk_sub (by omega)]
    exact ⟨v, by omega, v1, by rw [Nat.add_sub_cancel_left]⟩
  · rw [if_neg a]
    split
    · exact ⟨p, by omega, by omega, kp⟩
    · exact ⟨0, by omega, by omega, rfl⟩
theorem X2_cupsLeft_eq {fu : Nat} {d : Mem} (hu : kts (d 1)) (h4 : d 1 7 = 1 → d 4 0 = 0) (hfu : 3 ≤ fu) : pX2_cupsLeft fu d = some (d 3 0 + d 4 0) := by
  obtain ⟨f, rfl⟩ : ∃ f, fu = f + 3 := ⟨fu - 3, by omega⟩
  unfold pX2_cupsLeft
  simp only [zl2, pX2_kettlesInUse, bd_some, ck_0_2, ck_1_2, i01, i11, cl0, cl1, lt_eq, Nat.add_zero]
  rcases hu with h | h <;> simp only [h, le_k1, le_k2, le_k3, le_k4, le_k5, if_true, if_false, Int32.zero_add]
  rw [h4 h, Int32.add_zero]
theorem waited_eq {fu n t : Nat} {d m : Mem} (hQ : DQ n d m) (hO : DOK n t d) (hfu : 8 < fu) : ∃ s, s ≤ 1440 ∧ pX2_allWaited fu d = some (nI s) ∧ pX7_waitedAll fu m = some (nI s) := by
  have n8 := hQ.1
  obtain ⟨s, s1, s2⟩ := sumN_rng (b := 180) (f := fun j => wtd (d (5 + j))) (by omega) n n8 (fun j hj => wtd_rng (hO.2.2.2.1 j hj))
  refine ⟨s, by omega, ?_, ?_⟩
  · rw [X2_allWaited_eq hQ.2.1 n8 (by omega), s2]
  · rw [X7_waitedAll_eq hQ.2.2.1 n8 (by omega), ← s2]
    congr 1
    exact sumN_congr (fun j hj => (hQ.2.2.2.2.2.1 j hj).2.2.2.2.2.2)
theorem state_eq {fu n t : Nat} {d m : Mem} (hQ : DQ n d m) (hO : DOK n t d) (hfu : 8 < fu) (v : Int32) : ∃ s, s ≤ 8 ∧ pX2_comersWith fu d v = some (nI s) ∧ pX7_stateMany fu m v = some (nI s) := by
  have n8 := hQ.1
  obtain ⟨s, s1, s2, -⟩ := cntN (fun j => d (5 + j) 5 = v) n n8
  refine ⟨s, by omega, ?_, ?_⟩
  · rw [X2_comersWith_eq hQ.2.1 n8 (by omega), s2]
  · rw [X7_stateMany_eq hQ.2.2.1 n8 (by omega), ← s2]
    congr 1
    exact sumN_congr (fun j hj => by rw [(hQ.2.2.2.2.2.1 j hj).2.2.2.2.2.1])
theorem cups_eq {fu n t : Nat} {d m : Mem} (hQ : DQ n d m) (hO : DOK n t d) (hfu : 8 < fu) : ∃ s, s ≤ 22 ∧ pX2_cupsLeft fu d = some (nI s) ∧ m 11 0 + m 11 1 = nI s := by
  obtain ⟨a, -, a1, a2⟩ := (hO.kk (k := 0) (by omega)).1
  obtain ⟨b, -, b1, b2⟩ := (hO.kk (k := 1) (by omega)).1
  have a3 : d 3 0 = nI a := a2
  have b3 : d 4 0 = nI b := b2
  refine ⟨a + b, by omega, ?_, ?_⟩
  · rw [X2_cupsLeft_eq hO.2.2.1.2.2.2.2.2.2.2 (fun h => (hO.2.2.2.2.2.2 h).1) (by omega), a3, b3, nI_add]
  · rw [← (hQ.kk (k := 0) (by omega)).1, ← (hQ.kk (k := 1) (by omega)).1, a2, b2, nI_add]
theorem cost_eq {fu n t : Nat} {d m : Mem} (hQ : DQ n d m) (hO : DOK n t d) (hfu : 8 < fu) : ∃ s, s ≤ 20000 ∧ pX2_cost fu d = some (nI s) ∧ pX7_costNow fu m = some (nI s) := by
  obtain ⟨w, w1, w2, w3⟩ := waited_eq (fu := fu) hQ hO hfu
  obtain ⟨g, g1, g2, g3⟩ := state_eq (fu := fu) hQ hO hfu 3
  obtain ⟨c, c1, c2, c3⟩ := cups_eq (fu := fu) hQ hO hfu
  obtain ⟨-, -, -, -, ⟨a, -, a1, a2⟩, ⟨b, -, b1, b2⟩, -⟩ := hO.2.2.1
  have q1 : w * a ≤ 1440 * 9 := Nat.mul_le_mul w1 a1
  have q2 : c * b ≤ 22 * 9 := Nat.mul_le_mul c1 b1
  refine ⟨w * a + c * b + g * 9, by omega, ?_, ?_⟩
  · unfold pX2_cost
    rw [w2, bd_some, c2, bd_some, g2, bd_some, a2, b2, show (9 : Int32) = nI 9 from rfl, pk_mul, pk_mul, pk_mul, nI_add, nI_add]
  · unfold pX7_costNow
    rw [w3, bd_some, g3, bd_some, c3, ← hQ.2.2.2.2.1 4 (by omega), ← hQ.2.2.2.2.1 5 (by omega), a2, b2, show (9 : Int32) = nI 9 from rfl, pk_mul, pk_mul, pk_mul, nI_add, nI_add, Nat.mul_comm 9 g]
theorem X2_begin_eq {fu n : Nat} {d : Mem} (hk : d 0 4 = nI n) (hn : n ≤ 8) (hfu : 8 < fu) : ∃ d', pX2_begin fu d = some d' ∧ (∀ k, d' 0 k = if k = 5 then 0 else if k = 6 then 0 else d 0 k) ∧ d' 1 = d 1 ∧ (∀ j, d' (5 + j) = if j < n then upd (d (5 + j)) 5 0 else d (5 + j)) ∧ ∀ k, k < 2 → ∀ i, d' (3 + k) i = if i < 4 then 0 else d (3 + k) i := by
  unfold pX2_begin
  rw [lt_eq, lt_eq]
  refine sp2 n (fun i (x : Int32) (y : Mem) => i ≤ n ∧ x = nI i ∧ (∀ k, y 0 k = if k = 5 then 0 else if k = 6 then 0 else d 0 k) ∧ (∀ o, 0 < o → o < 5 → y o = d o) ∧ ∀ j, y (5 + j) = if j < i then upd (d (5 + j)) 5 0 else d (5 + j)) (fun (r : Option Mem) => ∃ d', r = some d' ∧ (∀ k, d' 0 k = if k = 5 then 0 else if k = 6 then 0 else d 0 k) ∧ d' 1 = d 1 ∧ (∀ j, d' (5 + j) = if j < n then upd (d (5 + j)) 5 0 else d (5 + j)) ∧ ∀ k, k < 2 → ∀ i, d' (3 + k) i = if i < 4 then 0 else d (3 + k) i) ?_ fu 0 _ _ ⟨by omega, rfl, ?_, ?_, ?_⟩ (by omega) (by omega)
  · rintro i x y ⟨i1, rfl, h1, h2, h3⟩
    have y4 : y 0 4 = nI n := by rw [h1, if_neg (by omega), if_neg (by omega)]; exact hk
    by_cases c : i < n
    · refine Or.inl ⟨c, nI (i + 1), up2 y (5 + i) 5 0, fun g => ?_, by omega, rfl, ?_, ?_, ?_⟩
      · rw [y4, if_neg (nI_ge c (by omega)), ck_ok (show i < 8 by omega) (by decide), nI_cl (by omega), lt_eq, lt_eq, nI_1]
      · intro k
        rw [up2_row (by omega)]
        exact h1 k
      · intro o a b
        rw [up2_rw, if_neg (by omega)]
        exact h2 o a b
      · intro j
        rw [up2_rw]
        by_cases e : j = i
        · subst e
          rw [if_pos rfl, if_pos (by omega), h3, if_neg (by omega)]
        · rw [if_neg (by omega), h3]
          by_cases w : j < i
          · rw [if_pos w, if_pos (by omega)]
          · rw [if_neg w, if_neg (by omega)]
    · have e : i = n := by omega
      subst e
      refine Or.inr (fun g => ?_)
      rw [y4, if_pos (nI_le (Nat.le_refl _) (by omega))]
      refine sp2 2 (fun k (x : Int32) (z : Mem) => k ≤ 2 ∧ x = nI k ∧ z 0 = y 0 ∧ z 1 = y 1 ∧ (∀ j, z (5 + j) = y (5 + j)) ∧ ∀ k', k' < 2 → ∀ i, z (3 + k') i = if k' < k ∧ i < 4 then 0 else d (3 + k') i) (fun (r : Option Mem) => ∃ d', r = some d' ∧ (∀ k, d' 0 k = if k = 5 then 0 else if k = 6 then 0 else d 0 k) ∧ d' 1 = d 1 ∧ (∀ j, d' (5 + j) = if j < i then upd (d (5 + j)) 5 0 else d (5 + j)) ∧ ∀ k, k < 2 → ∀ i, d' (3 + k) i = if i < 4 then 0 else d (3 + k) i) ?_ fu 0 _ _ ⟨by omega, rfl, rfl, rfl, fun _ => rfl, fun k' hk' i' => ?_⟩ (by omega) (by omega)
      · rintro k x z ⟨k1, rfl, z0, z1, z5, z3⟩
        by_cases c : k < 2
        · refine Or.inl ⟨c, nI (k + 1), va_up z (3 + k) (upd (upd (upd (upd (z (3 + k)) 0 0) 1 0) 2 0) 3 0), fun g => ?_, by omega, rfl, ?_, ?_, ?_, ?_⟩
          · rw [if_neg (show ¬ (2 : Int32) ≤ nI k from nI_ge c (by decide)), ck_ok c (by decide), nI_cl (by omega)]
            simp only [pX3_begin, lt_eq, bd_some, nI_1]
          · rw [vu_rw, if_neg (by omega)]
            exact z0
          · rw [vu_rw, if_neg (by omega)]
            exact z1
          · intro j
            rw [vu_rw, if_neg (by omega)]
            exact z5 j
          · intro k' hk' i'
            rw [vu_rw]
            by_cases e : k' = k
            · subst e
              rw [if_pos rfl]
              by_cases q : i' < 4
              · rw [if_pos ⟨by omega, q⟩]
                rcases (show i' = 0 ∨ i' = 1 ∨ i' = 2 ∨ i' = 3 by omega) with rfl | rfl | rfl | rfl <;> simp [upd]
              · rw [if_neg (fun w => q w.2), pk_un (by omega), pk_un (by omega), pk_un (by omega), pk_un (by omega), z3 k' hk', if_neg (fun w => q w.2)]
            · rw [if_neg (by omega), z3 k' hk']
              by_cases q : i' < 4
              · by_cases w : k' < k
                · rw [if_pos ⟨w, q⟩, if_pos ⟨by omega, q⟩]
                · rw [if_neg (fun v => w v.1), if_neg (fun v => w (by omega))]
              · rw [if_neg (fun v => q v.2), if_neg (fun v => q v.2)]
        · have e : k = 2 := by omega
          subst e
          refine Or.inr (fun g => ?_)
          rw [if_pos (by decide)]
          refine ⟨z, rfl, fun k => by rw [z0]; exact h1 k, by rw [z1]; exact h2 1 (by omega) (by omega), fun j => by rw [z5]; exact h3 j, fun k' hk' i' => ?_⟩
          rw [z3 k' hk']
          by_cases q : i' < 4
          · rw [if_pos q, if_pos ⟨hk', q⟩]
          · rw [if_neg q, if_neg (fun v => q v.2)]
      · rw [if_neg (by omega), h2 _ (by omega) (by omega)]
  · intro k
    rw [up2_at, up2_at]
    simp
  · intro o a b
    rw [up2_rw, if_neg (by omega), up2_rw, if_neg (by omega)]
  · intro j
    rw [up2_rw, if_neg (by omega), up2_rw, if_neg (by omega), if_neg (by omega)]
theorem X7_begins_eq {fu : Nat} {m : Mem} (hfu : 8 < fu) : ∃ m', pX7_begins fu m = some m' ∧ (∀ k, m' 0 k = if k = 17 then 0 else if k = 16 then 0 else m 0 k) ∧ (∀ o, 0 < o → o < 8 → m' o = m o) ∧ (∀ o, 16 ≤ o → m' o = m o) ∧ (∀ j, j < 8 → m' 8 j = 0 ∧ m' 9 j = 0) ∧ ∀ k, k < 2 → m' 11 k = 0 ∧ m' 12 k = 0 ∧ m' 13 k = 0 ∧ m' 14 k = 0 := by
  unfold pX7_begins
  rw [lt_eq, lt_eq]
  refine sp2 8 (fun i (x : Int32) (y : Mem) => i ≤ 8 ∧ x = nI i ∧ (∀ k, y 0 k = if k = 17 then 0 else if k = 16 then 0 else m 0 k) ∧ (∀ o, 0 < o → o < 8 → y o = m o) ∧ (∀ o, 16 ≤ o → y o = m o) ∧ ∀ j, j < i → y 8 j = 0 ∧ y 9 j = 0) (fun (r : Option Mem) => ∃ m', r = some m' ∧ (∀ k, m' 0 k = if k = 17 then 0 else if k = 16 then 0 else m 0 k) ∧ (∀ o, 0 < o → o < 8 → m' o = m o) ∧ (∀ o, 16 ≤ o → m' o = m o) ∧ (∀ j, j < 8 → m' 8 j = 0 ∧ m' 9 j = 0) ∧ ∀ k, k < 2 → m' 11 k = 0 ∧ m' 12 k = 0 ∧ m' 13 k = 0 ∧ m' 14 k = 0) ?_ fu 0 _ _ ⟨by omega, rfl, ?_, ?_, ?_, fun j h => absurd h (by omega)⟩ (by omega) (by omega)
  · rintro i x y ⟨i1, rfl, h1, h2, h3, h4⟩
    by_cases c : i < 8
    · refine Or.inl ⟨c, nI (i + 1), up2 (up2 y 8 i 0) 9 i 0, fun g => ?_, by omega, rfl, ?_, ?_, ?_, ?_⟩
      · rw [if_neg (show ¬ (8 : Int32) ≤ nI i from nI_ge c (by decide))]
        simp only [ck_ok c (show 8 < 2 ^ 31 by decide), nI_cl (show i < 2 ^ 31 by omega), lt_eq, nI_1]
      · intro k
        rw [up2_row (by omega), up2_row (by omega)]
        exact h1 k
      · intro o a b
        rw [up2_rw, if_neg (by omega), up2_rw, if_neg (by omega)]
        exact h2 o a b
      · intro o a
        rw [up2_rw, if_neg (by omega), up2_rw, if_neg (by omega)]
        exact h3 o a
      · intro j hj
        simp only [up2_at]
        by_cases e : j = i
        · subst e
          simp
        · have := h4 j (by omega)
          simp [e, this.1, this.2]
    · have e : i = 8 := by omega
      subst e
      refine Or.inr (fun g => ?_)
      rw [if_pos (by decide)]
      refine sp2 2 (fun k (x : Int32) (z : Mem) => k ≤ 2 ∧ x = nI k ∧ (∀ o, o < 11 → z o = y o) ∧ (∀ o, 16 ≤ o → z o = y o) ∧ ∀ k', k' < k → z 11 k' = 0 ∧ z 12 k' = 0 ∧ z 13 k' = 0 ∧ z 14 k' = 0) (fun (r : Option Mem) => ∃ m', r = some m' ∧ (∀ k, m' 0 k = if k = 17 then 0 else if k = 16 then 0 else m 0 k) ∧ (∀ o, 0 < o → o < 8 → m' o = m o) ∧ (∀ o, 16 ≤ o → m' o = m o) ∧ (∀ j, j < 8 → m' 8 j = 0 ∧ m' 9 j = 0) ∧ ∀ k, k < 2 → m' 11 k = 0 ∧ m' 12 k = 0 ∧ m' 13 k = 0 ∧ m' 14 k = 0) ?_ fu 0 _ _ ⟨by omega, rfl, fun _ _ => rfl, fun _ _ => rfl, fun j h => absurd h (by omega)⟩ (by omega) (by omega)
      rintro k x z ⟨k1, rfl, z0, z1, z2⟩
      by_cases c : k < 2
      · refine Or.inl ⟨c, nI (k + 1), up2 (up2 (up2 (up2 (up2 z 11 k 0) 12 k 0) 13 k 0) 14 k 0) 15 k (-9), fun g => ?_, by omega, rfl, ?_, ?_, ?_⟩
        · rw [if_neg (show ¬ (2 : Int32) ≤ nI k from nI_ge c (by decide))]
          simp only [ck_ok c (show 2 < 2 ^ 31 by decide), nI_cl (show k < 2 ^ 31 by omega), lt_eq, nI_1]
        · intro o a
          rw [up2_rw, if_neg (by omega), up2_rw, if_neg (by omega), up2_rw, if_neg (by omega), up2_rw, if_neg (by omega), up2_rw, if_neg (by omega)]
          exact z0 o a
        · intro o a
          rw [up2_rw, if_neg (by omega), up2_rw, if_neg (by omega), up2_rw, if_neg (by omega), up2_rw, if_neg (by omega), up2_rw, if_neg (by omega)]
          exact z1 o a
        · intro k' hk'
          simp only [up2_at]
          by_cases e : k' = k
          · subst e
            simp
          · obtain ⟨w1, w2, w3, w4⟩ := z2 k' (by omega)
            simp [e, w1, w2, w3, w4]
      · have e : k = 2 := by omega
        subst e
        refine Or.inr (fun g => ?_)
        rw [if_pos (by decide)]
        refine ⟨z, rfl, fun k => by rw [z0 0 (by omega)]; exact h1 k, fun o a b => by rw [z0 o (by omega)]; exact h2 o a b, fun o a => by rw [z1 o a]; exact h3 o a, fun j hj => by rw [z0 8 (by omega), z0 9 (by omega)]; exact h4 j hj, fun k' hk' => z2 k' hk'⟩
  · intro k
    rw [up2_at, up2_at]
    simp
  · intro o a b
    rw [up2_rw, if_neg (by omega), up2_rw, if_neg (by omega)]
  · intro o a
    rw [up2_rw, if_neg (by omega), up2_rw, if_neg (by omega)]
