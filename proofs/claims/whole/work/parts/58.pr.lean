/-! PURE 26: a ferry, at times, the better of both -/
theorem sum_split (f : Nat → Int32) (q : Nat) : ∀ c, sumN (q + c) f = sumN q f + sumN c (fun i => f (q + i))
  | 0 => by rw [Nat.add_zero, sumN, Int32.add_zero]
  | c + 1 => by rw [show q + (c + 1) = (q + c) + 1 from rfl, sumN, sum_split f q c, sumN, Int32.add_assoc]
theorem sum_mul (f : Nat → Int32) (w : Int32) : ∀ n, sumN n f * w = sumN n (fun i => f i * w)
  | 0 => by rw [sumN, sumN, Int32.zero_mul]
  | n + 1 => by rw [sumN, sumN, Int32.add_mul, sum_mul f w n]
theorem fd1 : ∀ p, p < 9 → 0 < p → ∀ k, k < 9 → k / p * p ≤ k ∧ k - k / p * p + 1 ≤ p := by decide +kernel
theorem fd3 : ∀ p, p < 9 → 0 < p → ∀ k, k < 9 → k - k / p * p + 1 = p → (k + 1) / p * p = k + 1 := by decide +kernel
theorem fd4 : ∀ p, p < 9 → 0 < p → ∀ k, k < 9 → ¬ k - k / p * p + 1 = p → (k + 1) / p * p = k / p * p := by decide +kernel
theorem fd5 : ∀ p, p < 9 → 0 < p → ∀ k, k < 9 → ∀ i, i < 9 → k / p * p + i ≤ k → (k / p * p + i) / p * p = k / p * p := by decide +kernel
theorem fdiv : ∀ p, p < 9 → 0 < p → ∀ k, k < 9 → (k / p * p ≤ k ∧ k - k / p * p + 1 ≤ p ∧ (k - k / p * p + 1 = p → (k + 1) / p * p = k + 1) ∧ (k - k / p * p + 1 ≠ p → (k + 1) / p * p = k / p * p) ∧ ∀ i, i < 9 → k / p * p + i ≤ k → (k / p * p + i) / p * p = k / p * p) :=
  fun p h1 h2 k h3 => ⟨(fd1 p h1 h2 k h3).1, (fd1 p h1 h2 k h3).2, fd3 p h1 h2 k h3, fd4 p h1 h2 k h3, fd5 p h1 h2 k h3⟩
theorem X0_waitedTill_eq {fu N q k : Nat} {A : Mem} {e : Int32} (hA : A 0 2 = nI N) (hN : N ≤ 8) (hk : k < N) (hq : q ≤ k) (hfu : 9 < fu) : pX0_waitedTill fu A e (nI q) (nI k) = some (sumN (k + 1 - q) (fun i => e - A 1 (q + i))) := by
  unfold pX0_waitedTill
  refine csp2 (k + 1 - q) (fun c (x1 x2 : Int32) => x1 = sumN c (fun i => e - A 1 (q + i)) ∧ x2 = nI (q + c)) (fun (r : Option Int32) => r = some (sumN (k + 1 - q) (fun i => e - A 1 (q + i)))) ?_ fu 0 _ _ ⟨rfl, rfl⟩ (by omega) (by omega)
  rintro c g x1 x2 c1 ⟨rfl, rfl⟩ hc
  by_cases w : c < k + 1 - q
  · rw [if_neg (nI_nlt (show q + c ≤ k by omega) (by omega)), hA, if_neg (nI_ge (show q + c < N by omega) (by omega))]
    simp only [ck_ok (show q + c < 8 by omega) (show 8 < 2 ^ 31 by decide), nI_cl (show q + c < 2 ^ 31 by omega), lt_eq, nI_1]
    exact hc _ _ w ⟨rfl, rfl⟩
  · have e : c = k + 1 - q := by omega
    subst e
    rw [if_pos (nI_lt (show k < q + (k + 1 - q) by omega) (by omega))]
/-- how long the k-th by minute waits for a ferry -/
def gfe (N p w : Nat) (a : Nat → Nat) (k : Nat) : Nat := (if k / p * p + p - 1 < N then a (k / p * p + p - 1) else a (N - 1) + w) - a k
theorem seats_eq {fu N p w : Nat} {cm wn : Nat → Nat} {A d m : Mem} (h : AX N cm wn d m) (hA : AR N cm wn (srt cm N) A) (hp : 1 ≤ p) (hp8 : p ≤ 8) (hw : w ≤ 60) (hfu : 9 < fu) : pX0_waitedForSeats fu A (nI p) (nI w) = some (sumN N (fun k => nI (gfe N p w (fun i => cm (srt cm N i)) k))) := by
  obtain ⟨n8, h1, h2, h3⟩ := h
  have hso := srt_so cm N
  generalize srt cm N = s at hso hA
  unfold pX0_waitedForSeats
  refine csp3 N (fun k (x1 x2 x3 : Int32) => x2 = nI (k / p * p) ∧ x3 = nI k ∧ x1 = sumN (k / p * p) (fun k => nI (gfe N p w (fun i => cm (s i)) k))) (fun (r : Option Int32) => r = some (sumN N (fun k => nI (gfe N p w (fun i => cm (s i)) k)))) ?_ fu 0 _ _ _ ⟨by rw [Nat.zero_div, Nat.zero_mul]; rfl, rfl, by rw [Nat.zero_div, Nat.zero_mul]; rfl⟩ (by omega) (by omega)
  rintro k g x1 x2 x3 k1 ⟨rfl, rfl, rfl⟩ hc
  obtain ⟨d1, d2, d3, d4, d5⟩ := fdiv p (by omega) (by omega) k (by omega)
  have one : (1 : Int32) = nI 1 := rfl
  rw [hA.1]
  by_cases c : k < N
  · rw [if_neg (nI_ge c (by omega)), pk_sub d1, nI_1]
    by_cases e : k - k / p * p + 1 = p
    · have key : sumN (k + 1 - k / p * p) (fun i => A 1 k - A 1 (k / p * p + i)) = sumN (k + 1 - k / p * p) (fun i => nI (gfe N p w (fun i => cm (s i)) (k / p * p + i))) := by
        refine sumN_congr (fun i hi => ?_)
        rw [(hA.2 k c).1, (hA.2 (k / p * p + i) (by omega)).1, pk_sub (hso.2.1 _ _ (by omega) c)]
        unfold gfe
        rw [d5 i (by omega) (by omega), show k / p * p + p - 1 = k by omega, if_pos c]
      rw [if_pos (by rw [e]), ck_ok (show k < 8 by omega) (by decide), nI_cl (by omega), X0_waitedTill_eq hA.1 n8 c d1 hfu, bd_some, lt_eq, lt_eq, lt_eq, nI_1, key]
      refine hc _ _ _ c ⟨by rw [d3 e], rfl, ?_⟩
      rw [d3 e]
      have := sum_split (fun k => nI (gfe N p w (fun i => cm (s i)) k)) (k / p * p) (k + 1 - k / p * p)
      rw [show k / p * p + (k + 1 - k / p * p) = k + 1 by omega] at this
      exact this.symm
    · rw [if_neg (nI_ne e (by omega) (by omega)), lt_eq, nI_1]
      exact hc _ _ _ c ⟨by rw [d4 e], rfl, by rw [d4 e]⟩
  · have e : k = N := by omega
    subst e
    rw [if_pos (nI_le (Nat.le_refl _) (by omega))]
    by_cases z : k ≤ k / p * p
    · rw [if_pos (nI_le z (by omega))]
      rw [show k / p * p = k by omega]
    · have key : sumN (k - 1 + 1 - k / p * p) (fun i => nI (cm (s (k - 1)) + w) - A 1 (k / p * p + i)) = sumN (k - 1 + 1 - k / p * p) (fun i => nI (gfe k p w (fun i => cm (s i)) (k / p * p + i))) := by
        refine sumN_congr (fun i hi => ?_)
        rw [(hA.2 (k / p * p + i) (by omega)).1, pk_sub (by have := hso.2.1 (k / p * p + i) (k - 1) (by omega) (by omega); omega)]
        unfold gfe
        rw [d5 i (by omega) (by omega), if_neg (by omega)]
      rw [if_neg (nI_ge (by omega) (by omega)), one, pk_sub (by omega), ck_ok (show k - 1 < 8 by omega) (by decide), nI_cl (by omega), (hA.2 (k - 1) (by omega)).1, nI_add, X0_waitedTill_eq hA.1 n8 (show k - 1 < k by omega) (by omega) hfu, bd_some, lt_eq, key]
      have := sum_split (fun i => nI (gfe k p w (fun i => cm (s i)) i)) (k / p * p) (k - 1 + 1 - k / p * p)
      rw [show k / p * p + (k - 1 + 1 - k / p * p) = k by omega] at this
      rw [← this]
theorem ferryBy_eq {fu N p w : Nat} {cm wn : Nat → Nat} {d m : Mem} (h : AX N cm wn d m) (hp : 1 ≤ p) (hp8 : p ≤ 8) (hw : w ≤ 60) (hfu : 9 < fu) : ∃ z, pX7_ferryBy fu m (nI p) (nI w) = some (sumN N (fun k => nI (gfe N p w (fun i => cm (srt cm N i)) k)), z) ∧ ∀ o, o ≠ 21 → z o = m o := by
  obtain ⟨z, e, e2, e3⟩ := X7_sorts_eq (fu := fu) h (by omega)
  obtain ⟨n8, h1, h2, h3⟩ := h
  have hso := srt_so cm N
  generalize srt cm N = s at hso e2
  refine ⟨z, ?_, e3⟩
  unfold pX7_ferryBy
  rw [e, bd_some]
  refine csp2 N (fun k (x1 x2 : Int32) => x2 = nI k ∧ x1 = sumN k (fun k => nI (gfe N p w (fun i => cm (s i)) k))) (fun (r : Option (Int32 × Mem)) => r = some (sumN N (fun k => nI (gfe N p w (fun i => cm (s i)) k)), z)) ?_ fu 0 _ _ ⟨rfl, rfl⟩ (by omega) (by omega)
  rintro k g x1 x2 k1 ⟨rfl, rfl⟩ hc
  rw [e3 0 (by omega), h2, e3 5 (by omega)]
  by_cases c : k < N
  · obtain ⟨d1, d2, d3, d4, d5⟩ := fdiv p (by omega) (by omega) k (by omega)
    have one : (1 : Int32) = nI 1 := rfl
    have sk := hso.1 k c
    have ck5 : m 5 (s k) = nI (cm (s k)) := (h3 _ sk).2.2.2.2.1
    rw [if_neg (nI_ge c (by omega)), ckn_ok (nI_ne0 (by omega) (by omega)), lt_eq, pk_div (by omega) (by omega) (by omega), pk_mul, nI_add, one, pk_sub (by omega)]
    simp only [jn1_eq, ck_ok (show k < 8 by omega) (show 8 < 2 ^ 31 by decide), nI_cl (show k < 2 ^ 31 by omega), e2 k c, ck_ok (show s k < 8 by omega) (show 8 < 2 ^ 31 by decide), nI_cl (show s k < 2 ^ 31 by omega), ck5, lt_eq, ← one, nI_1]
    by_cases z : k / p * p + p - 1 < N
    · have sl := hso.1 _ z
      rw [if_neg (nI_ge z (by omega)), ck_ok (show k / p * p + p - 1 < 8 by omega) (by decide), nI_cl (by omega), e2 _ z, ck_ok (show s (k / p * p + p - 1) < 8 by omega) (by decide), nI_cl (by omega), (h3 _ sl).2.2.2.2.1, pk_sub (hso.2.1 _ _ (by omega) z)]
      refine hc _ _ c ⟨rfl, ?_⟩
      rw [sumN]
      congr 1
      unfold gfe
      rw [if_pos z]
    · have sl := hso.1 (N - 1) (by omega)
      rw [if_pos (nI_le (by omega) (by omega)), one, pk_sub (by omega), ck_ok (show N - 1 < 8 by omega) (by decide), nI_cl (by omega), e2 _ (by omega), ck_ok (show s (N - 1) < 8 by omega) (by decide), nI_cl (by omega), (h3 _ sl).2.2.2.2.1, nI_add, pk_sub (by have := hso.2.1 k (N - 1) (by omega) (by omega); omega)]
      refine hc _ _ c ⟨rfl, ?_⟩
      rw [sumN]
      congr 1
      unfold gfe
      rw [if_neg z]
  · have e : k = N := by omega
    subst e
    rw [if_pos (nI_le (Nat.le_refl _) (by omega))]
/-- the ferry's waits are small -/
theorem gfe_sum {N p w : Nat} {cm wn : Nat → Nat} {d m : Mem} (h : AX N cm wn d m) (hp : 1 ≤ p) (hw : w ≤ 60) : ∃ S, S ≤ 1600 ∧ sumN N (fun k => nI (gfe N p w (fun i => cm (srt cm N i)) k)) = nI S := by
  obtain ⟨n8, h1, h2, h3⟩ := h
  have hso := srt_so cm N
  generalize srt cm N = s at hso
  have hf : ∀ k, k < N → rng (nI (gfe N p w (fun i => cm (s i)) k)) 0 200 := fun k hk => by
    refine ⟨_, Nat.zero_le _, ?_, rfl⟩
    unfold gfe
    have b1 := (h3 _ (hso.1 (N - 1) (by omega))).1
    by_cases z : k / p * p + p - 1 < N
    · have b2 := (h3 _ (hso.1 _ z)).1
      rw [if_pos z]
      dsimp only
      omega
    · rw [if_neg z]
      dsimp only
      omega
  obtain ⟨S, s1, s2⟩ := sumN_rng (b := 200) (f := fun k => nI (gfe N p w (fun i => cm (s i)) k)) (by omega) N n8 hf
  exact ⟨S, by omega, s2⟩
/-- the class's row of minutes, the model's byMinute: what keeps the rest -/
theorem RR.r21 {f n k le m m' : Mem} (h : RR f n k le m) (g : ∀ o, o ≠ 21 → m' o = m o) : RR f n k le m' :=
  ⟨h.1.keep (g 1 (by omega)) (g 22 (by omega)) (by rw [g 0 (by omega)]) (by rw [g 0 (by omega)]), h.2.1.keep (KD.of (fun k _ => by rw [g 0 (by omega)]) (fun o _ h2 => g o (by omega))), h.2.2.1.keep (by rw [g 0 (by omega)]) (fun i _ => by rw [g 20 (by omega)]), h.2.2.2.keep (by rw [g 0 (by omega)]) (g 16 (by omega))⟩
theorem ferry_R {fu : Nat} {f n k le m : Mem} (h : RR f n k le m) (hfu : 200 < fu) (ar : Mem) (p q : Int32) : ∃ r f' ar' m', pX6_ferry fu f n ar p q = some (r, f', ar') ∧ pX7_ferry fu m p q = some (r, m') ∧ RR f' n k le m' := by
  obtain ⟨f4, m4, b1, b2, hr4⟩ := ref4 (fu := fu) h
  obtain ⟨f6, m6, c1, c2, hr6⟩ := ref6 (fu := fu) h
  unfold pX6_ferry pX7_ferry
  simp only [jn1_eq]
  by_cases p0 : p < 1
  · simp only [if_pos p0, if_neg (show ¬ (-4 : Int32) = 0 by decide), b1, b2, bd2_some]
    exact ⟨_, _, _, _, rfl, rfl, hr4⟩
  · by_cases q0 : 0 ≤ q
    · by_cases p8 : 8 < p
      · simp only [if_neg p0, if_pos q0, if_pos p8, if_neg (show ¬ (-6 : Int32) = 0 by decide), c1, c2, bd2_some]
        exact ⟨_, _, _, _, rfl, rfl, hr6⟩
      · by_cases q6 : q ≤ 60
        · have hh := h
          obtain ⟨hF, ⟨nn, t, l, hD⟩, -⟩ := hh
          obtain ⟨cm, wn, hX⟩ := hD.bq.ax
          obtain ⟨A, g1, hA⟩ := X0_take_eq (fu := fu) (A := ar) hX (by omega)
          obtain ⟨P, P1, P8, rfl⟩ : ∃ P, 1 ≤ P ∧ P ≤ 8 ∧ p = nI P := by
            rw [i_lt, show (1 : Int32).toInt = 1 from rfl] at p0
            rw [i_lt, show (8 : Int32).toInt = 8 from rfl] at p8
            refine ⟨p.toInt.toNat, by omega, by omega, Int32.toInt_inj.mp ?_⟩
            rw [nI_toInt (by omega)]
            omega
          obtain ⟨Q, Q60, rfl⟩ := nI_of2 (x := q) (M := 60) (n := 60) rfl ((i_nlt q 0).mpr q0) q6
          obtain ⟨z, e1, e2⟩ := ferryBy_eq (fu := fu) hX P1 P8 Q60 (by omega)
          have e3 := seats_eq (fu := fu) hX hA P1 P8 Q60 (by omega)
          simp only [if_neg p0, if_pos q0, if_neg p8, if_pos q6, reduceIte, g1, bd_some, e3, e1, bd2_some]
          exact ⟨_, _, _, _, rfl, rfl, h.r21 e2⟩
        · simp only [if_neg p0, if_pos q0, if_neg p8, if_neg q6, if_neg (show ¬ (-6 : Int32) = 0 by decide), c1, c2, bd2_some]
          exact ⟨_, _, _, _, rfl, rfl, hr6⟩
    · simp only [if_neg p0, if_neg q0, if_neg (show ¬ (-4 : Int32) = 0 by decide), b1, b2, bd2_some]
      exact ⟨_, _, _, _, rfl, rfl, hr4⟩
def tme (w x : Nat) : Nat := (w - x % w) % w
theorem floor_d : ∀ w, w < 61 → 0 < w → ∀ x, x < 120 → (if (0 : Int32) ≤ ((-(nI x)) ^^^ (nI w)) then some (-(nI x) - -(nI x) / nI w * nI w) else if -(nI x) - -(nI x) / nI w * nI w = 0 then some (-(nI x) - -(nI x) / nI w * nI w) else some (-(nI x) - -(nI x) / nI w * nI w + nI w)) = some (nI (tme w x)) := by decide +kernel
theorem floor_eq {fu w x : Nat} (hw : w ≤ 60) (h0 : 1 ≤ w) (hx : x ≤ 119) : pJ9_floorMod_7cf53 fu (-(nI x)) (nI w) = some (nI (tme w x)) := by
  unfold pJ9_floorMod_7cf53
  rw [ckn_ok (nI_ne0 (by omega) (by omega)), lt_eq]
  exact floor_d w (by omega) (by omega) x (by omega)
theorem tme_m {w x : Nat} (hw : w ≤ 60) (h0 : 1 ≤ w) (hx : x ≤ 119) : (nI w - (nI x - nI x / nI w * nI w)) - (nI w - (nI x - nI x / nI w * nI w)) / nI w * nI w = nI (tme w x) := by
  have := Nat.mod_lt x (show 0 < w by omega)
  rw [pk_rem (by omega) (by omega) (by omega), pk_sub (by omega), pk_rem (by omega) (by omega) (by omega)]
  rfl
theorem timesC_eq {fu N w : Nat} {cm wn : Nat → Nat} {A d m : Mem} (h : AX N cm wn d m) (hA : AR N cm wn (srt cm N) A) (h0 : 1 ≤ w) (hw : w ≤ 60) (hfu : 9 < fu) : pX0_waitedForTimes fu A (nI w) = some (sumN N (fun j => nI (tme w (cm j)))) := by
  obtain ⟨n8, h1, h2, h3⟩ := h
  have hso := srt_so cm N
  generalize srt cm N = s at hso hA
  rw [← hso.2.2.1 (fun j => nI (tme w (cm j)))]
  unfold pX0_waitedForTimes
  refine csp2 N (fun k (x1 x2 : Int32) => x2 = nI k ∧ x1 = sumN k (fun k => nI (tme w (cm (s k))))) (fun (r : Option Int32) => r = some (sumN N (fun k => nI (tme w (cm (s k)))))) ?_ fu 0 _ _ ⟨rfl, rfl⟩ (by omega) (by omega)
  rintro k g x1 x2 k1 ⟨rfl, rfl⟩ hc
  rw [hA.1]
  by_cases c : k < N
  · rw [if_neg (nI_ge c (by omega)), if_neg (nI_nle (by omega) (by omega)), ck_ok (show k < 8 by omega) (by decide), nI_cl (by omega), (hA.2 k c).1, floor_eq hw h0 (h3 _ (hso.1 k c)).1, bd_some, lt_eq, lt_eq, nI_1]
    exact hc _ _ c ⟨rfl, rfl⟩
  · have e : k = N := by omega
    subst e
    rw [if_pos (nI_le (Nat.le_refl _) (by omega))]
theorem timesM_eq {fu N w : Nat} {cm wn : Nat → Nat} {d m : Mem} (h : AX N cm wn d m) (h0 : 1 ≤ w) (hw : w ≤ 60) (hfu : 9 < fu) : pX7_timesBy fu m (nI w) = some (sumN N (fun j => nI (tme w (cm j)))) := by
  obtain ⟨n8, h1, h2, h3⟩ := h
  unfold pX7_timesBy
  refine csp2 N (fun k (x1 x2 : Int32) => x2 = nI k ∧ x1 = sumN k (fun j => nI (tme w (cm j)))) (fun (r : Option Int32) => r = some (sumN N (fun j => nI (tme w (cm j))))) ?_ fu 0 _ _ ⟨rfl, rfl⟩ (by omega) (by omega)
  rintro k g x1 x2 k1 ⟨rfl, rfl⟩ hc
  rw [h2]
  by_cases c : k < N
  · obtain ⟨c1, -, -, -, c5, -⟩ := h3 k c
    rw [if_neg (nI_ge c (by omega)), ck_ok (show k < 8 by omega) (by decide), ckn_ok (nI_ne0 (by omega) (by omega)), ckn_ok (nI_ne0 (by omega) (by omega)), nI_cl (by omega), c5, tme_m hw h0 c1, lt_eq, lt_eq, nI_1]
    exact hc _ _ c ⟨rfl, rfl⟩
  · have e : k = N := by omega
    subst e
    rw [if_pos (nI_le (Nat.le_refl _) (by omega))]
theorem tme_sum {N w : Nat} {cm wn : Nat → Nat} {d m : Mem} (h : AX N cm wn d m) (h0 : 1 ≤ w) (hw : w ≤ 60) : ∃ T, T ≤ 800 ∧ sumN N (fun j => nI (tme w (cm j))) = nI T := by
  obtain ⟨T, t1, t2⟩ := sumN_rng (b := 100) (f := fun j => nI (tme w (cm j))) (by omega) N h.1 (fun k hk => ⟨_, by omega, (by unfold tme; have := Nat.mod_lt (w - cm k % w) (show 0 < w by omega); omega), rfl⟩)
  have := h.1
  exact ⟨T, by omega, t2⟩
theorem of160 {p : Int32} (p0 : 1 ≤ p) (p1 : p ≤ 60) : ∃ w, 1 ≤ w ∧ w ≤ 60 ∧ p = nI w := by
  rw [i_le, show (1 : Int32).toInt = 1 from rfl] at p0
  rw [i_le, show (60 : Int32).toInt = 60 from rfl] at p1
  refine ⟨p.toInt.toNat, by omega, by omega, Int32.toInt_inj.mp ?_⟩
  rw [nI_toInt (by omega)]
  omega
theorem times_R {fu : Nat} {f n k le m : Mem} (h : RR f n k le m) (hfu : 200 < fu) (ar : Mem) (p : Int32) : ∃ r f' ar' m', pX6_times fu f n ar p = some (r, f', ar') ∧ pX7_times fu m p = some (r, m') ∧ RR f' n k le m' := by
  obtain ⟨f4, m4, b1, b2, hr4⟩ := ref4 (fu := fu) h
  obtain ⟨f6, m6, c1, c2, hr6⟩ := ref6 (fu := fu) h
  unfold pX6_times pX7_times pX7_bound
  by_cases p0 : 1 ≤ p
  · by_cases p1 : p ≤ 60
    · have hh := h
      obtain ⟨hF, ⟨nn, t, l, hD⟩, -⟩ := hh
      obtain ⟨cm, wn, hX⟩ := hD.bq.ax
      obtain ⟨A, g1, hA⟩ := X0_take_eq (fu := fu) (A := ar) hX (by omega)
      obtain ⟨w, w1, w60, rfl⟩ := of160 p0 p1
      simp only [if_pos p0, if_pos p1, bd_some, reduceIte, g1, timesC_eq (fu := fu) hX hA w1 w60 (by omega), timesM_eq (fu := fu) hX w1 w60 (by omega)]
      exact ⟨_, _, _, _, rfl, rfl, h⟩
    · simp only [if_pos p0, if_neg p1, bd_some, if_neg (show ¬ (-6 : Int32) = 0 by decide), c1, c2, bd2_some]
      exact ⟨_, _, _, _, rfl, rfl, hr6⟩
  · simp only [if_neg p0, bd_some, if_neg (show ¬ (-4 : Int32) = 0 by decide), b1, b2, bd2_some]
    exact ⟨_, _, _, _, rfl, rfl, hr4⟩
theorem better_R {fu : Nat} {f n k le m : Mem} (h : RR f n k le m) (hfu : 200 < fu) (ar : Mem) (p : Int32) : ∃ r f' ar' m', pX6_better fu f n ar p = some (r, f', ar') ∧ pX7_better fu m p = some (r, m') ∧ RR f' n k le m' := by
  obtain ⟨f4, m4, b1, b2, hr4⟩ := ref4 (fu := fu) h
  obtain ⟨f6, m6, c1, c2, hr6⟩ := ref6 (fu := fu) h
  unfold pX6_better pX7_better pX7_bound
  by_cases p0 : 1 ≤ p
  · by_cases p1 : p ≤ 60
    · have hh := h
      obtain ⟨hF, ⟨nn, t, l, hD⟩, -⟩ := hh
      obtain ⟨cm, wn, hX⟩ := hD.bq.ax
      obtain ⟨A, g1, hA⟩ := X0_take_eq (fu := fu) (A := ar) hX (by omega)
      obtain ⟨w, w1, w60, rfl⟩ := of160 p0 p1
      obtain ⟨T, T1, eT⟩ := tme_sum hX w1 w60
      have tC := timesC_eq (fu := fu) hX hA w1 w60 (by omega)
      rw [eT] at tC
      simp only [if_pos p0, if_pos p1, bd_some, reduceIte, g1, timesM_eq (fu := fu) hX w1 w60 (by omega), eT]
      suffices key : ∃ r m', pX0_bestSeats fu A (nI w) = some r ∧ zl4 (fun g11 (x6 : Int32) (x7 : Int32) (x8 : Int32) (y9 : Mem) =>
      if 9 ≤ x8 then
        some (x6, y9)
      else
        bd2 (pX7_ferryBy fu y9 x8 (nI w)) fun r14 y15 =>
        if r14 < x7 then
          lt' (x8 + 1) fun x18 =>
          g11 x8 r14 x18 y15
        else
          lt' (x8 + 1) fun x19 =>
          g11 x6 x7 x19 y15) fu (-9) (nI T) 1 m = some (r, m') ∧ ∀ o, o ≠ 21 → m' o = m o by
        obtain ⟨r, m', k1, k2, k3⟩ := key
        rw [k1, bd_some, k2]
        exact ⟨_, _, _, _, rfl, rfl, h.r21 k3⟩
      unfold pX0_bestSeats
      refine csim34 8 (fun i (a b c : Int32) (u v x : Int32) (z : Mem) => a = u ∧ c = nI (i + 1) ∧ x = nI (i + 1) ∧ (∃ L, L ≤ T ∧ b = nI (T - L) ∧ v = nI L) ∧ ∀ o, o ≠ 21 → z o = m o) (fun (x : Option Int32) (y : Option (Int32 × Mem)) => ∃ r m', x = some r ∧ y = some (r, m') ∧ ∀ o, o ≠ 21 → m' o = m o) ?_ fu 0 _ _ _ _ _ _ _ ⟨rfl, rfl, rfl, ⟨T, Nat.le_refl _, by rw [Nat.sub_self]; rfl, rfl⟩, fun _ _ => rfl⟩ (by omega) (by omega)
      rintro i g hh a b c u v x z i8 ⟨rfl, rfl, rfl, ⟨L, L1, rfl, rfl⟩, hz⟩ hc
      by_cases w8 : i < 8
      · have hX2 : AX nn cm wn n z := by
          obtain ⟨x1, x2, x3, x4⟩ := hX
          exact ⟨x1, x2, by rw [hz 0 (by omega)]; exact x3, fun j hj => by rw [hz 5 (by omega), hz 6 (by omega)]; exact x4 j hj⟩
        obtain ⟨S, S1, eS⟩ := gfe_sum hX (p := i + 1) (by omega) w60
        obtain ⟨z2, e1, e2⟩ := ferryBy_eq (fu := fu) (p := i + 1) hX2 (by omega) (by omega) w60 (by omega)
        have e3 := seats_eq (fu := fu) (p := i + 1) hX hA (by omega) (by omega) w60 (by omega)
        rw [eS] at e1 e3
        rw [if_neg (show ¬ 8 < nI (i + 1) from nI_nlt (b := i + 1) (a := 8) (by omega) (by decide)), if_neg (show ¬ 9 ≤ nI (i + 1) from nI_ge (b := 9) (by omega) (by decide)), tC, bd_some, e3, bd_some, e1, bd2_some]
        simp only [lt_eq, nI_1]
        have le_iff : (nI T - nI S ≤ nI (T - L)) ↔ ¬ nI S < nI L := by
          rw [i_le, pk_sub_toInt (by omega) (by omega), nI_toInt (by omega), i_lt, nI_toInt (by omega), nI_toInt (by omega)]
          omega
        have hz2 : ∀ o, o ≠ 21 → z2 o = m o := fun o ho => (e2 o ho).trans (hz o ho)
        by_cases q : nI S < nI L
        · have q2 : S < L := (nI_ltI (by omega) (by omega)).mp q
          rw [if_neg (fun z => le_iff.mp z q), if_pos q, pk_sub (by omega)]
          exact hc _ _ _ _ _ _ _ w8 ⟨rfl, rfl, rfl, ⟨S, by omega, rfl, rfl⟩, hz2⟩
        · rw [if_pos (le_iff.mpr q), if_neg q]
          exact hc _ _ _ _ _ _ _ w8 ⟨rfl, rfl, rfl, ⟨L, L1, rfl, rfl⟩, hz2⟩
      · have e : i = 8 := by omega
        subst e
        rw [if_pos (show (8 : Int32) < nI (8 + 1) by decide), if_pos (show (9 : Int32) ≤ nI (8 + 1) by decide)]
        exact ⟨_, _, rfl, rfl, hz⟩
    · simp only [if_pos p0, if_neg p1, bd_some, if_neg (show ¬ (-6 : Int32) = 0 by decide), c1, c2, bd2_some]
      exact ⟨_, _, _, _, rfl, rfl, hr6⟩
  · simp only [if_neg p0, bd_some, if_neg (show ¬ (-4 : Int32) = 0 by decide), b1, b2, bd2_some]
    exact ⟨_, _, _, _, rfl, rfl, hr4⟩
