/-! PURE 11: kettles cool; the minute's end -/
theorem ket_upd {n t k : Nat} {d m d' m' : Mem} {l : List Nat} (hQ : DQ n d m) (hO : DOK n t d) (hL : LM n d m l) (hC : LC d l) (hk : k < 2) (hku : k = 1 → d 1 7 = 2) (a1 : ∀ o, o ≠ 3 + k → d' o = d o) (a2 : d' (3 + k) 0 = d (3 + k) 0 ∧ d' (3 + k) 3 = d (3 + k) 3 ∧ d' (3 + k) 4 = d (3 + k) 4) (hW : rng (d' (3 + k) 1) 0 10)
    (b2 : m' 12 k = d' (3 + k) 1 ∧ m' 13 k = d' (3 + k) 2) (b1 : ∀ o, o ≠ 12 → o ≠ 13 → m' o = m o) (b3 : ∀ o i, i ≠ k → m' o i = m o i) : DQ n d' m' ∧ DOK n t d' ∧ LM n d' m' l ∧ LC d' l ∧ ST d m d' m' := by
  obtain ⟨h8, hk1, hk2, ht, hs, hC1, hK0, hK1⟩ := hQ
  have hK : ∀ i, i < 2 → DKr d m i := fun i hi => by rcases (show i = 0 ∨ i = 1 by omega) with rfl | rfl <;> assumption
  obtain ⟨o1, o2, o3, o4, o5, o6, o7⟩ := hO
  have hKR : ∀ i, i < 2 → KRg (d (3 + i)) := fun i hi => by rcases (show i = 0 ∨ i = 1 by omega) with rfl | rfl <;> assumption
  have d0 : d' 0 = d 0 := a1 0 (by omega)
  have m0 : m' 0 = m 0 := b1 0 (by omega) (by omega)
  have hK' : ∀ i, i < 2 → DKr d' m' i := by
    intro i hi
    obtain ⟨g1, g2, g3, g4, g5⟩ := hK i hi
    unfold DKr
    rw [d0, b1 11 (by omega) (by omega), b1 14 (by omega) (by omega), b1 15 (by omega) (by omega)]
    by_cases e : i = k
    · subst e
      rw [a2.1, a2.2.1, a2.2.2]
      exact ⟨g1, b2.1.symm, b2.2.symm, g4, g5⟩
    · rw [a1 (3 + i) (by omega), b3 12 i e, b3 13 i e]
      exact ⟨g1, g2, g3, g4, g5⟩
  have hKR' : ∀ i, i < 2 → KRg (d' (3 + i)) := by
    intro i hi
    by_cases e : i = k
    · subst e
      unfold KRg
      rw [a2.1, a2.2.1]
      exact ⟨(hKR i hi).1, hW, (hKR i hi).2.2⟩
    · rw [a1 (3 + i) (by omega)]
      exact hKR i hi
  have ac : ∀ j, d' (5 + j) = d (5 + j) := fun j => a1 _ (by omega)
  refine ⟨⟨h8, ?_, ?_, ?_, ?_, ?_, hK' 0 (by omega), hK' 1 (by omega)⟩, ⟨?_, o2, ?_, ?_, hKR' 0 (by omega), hKR' 1 (by omega), ?_⟩, ?_, ?_, ⟨⟨?_, ?_, ?_⟩, ⟨?_, ?_, ?_⟩, ?_⟩⟩
  · rw [d0]; exact hk1
  · rw [m0]; exact hk2
  · rw [d0, m0]; exact ht
  · rw [a1 1 (by omega), b1 2 (by omega) (by omega)]; exact hs
  · intro j hj
    rw [ac, b1 3 (by omega) (by omega), b1 4 (by omega) (by omega), b1 5 (by omega) (by omega), b1 6 (by omega) (by omega), b1 7 (by omega) (by omega), b1 8 (by omega) (by omega), b1 9 (by omega) (by omega)]
    exact hC1 j hj
  · rw [d0]; exact o1
  · rw [a1 1 (by omega)]; exact o3
  · intro j hj
    rw [ac]
    exact o4 j hj
  · rw [a1 1 (by omega)]
    intro h
    have e : ¬ 1 = k := fun z => by
      have := hku z.symm
      rw [h] at this
      exact absurd this (by decide)
    rw [show d' 4 = d 4 from a1 (3 + 1) (by omega)]
    exact o7 h
  · unfold LM
    rw [m0, b1 10 (by omega) (by omega)]
    simp only [ac]
    exact hL
  · unfold LC
    rw [d0, a1 2 (by omega)]
    exact hC
  · exact a1 1 (by omega)
  · rw [d0]
  · intro j i hi
    rw [ac]
  · intro o h1 h2
    exact b1 o (by omega) (by omega)
  · intro o h1
    exact b1 o (by omega) (by omega)
  · intro k1 _ _ _
    rw [m0]
  · rw [d0, m0]
    exact id
theorem min_upd {n t : Nat} {d m : Mem} {l : List Nat} (hQ : DQ n d m) (hO : DOK n t d) (hL : LM n d m l) (hC : LC d l) (ht180 : t < 180) : DQ n (up2 d 0 6 (nI (t + 1))) (up2 m 0 16 (nI (t + 1))) ∧ DOK n (t + 1) (up2 d 0 6 (nI (t + 1))) ∧ LM n (up2 d 0 6 (nI (t + 1))) (up2 m 0 16 (nI (t + 1))) l ∧ LC (up2 d 0 6 (nI (t + 1))) l ∧ ST d m (up2 d 0 6 (nI (t + 1))) (up2 m 0 16 (nI (t + 1))) := by
  have ro : ∀ (x : Mem) (k : Nat) (v : Int32) (o : Nat), 0 < o → up2 x 0 k v o = x o := fun x k v o h => by rw [up2_rw, if_neg (by omega)]
  obtain ⟨h8, hk1, hk2, ht, hs, hC1, hK0, hK1⟩ := hQ
  obtain ⟨o1, o2, o3, o4, o5, o6, o7⟩ := hO
  have mono : nI t < nI (t + 1) := nI_lt (by omega) (by omega)
  have kk : ∀ k, k < 2 → DKr d m k → DKr (up2 d 0 6 (nI (t + 1))) (up2 m 0 16 (nI (t + 1))) k := fun k hk h => by
    unfold DKr at h ⊢
    rw [ro d _ _ _ (by omega), ro m _ _ 11 (by omega), ro m _ _ 12 (by omega), ro m _ _ 13 (by omega), ro m _ _ 14 (by omega), ro m _ _ 15 (by omega), up2_same]
    refine ⟨h.1, h.2.1, h.2.2.1, h.2.2.2.1, fun q => h.2.2.2.2 ?_⟩
    rw [o1]
    rw [i_lt] at *
    omega
  refine ⟨⟨h8, ?_, ?_, ?_, ?_, ?_, kk 0 (by omega) hK0, kk 1 (by omega) hK1⟩, ⟨?_, ?_, ?_, ?_, ?_, ?_, ?_⟩, ?_, ?_, ⟨⟨?_, ?_, ?_⟩, ⟨?_, ?_, ?_⟩, ?_⟩⟩
  · rw [up2_col (by omega)]; exact hk1
  · rw [up2_col (by omega)]; exact hk2
  · rw [up2_same, up2_same]
  · rw [ro d _ _ _ (by omega), ro m _ _ _ (by omega)]; exact hs
  · intro j hj
    rw [ro d _ _ _ (by omega), ro m _ _ 3 (by omega), ro m _ _ 4 (by omega), ro m _ _ 5 (by omega), ro m _ _ 6 (by omega), ro m _ _ 7 (by omega), ro m _ _ 8 (by omega), ro m _ _ 9 (by omega)]
    exact hC1 j hj
  · exact up2_same _ _ _ _
  · omega
  · rw [ro d _ _ _ (by omega)]; exact o3
  · intro j hj
    rw [ro d _ _ _ (by omega)]
    obtain ⟨q1, q2, q3, q4, q5, q6, q7, q8⟩ := o4 j hj
    exact ⟨q1, q2, q3, q4, q5, q6, fun h => by obtain ⟨c, h1, h2⟩ := q7 h; exact ⟨c, by omega, h2⟩, q8⟩
  · rw [ro d _ _ _ (by omega)]; exact o5
  · rw [ro d _ _ _ (by omega)]; exact o6
  · rw [ro d _ _ 1 (by omega), ro d _ _ 4 (by omega)]; exact o7
  · unfold LM
    rw [up2_col (by omega), ro m _ _ _ (by omega)]
    have : ∀ j, up2 d 0 6 (nI (t + 1)) (5 + j) = d (5 + j) := fun j => ro d _ _ _ (by omega)
    simp only [this]
    exact hL
  · unfold LC
    rw [up2_col (by omega), ro d _ _ _ (by omega)]
    exact hC
  · exact ro d _ _ _ (by omega)
  · exact up2_col (by omega)
  · intro j i hi
    rw [ro d _ _ _ (by omega)]
  · intro o h1 h2
    exact ro m _ _ _ (by omega)
  · intro o h1
    exact ro m _ _ _ (by omega)
  · intro k1 h1 _ _
    exact up2_col h1
  · rw [up2_col (by omega), up2_col (by omega)]
    exact id
/-- what a minute comes to, on both sides -/
def MR (n t : Nat) (d m : Mem) (x y : Option Mem) : Prop := ∃ d' m' l, x = some d' ∧ y = some m' ∧ DQ n d' m' ∧ DOK n t d' ∧ LM n d' m' l ∧ LC d' l ∧ ST d m d' m'
theorem le0_iff {x : Int32} {b : Nat} (h : rng x 0 b) (hb : b < 2 ^ 31) : x ≤ 0 ↔ x = 0 := by
  obtain ⟨k, -, h1, rfl⟩ := h
  rw [← nI_0, nI_leI (by omega) (by decide), nI_eq (by omega) (by decide)]
  omega
theorem max0 {x : Int32} {b : Nat} (h : rng x 0 b) (hb : b < 2 ^ 31) : imax 0 (x - 1) = if x ≤ 0 then 0 else x - 1 := by
  obtain ⟨k, -, h1, rfl⟩ := h
  rcases Nat.eq_zero_or_pos k with rfl | p
  · decide
  · obtain ⟨j, rfl⟩ : ∃ j, k = j + 1 := ⟨k - 1, by omega⟩
    rw [if_neg (nI_nle p (by omega)), nI_pred, ← max_eq, if_pos (nI_pos' (by omega))]
theorem cool_sim {fu n t : Nat} {d m : Mem} {l : List Nat} (hQ : DQ n d m) (hO : DOK n t d) (hL : LM n d m l) (hC : LC d l) (hfu : 8 < fu) :
    ∃ d' m', pX2_coolDown fu d = some d' ∧ pX7_cools fu m = some m' ∧ DQ n d' m' ∧ DOK n t d' ∧ LM n d' m' l ∧ LC d' l ∧ ST d m d' m' := by
  unfold pX2_coolDown pX7_cools
  refine sim22 2 (fun k (x : Int32) (y : Mem) (p : Int32) (q : Mem) => k ≤ 2 ∧ x = nI k ∧ p = nI k ∧ DQ n y q ∧ DOK n t y ∧ LM n y q l ∧ LC y l ∧ ST d m y q) (fun (a b : Option Mem) => ∃ d' m', a = some d' ∧ b = some m' ∧ DQ n d' m' ∧ DOK n t d' ∧ LM n d' m' l ∧ LC d' l ∧ ST d m d' m') ?_ fu 0 _ _ _ _ ⟨by omega, rfl, rfl, hQ, hO, hL, hC, ST.rf⟩ (by omega) (by omega)
  rintro k x y p q ⟨k2, rfl, rfl, hQ, hO, hL, hC, hS⟩
  have hu : kts (y 1) := hO.2.2.1.2.2.2.2.2.2.2
  have e7 := hQ.2.2.2.2.1 7 (by omega)
  by_cases c : y 1 7 ≤ nI k
  · refine Or.inr (fun g h => ?_)
    simp only [pX2_kettlesInUse, bd_some, if_pos c, ← e7, lt_eq]
    exact ⟨_, _, rfl, rfl, hQ, hO, hL, hC, hS⟩
  · have kl : k < 2 := by
      rcases (show k < 2 ∨ k = 2 by omega) with h | h
      · exact h
      · subst h
        rcases hu with h | h <;> rw [h] at c <;> exact absurd (by decide) c
    have hku : k = 1 → y 1 7 = 2 := fun h => by
      subst h
      rcases hu with h | h
      · rw [h] at c
        exact absurd (by decide) c
      · exact h
    have hK := hQ.kk kl
    have hR := hO.kk kl
    have ht := hQ.2.2.2.1
    have e3 := hQ.2.2.2.2.1 3 (by omega)
    refine Or.inl ⟨kl, ?_⟩
    simp only [pX2_kettlesInUse, bd_some, if_neg c, ← e7, ck_ok kl (show 2 < 2 ^ 31 by decide), nI_cl (show k < 2 ^ 31 by omega), ← hK.1, le0_iff hR.1 (by decide), nI_1, lt_eq]
    by_cases z : y (3 + k) 0 = 0
    · refine ⟨nI (k + 1), y, nI (k + 1), q, fun g => by rw [if_pos z], fun g => ?_, by omega, rfl, rfl, hQ, hO, hL, hC, hS⟩
      by_cases f : fre (y (3 + k)) (y 0 6)
      · rw [X7_isFree_t kl hK ht f, bd_some, if_neg i10, if_pos z]
      · rw [X7_isFree_f kl hK ht f, bd_some, if_pos rfl]
    · by_cases f : fre (y (3 + k)) (y 0 6)
      · rw [X7_isFree_t kl hK ht f, X3_isFree_t f]
        have nle : ∀ a b : Int32, ¬ a < b ↔ b ≤ a := fun a b => by rw [i_lt, i_le]; omega
        by_cases s : y (3 + k) 2 + 1 < y 1 3
        · refine ⟨nI (k + 1), va_up y (3 + k) (upd (y (3 + k)) 2 (y (3 + k) 2 + 1)), nI (k + 1), up2 q 13 k (q 13 k + 1), fun g => ?_, fun g => ?_, by omega, rfl, rfl, ?_⟩
          · rw [if_neg z, bd_some, if_neg i10]
            simp only [pX3_cool, lt_eq, bd_some]
            rw [if_pos (by simpa [upd] using s), bd_some]
          · rw [bd_some, if_neg i10, if_neg z, up2_same, show up2 q 13 k (q 13 k + 1) 2 3 = q 2 3 from up2_row (by omega), ← e3, ← hK.2.2.1, if_neg (by rw [← nle]; exact fun h => h s)]
          · obtain ⟨r1, r2, r3, r4, r5⟩ := ket_upd (d' := va_up y (3 + k) (upd (y (3 + k)) 2 (y (3 + k) 2 + 1))) (m' := up2 q 13 k (q 13 k + 1)) hQ hO hL hC kl hku (fun o ho => by rw [vu_rw, if_neg ho]) (by simp [vu_rw, upd]) (by simpa [vu_rw, upd] using hR.2.1) (by simp [vu_rw, up2_at, upd, hK.2.1, hK.2.2.1]) (fun o _ h2 => by rw [up2_rw, if_neg h2]) (fun o i hi => by rw [up2_at, if_neg (fun z => hi z.2)])
            exact ⟨r1, r2, r3, r4, hS.tr r5⟩
        · refine ⟨nI (k + 1), va_up y (3 + k) (upd (upd (upd (y (3 + k)) 2 (y (3 + k) 2 + 1)) 1 (imax 0 (y (3 + k) 1 - 1))) 2 0), nI (k + 1), up2 (up2 (up2 q 13 k (q 13 k + 1)) 12 k (imax 0 (y (3 + k) 1 - 1))) 13 k 0, fun g => ?_, fun g => ?_, by omega, rfl, rfl, ?_⟩
          · rw [if_neg z, bd_some, if_neg i10]
            simp only [pX3_cool, lt_eq, bd_some]
            rw [if_neg (by simpa [upd] using s), bd_some]
            simp [upd]
          · rw [bd_some, if_neg i10, if_neg z, up2_same, show up2 q 13 k (q 13 k + 1) 2 3 = q 2 3 from up2_row (by omega), ← e3, ← hK.2.2.1, if_pos (by rw [← nle]; exact s), show up2 q 13 k (y (3 + k) 2 + 1) 12 k = q 12 k from up2_row (by omega), ← hK.2.1, max0 hR.2.1 (by decide)]
            split <;> rfl
          · have mx : rng (imax 0 (y (3 + k) 1 - 1)) 0 10 := by
              rw [max0 hR.2.1 (by decide)]
              obtain ⟨w, -, w10, kw⟩ := hR.2.1
              rw [kw]
              rcases Nat.eq_zero_or_pos w with rfl | p
              · exact ⟨0, by omega, by omega, rfl⟩
              · obtain ⟨j, rfl⟩ : ∃ j, w = j + 1 := ⟨w - 1, by omega⟩
                rw [if_neg (nI_nle p (by omega)), nI_pred]
                exact ⟨j, by omega, by omega, rfl⟩
            obtain ⟨r1, r2, r3, r4, r5⟩ := ket_upd (d' := va_up y (3 + k) (upd (upd (upd (y (3 + k)) 2 (y (3 + k) 2 + 1)) 1 (imax 0 (y (3 + k) 1 - 1))) 2 0)) (m' := up2 (up2 (up2 q 13 k (q 13 k + 1)) 12 k (imax 0 (y (3 + k) 1 - 1))) 13 k 0) hQ hO hL hC kl hku (fun o ho => by rw [vu_rw, if_neg ho]) (by simp [vu_rw, upd]) (by simpa [vu_rw, upd] using mx) (by simp [vu_rw, up2_at, upd]) (fun o h1 h2 => by rw [up2_rw, if_neg h2, up2_rw, if_neg h1, up2_rw, if_neg h2]) (fun o i hi => by rw [up2_at, if_neg (fun z => hi z.2), up2_at, if_neg (fun z => hi z.2), up2_at, if_neg (fun z => hi z.2)])
            exact ⟨r1, r2, r3, r4, hS.tr r5⟩
      · refine ⟨nI (k + 1), y, nI (k + 1), q, fun g => ?_, fun g => ?_, by omega, rfl, rfl, hQ, hO, hL, hC, hS⟩
        · rw [if_neg z, X3_isFree_f f, bd_some, if_pos rfl]
        · rw [X7_isFree_f kl hK ht f, bd_some, if_pos rfl]
