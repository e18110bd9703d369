/-! PURE 6: one puts a kettle on; a step of one of the line on both sides -/
theorem boil_upd {n t k c : Nat} {d m d' m' : Mem} {L B : Int32} (hQ : DQ n d m) (hO : DOK n t d) (hk : k < 2) (hku : k = 1 → d 1 7 = 2) (hL : rng L 0 11) (hB : rng B 0 300)
    (a0 : ∀ i, d' 0 i = if i = 7 then d 0 7 + 1 else d 0 i) (a1 : ∀ o, o ≠ 0 → o ≠ 3 + k → d' o = d o) (a2 : d' (3 + k) 0 = L ∧ d' (3 + k) 1 = 10 ∧ d' (3 + k) 2 = 0 ∧ d' (3 + k) 3 = B ∧ d' (3 + k) 4 = nI c)
    (b0 : ∀ i, m' 0 i = if i = 18 then m 0 18 + 1 else m 0 i) (b1 : ∀ o, o ≠ 0 → o < 11 ∨ 16 ≤ o → m' o = m o) (b2 : m' 11 k = L ∧ m' 12 k = 10 ∧ m' 13 k = 0 ∧ m' 14 k = B ∧ m' 15 k = nI c) (b3 : ∀ o i, o ≠ 0 → i ≠ k → m' o i = m o i) :
    STP n t c 0 d m d' m' := by
  obtain ⟨h8, hk1, hk2, ht, hs, hC, hK0, hK1⟩ := hQ
  have hK : ∀ i, i < 2 → DKr d m i := fun i hi => by rcases (show i = 0 ∨ i = 1 by omega) with rfl | rfl <;> assumption
  obtain ⟨o1, o2, o3, o4, o5, o6, o7⟩ := hO
  have hKR : ∀ i, i < 2 → KRg (d (3 + i)) := fun i hi => by rcases (show i = 0 ∨ i = 1 by omega) with rfl | rfl <;> assumption
  have hK' : ∀ i, i < 2 → DKr d' m' i := by
    intro i hi
    by_cases e : i = k
    · subst e
      refine ⟨a2.1.trans b2.1.symm, a2.2.1.trans b2.2.1.symm, a2.2.2.1.trans b2.2.2.1.symm, a2.2.2.2.1.trans b2.2.2.2.1.symm, fun _ => a2.2.2.2.2.trans b2.2.2.2.2.symm⟩
    · obtain ⟨g1, g2, g3, g4, g5⟩ := hK i hi
      unfold DKr
      rw [a1 (3 + i) (by omega) (by omega), a0 6, b3 11 i (by omega) e, b3 12 i (by omega) e, b3 13 i (by omega) e, b3 14 i (by omega) e, b3 15 i (by omega) e]
      exact ⟨g1, g2, g3, g4, g5⟩
  have hKR' : ∀ i, i < 2 → KRg (d' (3 + i)) := by
    intro i hi
    by_cases e : i = k
    · subst e
      unfold KRg
      rw [a2.1, a2.2.1, a2.2.2.2.1]
      exact ⟨hL, ⟨10, by omega, by omega, rfl⟩, hB⟩
    · rw [a1 (3 + i) (by omega) (by omega)]
      exact hKR i hi
  have ac : ∀ j, d' (5 + j) = d (5 + j) := fun j => a1 _ (by omega) (by omega)
  have ad1 : d' 1 = d 1 := a1 1 (by omega) (by omega)
  refine ⟨⟨h8, ?_, ?_, ?_, ?_, ?_, hK' 0 (by omega), hK' 1 (by omega)⟩, ⟨?_, o2, ?_, ?_, hKR' 0 (by omega), hKR' 1 (by omega), ?_⟩, ?_, ?_, ?_, ?_, ?_, ?_, ⟨?_, ?_, ?_⟩, ⟨?_, ?_, ?_⟩⟩
  · rw [a0]; exact hk1
  · rw [b0]; exact hk2
  · rw [a0, b0]; exact ht
  · rw [ad1, b1 2 (by omega) (by omega)]; exact hs
  · intro j hj
    rw [ac, b1 3 (by omega) (by omega), b1 4 (by omega) (by omega), b1 5 (by omega) (by omega), b1 6 (by omega) (by omega), b1 7 (by omega) (by omega), b1 8 (by omega) (by omega), b1 9 (by omega) (by omega)]
    exact hC j hj
  · rw [a0]; exact o1
  · rw [ad1]; exact o3
  · intro j hj
    rw [ac]
    exact o4 j hj
  · rw [ad1]
    intro h
    have e : ¬ 1 = k := fun z => by
      have := hku z.symm
      rw [h] at this
      exact absurd this (by decide)
    rw [show d' 4 = d 4 from a1 (3 + 1) (by omega) (by omega)]
    exact o7 h
  · intro j hj
    rw [ac]
    simp
  · rw [a0]; rfl
  · exact a1 2 (by omega) (by omega)
  · exact b1 10 (by omega) (by omega)
  · rw [b0]; rfl
  · rw [a0, b0]
    intro h
    rw [if_pos rfl, if_pos rfl, h]
  · exact ad1
  · rw [a0]; rfl
  · intro j i hi
    rw [ac]
  · intro o h1 h2
    exact b1 o (by omega) (by omega)
  · intro o h1
    exact b1 o (by omega) (by omega)
  · intro k1 _ _ h3
    rw [b0, if_neg h3]
/-- nothing happens -/
theorem none_upd {n t c : Nat} {d m : Mem} (hQ : DQ n d m) (hO : DOK n t d) : STP n t c 0 d m d m :=
  ⟨hQ, hO, fun j _ => by simp, rfl, rfl, rfl, rfl, id, FD.rf, FM.rf⟩
theorem DQ.kk {n k : Nat} {d m : Mem} (h : DQ n d m) (hk : k < 2) : DKr d m k := by
  rcases (show k = 0 ∨ k = 1 by omega) with rfl | rfl
  · exact h.2.2.2.2.2.2.1
  · exact h.2.2.2.2.2.2.2
theorem DOK.kk {n t k : Nat} {d : Mem} (h : DOK n t d) (hk : k < 2) : KRg (d (3 + k)) := by
  rcases (show k = 0 ∨ k = 1 by omega) with rfl | rfl
  · exact h.2.2.2.2.1
  · exact h.2.2.2.2.2.1
theorem boil_sim {fu n t k c : Nat} {d m : Mem} {l : List Nat} (hQ : DQ n d m) (hO : DOK n t d) (hL : LM n d m l) (hk : k < 2) (hc : c < n) (hku : k = 1 → d 1 7 = 2) (ht180 : t < 180) (hfu : 8 < fu) (hff : pX2_firstFree fu d = some (some k)) (hwo : pX2_waitsForOwn fu d (nI c) = some 0) :
    ∃ d' m', pX2_boil fu d (nI c) = some d' ∧ pX7_putsOn fu m (nI c) (nI k) = some m' ∧ STP n t c 0 d m d' m' := by
  have hc8 : c < 8 := Nat.lt_of_lt_of_le hc hQ.1
  obtain ⟨a, -, a6, ka⟩ := (hO.2.2.2.1 c hc).1
  obtain ⟨v, e1, e2, v1, v0, v11, rfl⟩ := upTo_eq (a := a) hQ hO hL hc a6 hfu
  have hmk := (hQ.2.2.2.2.2.1 c hc).1
  have hK : DKr d m k := hQ.kk hk
  have hKR : KRg (d (3 + k)) := hO.kk hk
  obtain ⟨⟨lv, -, lv11, klv⟩, ⟨w, -, w10, kw⟩, kb⟩ := hKR
  obtain ⟨-, ⟨tap, -, tap9, ktap⟩, ⟨hh, -, hh20, khh⟩, -⟩ := hO.2.2.1
  have kt := hO.1
  have s2 := hQ.2.2.2.2.1 2 (by omega)
  have s1 := hQ.2.2.2.2.1 1 (by omega)
  have kt2 := hQ.2.2.2.1
  unfold pX2_boil pX7_putsOn
  simp only [hff, bd_some, oc_some, ckk_ok hk, hwo, if_true, ck_ok hc8 (show 8 < 2 ^ 31 by decide), nI_cl (show c < 2 ^ 31 by omega), ka, ← hmk, e1, e2, lt_eq, jn2_eq, ck_ok hk (show 2 < 2 ^ 31 by decide), nI_cl (show k < 2 ^ 31 by omega), klv, ← hK.1]
  by_cases hv : v1 ≤ lv
  · simp only [if_pos (nI_le hv (by omega)), pX3_putOn, klv, kw, ← hK.2.1, ← hK.1, show (10 : Int32) = nI 10 from rfl, pk_sub w10, khh, heat_c (show lv ≤ 24 by omega) (show 10 - w ≤ 10 by omega) hh20, heat_m (s2.symm.trans khh) (show lv ≤ 24 by omega) (show 10 - w ≤ 10 by omega) hh20, bd_some, lt_eq]
    refine ⟨_, _, rfl, rfl, ?_⟩
    have hh1 := heatN_le (show lv ≤ 24 by omega) (show 10 - w ≤ 10 by omega) hh20
    refine boil_upd (k := k) (L := nI lv) (B := nI (t + heatN lv (10 - w) hh)) hQ hO hk hku ⟨lv, by omega, by omega, rfl⟩ ⟨_, by omega, by omega, rfl⟩ ?_ ?_ ?_ ?_ ?_ ?_ ?_
    · intro i
      rw [up2_at]
      simp only [vu_rw, if_neg (show ¬ 0 = 3 + k by omega), true_and]
    · intro o h1 h2
      rw [up2_rw, if_neg h1, vu_rw, if_neg h2]
    · simp only [up2_rw, vu_rw, if_neg (show ¬ 3 + k = 0 by omega), if_true, upd]
      simp [klv, kt, nI_add]
      rfl
    · intro i
      simp only [up2_rw]
      simp [upd]
    · intro o h1 h2
      simp only [up2_rw]
      rw [if_neg h1, if_neg (by omega), if_neg (by omega), if_neg (by omega), if_neg (by omega)]
    · simp only [up2_rw]
      simp [upd, ← kt2, kt, nI_add, ← hK.1, klv]
      rfl
    · intro o i h1 h2
      simp only [up2_rw]
      rw [if_neg h1]
      split
      · rename_i h; subst h; simp [upd, h2]
      · split
        · rename_i h; subst h; simp [upd, h2]
        · split
          · rename_i h; subst h; simp [upd, h2]
          · split
            · rename_i h; subst h; simp [upd, h2]
            · rfl
  · have hlv : lv < v1 := by omega
    have nz : ¬ nI v1 = 0 := fun h => by
      have := congrArg Int32.toInt h
      rw [nI_toInt (by omega)] at this
      simp at this
      omega
    have q1 : lv * w ≤ 110 := Nat.mul_le_mul lv11 w10
    have q2 : lv * w / v1 ≤ 10 := by
      rcases Nat.eq_zero_or_pos (lv * w / v1) with h | h
      · omega
      · apply Nat.div_le_of_le_mul
        exact Nat.le_trans (Nat.mul_le_mul (Nat.le_of_lt hlv) w10) (Nat.le_refl _)
    have kd : nI (lv * w) / nI v1 = nI (lv * w / v1) := pk_div (by omega) (by omega) (by omega)
    generalize lv * w / v1 = z at q2 kd
    simp only [if_neg (nI_ge hlv (by omega)), pX3_fill, if_neg (nI_nle (show 0 < v1 by omega) (by omega)), ckn_ok nz, pX3_putOn, klv, kw, ← hK.2.1, ← hK.1, pk_mul, kd, up2_same, up2_rw, vu_rw, upd, if_true, if_neg (show ¬ 1 = 3 + k by omega), if_neg (show ¬ 3 + k = 1 by omega), bd_some, lt_eq]
    have hh1 := heatN_le (show v1 ≤ 24 by omega) (show 10 - z ≤ 10 by omega) hh20
    simp only [show (10 : Int32) = nI 10 from rfl, pk_sub q2, khh, ktap, ← s1, ← s2, reduceIte, Nat.reduceEqDiff, upd, heat_c (show v1 ≤ 24 by omega) (show 10 - z ≤ 10 by omega) hh20, bd_some]
    rw [heat_m (h := hh) (by simp only [up2_rw, upd, reduceIte, Nat.reduceEqDiff]; exact s2.symm.trans khh) (show v1 ≤ 24 by omega) (show 10 - z ≤ 10 by omega) hh20, bd_some]
    refine ⟨_, _, rfl, rfl, ?_⟩
    refine boil_upd (k := k) (L := nI v1) (B := nI (t + tap + heatN v1 (10 - z) hh)) hQ hO hk hku ⟨v1, by omega, by omega, rfl⟩ ⟨_, by omega, by omega, rfl⟩ ?_ ?_ ?_ ?_ ?_ ?_ ?_
    · intro i
      rw [up2_at]
      simp only [vu_rw, if_neg (show ¬ 0 = 3 + k by omega), true_and]
    · intro o h1 h2
      rw [up2_rw, if_neg h1, vu_rw, if_neg h2, vu_rw, if_neg h2]
    · simp only [up2_rw, vu_rw, if_neg (show ¬ 3 + k = 0 by omega), if_true, upd]
      simp [kt, nI_add]
      rfl
    · intro i
      simp only [up2_rw]
      simp [upd]
    · intro o h1 h2
      simp only [up2_rw]
      rw [if_neg h1, if_neg (by omega), if_neg (by omega), if_neg (by omega), if_neg (by omega), if_neg (by omega), if_neg (by omega)]
    · simp only [up2_rw]
      simp [upd, ← kt2, kt, nI_add]
      rfl
    · intro o i h1 h2
      simp only [up2_at]
      simp [h1, h2]
