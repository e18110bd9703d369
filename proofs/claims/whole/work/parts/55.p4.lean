/-! PURE 4: up to how many cups; how long it takes -/
theorem i_lt (x y : Int32) : x < y ↔ x.toInt < y.toInt := Int32.lt_iff_toInt_lt
theorem i_le (x y : Int32) : x ≤ y ↔ x.toInt ≤ y.toInt := Int32.le_iff_toInt_le
theorem rng_of {x : Int32} {lo hi : Nat} (h1 : (lo : Int) ≤ x.toInt) (h2 : x.toInt ≤ hi) (h3 : hi < 2 ^ 31) : rng x lo hi := by
  refine ⟨x.toInt.toNat, by omega, by omega, ?_⟩
  apply Int32.toInt_inj.mp
  rw [nI_toInt (by omega)]
  omega
theorem rng.int {x : Int32} {lo hi : Nat} (h : rng x lo hi) (h3 : hi < 2 ^ 31) : (lo : Int) ≤ x.toInt ∧ x.toInt ≤ hi := by
  obtain ⟨k, h1, h2, rfl⟩ := h
  rw [nI_toInt (by omega)]
  omega
theorem max_eq (w a : Int32) : (if w ≤ a then a else w) = imax w a := by
  unfold imax
  by_cases h : w < a
  · rw [if_pos h, if_pos (by rw [i_le]; rw [i_lt] at h; omega)]
  · rw [if_neg h]
    by_cases h2 : w ≤ a
    · rw [if_pos h2]
      apply Int32.toInt_inj.mp
      rw [i_le] at h2
      rw [i_lt] at h
      omega
    · rw [if_neg h2]
theorem min_eq (h x : Int32) : (if x ≤ h then x else h) = imin h x := by
  unfold imin
  by_cases g : x < h
  · rw [if_pos g, if_pos (by rw [i_le]; rw [i_lt] at g; omega)]
  · rw [if_neg g]
    by_cases h2 : x ≤ h
    · rw [if_pos h2]
      apply Int32.toInt_inj.mp
      rw [i_le] at h2
      rw [i_lt] at g
      omega
    · rw [if_neg h2]
theorem up_rng {h w a : Int32} (hh : rng h 2 11) (hw : rng w 1 3) : rng (imin h (imax w a)) 1 11 := by
  have e1 := hh.int (by decide)
  have e2 := hw.int (by decide)
  unfold imin imax
  by_cases c : w < a
  · rw [if_pos c]
    rw [i_lt] at c
    by_cases c2 : a < h
    · rw [if_pos c2]
      rw [i_lt] at c2
      exact rng_of (by omega) (by omega) (by decide)
    · rw [if_neg c2]
      exact rng_of (by omega) (by omega) (by decide)
  · rw [if_neg c]
    by_cases c2 : w < h
    · rw [if_pos c2]
      exact rng_of (by omega) (by omega) (by decide)
    · rw [if_neg c2]
      exact rng_of (by omega) (by omega) (by decide)
theorem inLine_eq {fu n : Nat} {d m : Mem} {l : List Nat} (hQ : DQ n d m) (hL : LM n d m l) (hfu : 8 < fu) : ∃ v, pX2_wantsInLine fu d = some v ∧ pX7_wantsInLine fu m = some v := by
  obtain ⟨h8, hk, hk2, ht, hs, hC, -, -⟩ := hQ
  have hlen := hL.len
  obtain ⟨l1, l2, l3, l4⟩ := hL
  refine ⟨_, X2_wantsInLine_eq hk h8 (by omega), ?_⟩
  rw [X7_wantsInLine_eq l1 l2 (fun j hj => by have := ((l4 j).mp hj).1; omega) (by omega) (by omega), sumN_getD, sum_line (n := n) _ l l3 (fun j hj => ((l4 j).mp hj).1)]
  congr 1
  refine sumN_congr (fun j hj => ?_)
  by_cases e : d (5 + j) 5 = 1
  · rw [if_pos e, if_pos ((l4 j).mpr ⟨hj, e⟩), (hC j hj).2.2.2.1]
  · rw [if_neg e, if_neg (fun q => e ((l4 j).mp q).2)]
theorem soon_eq {fu n j : Nat} {d m : Mem} (hQ : DQ n d m) (hj : j < n) (hfu : 8 < fu) : ∃ v, pX2_wantsToCome fu d (d 0 6 + d (5 + j) 1) = some v ∧ pX7_wantsSoon fu m (m 4 j) = some v := by
  obtain ⟨h8, hk, hk2, ht, hs, hC, -, -⟩ := hQ
  refine ⟨_, X2_wantsToCome_eq hk h8 (by omega) _, ?_⟩
  rw [X7_wantsSoon_eq hk2 h8 (by omega)]
  congr 1
  refine sumN_congr (fun i hi => ?_)
  rw [(hC i hi).2.2.2.2.2.1, (hC i hi).2.2.1, (hC i hi).2.2.2.1, ht, (hC j hj).2.1]
theorem kind_c {a : Nat} (h : a ≤ 6) : a = 0 ∨ a = 1 ∨ a = 2 ∨ a = 3 ∨ a = 4 ∨ a = 5 ∨ a = 6 := by omega
theorem upTo_eq {fu n t j a : Nat} {d m : Mem} {l : List Nat} (hQ : DQ n d m) (hO : DOK n t d) (hL : LM n d m l) (hj : j < n) (ha : a ≤ 6) (hfu : 8 < fu) : ∃ v, pX2_upTo fu d j (nI a) = some v ∧ pX7_upTo fu m (nI j) (nI a) = some v ∧ rng v 1 11 := by
  have hj8 : j < 8 := Nat.lt_of_lt_of_le hj hQ.1
  obtain ⟨v1, e1, e2⟩ := inLine_eq hQ hL hfu
  obtain ⟨v2, e3, e4⟩ := soon_eq hQ hj hfu
  obtain ⟨h8, hk, hk2, ht, hs, hC, -, -⟩ := hQ
  have key : ∃ aim, pX2_upTo fu d j (nI a) = some (imin (d 1 0) (imax (d (5 + j) 3) aim)) ∧ pX7_cupsBy fu m (nI j) (nI a) = some aim := by
    unfold pX2_upTo pX7_cupsBy
    have c0 := hs 0 (by omega)
    have c6 := hs 6 (by omega)
    have w0 := (hC j hj).2.2.2.1
    have f0 := (hC j hj).2.1
    rcases kind_c ha with rfl | rfl | rfl | rfl | rfl | rfl | rfl
    · refine ⟨d (5 + j) 3 + 1, ?_, ?_⟩
      · simp only [show nI 0 = 0 from rfl, jn1_eq, ckk_ok hj8, lt_eq]
        rfl
      · simp only [show nI 0 = 0 from rfl, ck_ok hj8 (show 8 < 2 ^ 31 by decide), nI_cl (show j < 2 ^ 31 by omega), if_true, w0]
    · refine ⟨d (5 + j) 3, ?_, ?_⟩
      · simp only [show nI 1 = 1 from rfl, jn1_eq, ckk_ok hj8, lt_eq]
        rfl
      · simp only [show nI 1 = 1 from rfl, ck_ok hj8 (show 8 < 2 ^ 31 by decide), nI_cl (show j < 2 ^ 31 by omega), w0]
        rfl
    · refine ⟨d 1 0, ?_, ?_⟩
      · simp only [show nI 2 = 2 from rfl, jn1_eq, ckk_ok hj8, lt_eq]
        rfl
      · simp only [show nI 2 = 2 from rfl, c0]
        rfl
    · refine ⟨v1, ?_, ?_⟩
      · simp only [show nI 3 = 3 from rfl, jn1_eq, ckk_ok hj8, lt_eq, e1, bd_some]
        rfl
      · simp only [show nI 3 = 3 from rfl, e2, bd_some]
        rfl
    · refine ⟨v1 + v2, ?_, ?_⟩
      · simp only [show nI 4 = 4 from rfl, jn1_eq, ckk_ok hj8, lt_eq, e1, e3, bd_some]
        rfl
      · simp only [show nI 4 = 4 from rfl, ck_ok hj8 (show 8 < 2 ^ 31 by decide), nI_cl (show j < 2 ^ 31 by omega), e2, e4, bd_some]
        rfl
    · refine ⟨d 1 6, ?_, ?_⟩
      · simp only [show nI 5 = 5 from rfl, jn1_eq, ckk_ok hj8, lt_eq]
        rfl
      · simp only [show nI 5 = 5 from rfl, c6]
        rfl
    · refine ⟨d (5 + j) 1, ?_, ?_⟩
      · simp only [show nI 6 = 6 from rfl, jn1_eq, ckk_ok hj8, lt_eq]
        rfl
      · simp only [show nI 6 = 6 from rfl, ck_ok hj8 (show 8 < 2 ^ 31 by decide), nI_cl (show j < 2 ^ 31 by omega), f0]
        rfl
  obtain ⟨aim, k1, k2⟩ := key
  refine ⟨_, k1, ?_, up_rng hO.2.2.1.1 (hO.2.2.2.1 j hj).2.2.2.1⟩
  unfold pX7_upTo
  rw [k2, bd_some, ck_ok hj8 (by decide), nI_cl (by omega), ← (hC j hj).2.2.2.1, ← hs 0 (by omega)]
  simp only [jn1_eq]
  rw [ck_ok hj8 (by decide), ← max_eq]
  by_cases c : d (5 + j) 3 ≤ aim
  · rw [if_pos c, if_pos c, ← min_eq]
    split <;> rfl
  · rw [if_neg c, if_neg c, ← min_eq]
    split <;> rfl
/-- how long a kettle is busy -/
def heatN (a b h : Nat) : Nat := if a * b * h = 0 then 1 else (a * b * h + 99) / 100
theorem heat_c {fu a b h : Nat} (ha : a ≤ 24) (hb : b ≤ 10) (hh : h ≤ 20) : pX6_heatingMinutes fu (nI a) (nI b) (nI h) = some (nI (heatN a b h)) := by
  have h1 : a * b ≤ 240 := Nat.mul_le_mul ha hb
  have h2 : a * b * h ≤ 4800 := Nat.mul_le_mul h1 hh
  unfold pX6_heatingMinutes heatN
  simp only [lt_eq, pk_mul]
  by_cases c : a * b * h = 0
  · rw [if_pos c, c, if_pos (by decide)]
    rfl
  · rw [if_neg c, if_neg (nI_nle (by omega) (by omega)), show (99 : Int32) = nI 99 from rfl, nI_add, show (100 : Int32) = nI 100 from rfl, pk_div (by omega) (by omega) (by omega)]
theorem heat_m {fu a b h : Nat} {m : Mem} (hm : m 2 2 = nI h) (ha : a ≤ 24) (hb : b ≤ 10) (hh : h ≤ 20) : pX7_boilTime fu m (nI a) (nI b) = some (nI (heatN a b h)) := by
  have h1 : a * b ≤ 240 := Nat.mul_le_mul ha hb
  have h2 : a * b * h ≤ 4800 := Nat.mul_le_mul h1 hh
  unfold pX7_boilTime heatN
  rw [hm]
  simp only [lt_eq, pk_mul]
  rw [show (99 : Int32) = nI 99 from rfl, nI_add, show (100 : Int32) = nI 100 from rfl, pk_div (by omega) (by omega) (by omega), show (1 : Int32) = nI 1 from rfl]
  by_cases c : a * b * h = 0
  · rw [if_pos c, c]
    rfl
  · rw [if_neg c, if_pos (nI_le (by omega) (by omega))]
theorem heatN_le {a b h : Nat} (ha : a ≤ 24) (hb : b ≤ 10) (hh : h ≤ 20) : heatN a b h ≤ 49 := by
  have h1 : a * b ≤ 240 := Nat.mul_le_mul ha hb
  have h2 : a * b * h ≤ 4800 := Nat.mul_le_mul h1 hh
  unfold heatN
  split <;> omega
