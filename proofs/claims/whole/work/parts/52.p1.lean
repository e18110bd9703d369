/-! PURE 1: sums over comers -/
def wtd (r : Rw) : Int32 := if r 5 = 2 then r 6 - r 2 else if r 5 = 3 then r 4 else 0
theorem X1_waited_eq (fu : Nat) (r : Rw) : pX1_waited fu r = some (wtd r) := by
  unfold pX1_waited wtd
  split
  · rfl
  · split <;> rfl
theorem sumN_succ (n : Nat) (f : Nat → Int32) : sumN (n + 1) f = sumN n f + f n := rfl
/-- a loop that adds up f over 0 .. n-1, the sum first -/
theorem sum_loop {F : (Int32 → Int32 → Option Int32) → Int32 → Int32 → Option Int32} {n fu : Nat} (f : Nat → Int32) (hfu : n < fu)
    (hs : ∀ (g : Int32 → Int32 → Option Int32) (i : Nat) (x : Int32), i < n → F g x (nI i) = g (x + f i) (nI (i + 1)))
    (he : ∀ (g : Int32 → Int32 → Option Int32) (x : Int32), F g x (nI n) = some x) : zl2 F fu 0 0 = some (sumN n f) := by
  refine zl2_spec (fun k x y => ∃ i, i + k = n ∧ y = nI i ∧ x = sumN i f) _ ?_ fu n 0 0 ⟨0, by omega, nI_0.symm, rfl⟩ hfu
  rintro k x y g ⟨i, hi, rfl, rfl⟩ hg
  by_cases h : i < n
  · rw [hs g i _ h]
    exact hg (k - 1) _ _ (by omega) ⟨i + 1, by omega, rfl, rfl⟩
  · have e : i = n := by omega
    subst e
    exact he g _
theorem X2_comersWith_eq {fu n : Nat} {d : Mem} (hk : d 0 4 = nI n) (hn : n ≤ 8) (hfu : n < fu) (v : Int32) : pX2_comersWith fu d v = some (sumN n (fun j => if d (5 + j) 5 = v then 1 else 0)) := by
  unfold pX2_comersWith
  refine sum_loop _ hfu (fun g i x hi => ?_) (fun g x => ?_)
  · rw [hk, if_neg (nI_ge hi (by omega)), ck_ok (by omega) (by decide), nI_cl (by omega)]
    simp only [lt_eq, nI_1]
    split <;> simp
  · rw [hk, if_pos (nI_le (Nat.le_refl _) (by omega))]
theorem X7_stateMany_eq {fu n : Nat} {m : Mem} (hk : m 0 15 = nI n) (hn : n ≤ 8) (hfu : n < fu) (v : Int32) : pX7_stateMany fu m v = some (sumN n (fun j => if m 8 j = v then 1 else 0)) := by
  unfold pX7_stateMany
  refine sum_loop _ hfu (fun g i x hi => ?_) (fun g x => ?_)
  · rw [hk, if_neg (nI_ge hi (by omega)), ck_ok (by omega) (by decide), nI_cl (by omega)]
    simp only [lt_eq, nI_1]
    split <;> simp
  · rw [hk, if_pos (nI_le (Nat.le_refl _) (by omega))]
theorem X2_allWaited_eq {fu n : Nat} {d : Mem} (hk : d 0 4 = nI n) (hn : n ≤ 8) (hfu : n < fu) : pX2_allWaited fu d = some (sumN n (fun j => wtd (d (5 + j)))) := by
  unfold pX2_allWaited
  refine sum_loop _ hfu (fun g i x hi => ?_) (fun g x => ?_)
  · rw [hk, if_neg (nI_ge hi (by omega)), ck_ok (by omega) (by decide), nI_cl (by omega)]
    simp only [X1_waited_eq, bd_some, lt_eq, nI_1]
  · rw [hk, if_pos (nI_le (Nat.le_refl _) (by omega))]
theorem X7_waitedAll_eq {fu n : Nat} {m : Mem} (hk : m 0 15 = nI n) (hn : n ≤ 8) (hfu : n < fu) : pX7_waitedAll fu m = some (sumN n (fun j => m 9 j)) := by
  unfold pX7_waitedAll
  refine sum_loop _ hfu (fun g i x hi => ?_) (fun g x => ?_)
  · rw [hk, if_neg (nI_ge hi (by omega)), ck_ok (by omega) (by decide), nI_cl (by omega)]
    simp only [lt_eq, nI_1]
  · rw [hk, if_pos (nI_le (Nat.le_refl _) (by omega))]
theorem X2_wantsInLine_eq {fu n : Nat} {d : Mem} (hk : d 0 4 = nI n) (hn : n ≤ 8) (hfu : n < fu) : pX2_wantsInLine fu d = some (sumN n (fun j => if d (5 + j) 5 = 1 then d (5 + j) 3 else 0)) := by
  unfold pX2_wantsInLine
  refine sum_loop _ hfu (fun g i x hi => ?_) (fun g x => ?_)
  · rw [hk, if_neg (nI_ge hi (by omega)), ck_ok (by omega) (by decide), nI_cl (by omega)]
    simp only [lt_eq, nI_1]
    rw [ck_ok (by omega) (by decide)]
    split <;> simp
  · rw [hk, if_pos (nI_le (Nat.le_refl _) (by omega))]
theorem X2_wantsToCome_eq {fu n : Nat} {d : Mem} (hk : d 0 4 = nI n) (hn : n ≤ 8) (hfu : n < fu) (v : Int32) : pX2_wantsToCome fu d v = some (sumN n (fun j => if d (5 + j) 5 = 0 then (if v < d (5 + j) 2 then 0 else d (5 + j) 3) else 0)) := by
  unfold pX2_wantsToCome
  refine sum_loop _ hfu (fun g i x hi => ?_) (fun g x => ?_)
  · rw [hk, if_neg (nI_ge hi (by omega)), ck_ok (by omega) (by decide), nI_cl (by omega)]
    simp only [lt_eq, nI_1]
    rw [ck_ok (by omega) (by decide)]
    split
    · split
      · simp
      · rw [ck_ok (by omega) (by decide)]
    · simp
  · rw [hk, if_pos (nI_le (Nat.le_refl _) (by omega))]
theorem X7_wantsSoon_eq {fu n : Nat} {m : Mem} (hk : m 0 15 = nI n) (hn : n ≤ 8) (hfu : n < fu) (v : Int32) : pX7_wantsSoon fu m v = some (sumN n (fun j => if m 8 j = 0 then (if m 0 16 + v < m 5 j then 0 else m 6 j) else 0)) := by
  unfold pX7_wantsSoon
  refine sum_loop _ hfu (fun g i x hi => ?_) (fun g x => ?_)
  · rw [hk, if_neg (nI_ge hi (by omega)), ck_ok (by omega) (by decide), nI_cl (by omega)]
    simp only [lt_eq, nI_1]
    rw [ck_ok (by omega) (by decide)]
    split
    · split
      · simp
      · rw [ck_ok (by omega) (by decide)]
    · simp
  · rw [hk, if_pos (nI_le (Nat.le_refl _) (by omega))]
/-- a line of comers in a row of a memory -/
def lineIs (f : Nat → Int32) (l : List Nat) : Prop := ∀ (k : Nat) (h : k < l.length), f k = nI l[k]
theorem X7_wantsInLine_eq {fu : Nat} {m : Mem} {l : List Nat} (hk : m 0 17 = nI l.length) (hl : lineIs (m 10) l) (h8 : ∀ j ∈ l, j < 8) (hn : l.length ≤ 8) (hfu : l.length < fu) : pX7_wantsInLine fu m = some (sumN l.length (fun k => m 6 (l.getD k 0))) := by
  unfold pX7_wantsInLine
  refine sum_loop _ hfu (fun g i x hi => ?_) (fun g x => ?_)
  · have hj := h8 _ (List.getElem_mem hi)
    rw [hk, if_neg (nI_ge hi (by omega)), ck_ok (by omega) (by decide), nI_cl (by omega), hl i hi, ck_ok hj (by decide), nI_cl (by omega)]
    simp only [lt_eq, nI_1]
    simp [hi]
  · rw [hk, if_pos (nI_le (Nat.le_refl _) (by omega))]
