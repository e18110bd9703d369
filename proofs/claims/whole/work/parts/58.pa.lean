/-! PURE 10: those that wait too long go off -/
theorem gof_t {d : Mem} {j : Nat} : gof d j = true ↔ ¬ d 0 6 - d (5 + j) 2 ≤ d (5 + j) 4 := by simp [gof]
theorem gof_f {d : Mem} {j : Nat} : ¬ gof d j = true ↔ d 0 6 - d (5 + j) 2 ≤ d (5 + j) 4 := by simp [gof]
theorem take_s {l : List Nat} {i : Nat} (c : i < l.length) : l.take (i + 1) = l.take i ++ [l[i]] := by rw [List.take_add_one]; simp [c]
theorem mem_take_s {l : List Nat} {i j : Nat} (c : i < l.length) : j ∈ l.take (i + 1) ↔ j ∈ l.take i ∨ j = l[i] := by rw [take_s c, List.mem_append, List.mem_singleton]
theorem X2_lose_eq {fu : Nat} {d : Mem} {l : List Nat} (hL : LC d l) (h8 : l.length ≤ 8) (hj : ∀ j ∈ l, j < 8) (hst : ∀ j ∈ l, d (5 + j) 5 = 1) (hnd : l.Nodup) (hfu : 8 < fu) :
    ∃ d', pX2_loseImpatient fu d = some d' ∧ LC d' (l.filter fun j => !gof d j) ∧ (∀ o, o ≠ 0 → o ≠ 2 → o < 5 → d' o = d o) ∧ (∀ k, k ≠ 5 → d' 0 k = d 0 k) ∧ ∀ j, d' (5 + j) = if j ∈ l ∧ gof d j = true then upd (d (5 + j)) 5 3 else d (5 + j) := by
  unfold pX2_loseImpatient
  rw [← nI_0]
  refine sp2 l.length (fun i (x : Int32) (y : Mem) => i ≤ l.length ∧ x = nI i ∧ (∀ o, o < 5 → y o = d o) ∧ ∀ j, y (5 + j) = if j ∈ l.take i ∧ gof d j = true then upd (d (5 + j)) 5 3 else d (5 + j)) (fun (r : Option Mem) => ∃ d', r = some d' ∧ LC d' (l.filter fun j => !gof d j) ∧ (∀ o, o ≠ 0 → o ≠ 2 → o < 5 → d' o = d o) ∧ (∀ k, k ≠ 5 → d' 0 k = d 0 k) ∧ ∀ j, d' (5 + j) = if j ∈ l ∧ gof d j = true then upd (d (5 + j)) 5 3 else d (5 + j)) ?_ fu 0 _ _ ⟨Nat.zero_le _, rfl, fun _ _ => rfl, fun j => by simp⟩ (by omega) (by omega)
  rintro i x y ⟨h1, rfl, h2, h3⟩
  by_cases c : i < l.length
  · have lj := hj _ (List.getElem_mem c)
    have e0 : y 2 i = nI l[i] := by rw [h2 2 (by omega)]; exact hL.2 i c
    have nt : l[i] ∉ l.take i := fun h => by
      obtain ⟨k, hk, e⟩ := List.mem_take_iff_getElem.mp h
      have := (List.getElem_inj hnd).mp e
      omega
    have ey : y (5 + l[i]) = d (5 + l[i]) := by rw [h3, if_neg (fun z => nt z.1)]
    have y0 := h2 0 (by omega)
    by_cases p : gof d l[i] = true
    · refine Or.inl ⟨c, nI (i + 1), up2 y (5 + l[i]) 5 3, fun g => ?_, by omega, rfl, ?_, ?_⟩
      · rw [y0, hL.1, if_neg (nI_ge c (by omega)), ck_ok (show i < 8 by omega) (by decide), nI_cl (show i < 2 ^ 31 by omega), e0, ck_ok lj (by decide), nI_cl (by omega), ey, if_neg (gof_t.mp p), lt_eq, lt_eq, nI_1]
      · intro o ho
        rw [up2_rw, if_neg (by omega)]
        exact h2 o ho
      · intro j
        rw [up2_rw, ey]
        simp only [mem_take_s c]
        by_cases e : j = l[i]
        · rw [if_pos (by omega), if_pos ⟨Or.inr e, by rw [e]; exact p⟩, e]
        · rw [if_neg (by omega), h3]
          simp [e]
    · refine Or.inl ⟨c, nI (i + 1), y, fun g => ?_, by omega, rfl, h2, ?_⟩
      · rw [y0, hL.1, if_neg (nI_ge c (by omega)), ck_ok (show i < 8 by omega) (by decide), nI_cl (show i < 2 ^ 31 by omega), e0, ck_ok lj (by decide), nI_cl (by omega), ey, if_pos (gof_f.mp p), lt_eq, nI_1]
      · intro j
        rw [h3]
        simp only [mem_take_s c]
        by_cases e : j = l[i]
        · subst e
          rw [if_neg (fun z => p z.2), if_neg (fun z => p z.2)]
        · simp [e]
  · have e : i = l.length := by omega
    subst e
    rw [List.take_length] at h3
    refine Or.inr (fun g => ?_)
    rw [h2 0 (by omega), hL.1, if_pos (nI_le (Nat.le_refl _) (by omega))]
    obtain ⟨d', e1, e2, e3, e4⟩ := X2_closeUp_eq (fu := fu) (d := y) (l := l) ⟨by rw [h2 0 (by omega)]; exact hL.1, by rw [h2 2 (by omega)]; exact hL.2⟩ h8 hj hfu
    rw [e1, bd_some]
    refine ⟨d', rfl, ?_, ?_, ?_, ?_⟩
    · have : (l.filter fun j => decide (y (5 + j) 5 = 1)) = l.filter fun j => !gof d j := by
        refine List.filter_congr (fun j hjl => ?_)
        rw [h3]
        by_cases p : gof d j = true
        · rw [if_pos ⟨hjl, p⟩, p]
          simp [upd]
        · rw [if_neg (fun z => p z.2), hst j hjl]
          simp [p]
      rw [← this]
      exact e2
    · intro o a b c
      rw [e3 o a b, h2 o c]
    · intro k hk
      rw [e4 k hk, h2 0 (by omega)]
    · intro j
      rw [e3 _ (by omega) (by omega), h3]
/-- the day once those are off: class d', model m' -/
theorem lose_rel {n t : Nat} {d m d' m' : Mem} {l : List Nat} (hQ : DQ n d m) (hO : DOK n t d) (hL : LM n d m l)
    (c1 : LC d' (l.filter fun j => !gof d j)) (c2 : ∀ o, o ≠ 0 → o ≠ 2 → o < 5 → d' o = d o) (c3 : ∀ k, k ≠ 5 → d' 0 k = d 0 k) (c4 : ∀ j, d' (5 + j) = if j ∈ l ∧ gof d j = true then upd (d (5 + j)) 5 3 else d (5 + j))
    (m1 : m' 0 17 = nI (l.filter fun j => !gof d j).length) (m2 : lineIs (m' 10) (l.filter fun j => !gof d j)) (m3 : ∀ o, o ≠ 0 → o ≠ 8 → o ≠ 9 → o ≠ 10 → m' o = m o) (m4 : ∀ k, k ≠ 17 → m' 0 k = m 0 k) (m8 : ∀ j, m' 8 j = if j ∈ l ∧ gof d j = true then 3 else m 8 j) (m9 : ∀ j, m' 9 j = if j ∈ l ∧ gof d j = true then m 7 j else m 9 j) :
    DQ n d' m' ∧ DOK n t d' ∧ LM n d' m' (l.filter fun j => !gof d j) ∧ ST d m d' m' := by
  obtain ⟨h8, hk1, hk2, ht, hs, hCr, hK0, hK1⟩ := hQ
  obtain ⟨o1, o2, o3, o4, o5, o6, o7⟩ := hO
  obtain ⟨l1, l2, l3, l4⟩ := hL
  have kk : ∀ k, k < 2 → DKr d m k → DKr d' m' k := fun k hk h => by
    unfold DKr at h ⊢
    rw [c2 (3 + k) (by omega) (by omega) (by omega), c3 6 (by omega), m3 11 (by omega) (by omega) (by omega) (by omega), m3 12 (by omega) (by omega) (by omega) (by omega), m3 13 (by omega) (by omega) (by omega) (by omega), m3 14 (by omega) (by omega) (by omega) (by omega), m3 15 (by omega) (by omega) (by omega) (by omega)]
    exact h
  refine ⟨⟨h8, ?_, ?_, ?_, ?_, ?_, kk 0 (by omega) hK0, kk 1 (by omega) hK1⟩, ⟨?_, o2, ?_, ?_, ?_, ?_, ?_⟩, ⟨m1, m2, l3.filter _, ?_⟩, ⟨?_, ?_, ?_⟩, ⟨?_, ?_, ?_⟩, ?_⟩
  · rw [c3 4 (by omega)]; exact hk1
  · rw [m4 15 (by omega)]; exact hk2
  · rw [c3 6 (by omega), m4 16 (by omega)]; exact ht
  · rw [c2 1 (by omega) (by omega) (by omega), m3 2 (by omega) (by omega) (by omega) (by omega)]; exact hs
  · intro i hi
    obtain ⟨g1, g2, g3, g4, g5, g6, g7⟩ := hCr i hi
    rw [c4, m3 3 (by omega) (by omega) (by omega) (by omega), m3 4 (by omega) (by omega) (by omega) (by omega), m3 5 (by omega) (by omega) (by omega) (by omega), m3 6 (by omega) (by omega) (by omega) (by omega), m3 7 (by omega) (by omega) (by omega) (by omega), m8, m9]
    by_cases e : i ∈ l ∧ gof d i = true
    · rw [if_pos e, if_pos e, if_pos e]
      refine ⟨by simpa [upd] using g1, by simpa [upd] using g2, by simpa [upd] using g3, by simpa [upd] using g4, by simpa [upd] using g5, by simp [upd], ?_⟩
      simp [upd, wtd, g5]
    · rw [if_neg e, if_neg e, if_neg e]
      exact ⟨g1, g2, g3, g4, g5, g6, g7⟩
  · rw [c3 6 (by omega)]; exact o1
  · rw [c2 1 (by omega) (by omega) (by omega)]; exact o3
  · intro i hi
    rw [c4]
    by_cases e : i ∈ l ∧ gof d i = true
    · rw [if_pos e]
      obtain ⟨q1, q2, q3, q4, q5, q6, q7, q8⟩ := o4 i hi
      refine ⟨by simpa [upd] using q1, by simpa [upd] using q2, by simpa [upd] using q3, by simpa [upd] using q4, by simpa [upd] using q5, by simp [upd], fun h => ?_, fun h => ?_⟩
      · simp [upd] at h
      · simp [upd] at h
    · rw [if_neg e]
      exact o4 i hi
  · rw [c2 3 (by omega) (by omega) (by omega)]; exact o5
  · rw [c2 4 (by omega) (by omega) (by omega)]; exact o6
  · rw [c2 1 (by omega) (by omega) (by omega), c2 4 (by omega) (by omega) (by omega)]; exact o7
  · intro j
    rw [List.mem_filter, l4, c4]
    by_cases e : gof d j = true
    · by_cases e2 : j < n ∧ d (5 + j) 5 = 1
      · rw [if_pos ⟨(l4 j).mpr e2, e⟩]
        simp [e, upd]
      · rw [if_neg (fun z => e2 ((l4 j).mp z.1))]
        simp [e]
        intro a b
        exact e2 ⟨a, b⟩
    · rw [if_neg (fun z => e z.2)]
      simp [e]
  · exact c2 1 (by omega) (by omega) (by omega)
  · exact c3 4 (by omega)
  · intro j i hi
    rw [c4]
    split
    · rw [pk_un (by omega)]
    · rfl
  · intro o h1 h2
    exact m3 o (by omega) (by omega) (by omega) (by omega)
  · intro o h1
    exact m3 o (by omega) (by omega) (by omega) (by omega)
  · intro k _ h2 _
    exact m4 k h2
  · rw [c3 7 (by omega), m4 18 (by omega)]
    exact id
