/-! PURE 9: a day that agrees with a day; how the line forms, who goes off -/
def EQD (n : Nat) (d d' : Mem) : Prop := d' 0 4 = d 0 4 ∧ d' 0 6 = d 0 6 ∧ (∀ i, i < 8 → d' 1 i = d 1 i) ∧ (∀ j, j < n → ∀ i, i < 7 → d' (5 + j) i = d (5 + j) i) ∧ ∀ i, i < 5 → d' 3 i = d 3 i ∧ d' 4 i = d 4 i
def EQM (m m' : Mem) : Prop := m' 0 15 = m 0 15 ∧ m' 0 16 = m 0 16 ∧ (∀ o i, 2 ≤ o → o < 10 → i < 8 → m' o i = m o i) ∧ ∀ o i, 11 ≤ o → o < 16 → i < 2 → m' o i = m o i
theorem EQM.rf {m : Mem} : EQM m m := ⟨rfl, rfl, fun _ _ _ _ _ => rfl, fun _ _ _ _ _ => rfl⟩
theorem EQD.rf {n : Nat} {d : Mem} : EQD n d d := ⟨rfl, rfl, fun _ _ => rfl, fun _ _ _ _ => rfl, fun _ _ => ⟨rfl, rfl⟩⟩
theorem DQ.cg {n : Nat} {d d' m m' : Mem} (h : DQ n d m) (e : EQD n d d') (f : EQM m m') : DQ n d' m' := by
  obtain ⟨h1, h2, h3, h4, h5, h6, h7, h8⟩ := h
  obtain ⟨e1, e2, e3, e4, e5⟩ := e
  obtain ⟨f1, f2, f3, f4⟩ := f
  refine ⟨h1, e1.trans h2, f1.trans h3, by rw [e2, f2]; exact h4, fun k hk => by rw [e3 k hk, f3 2 k (by omega) (by omega) hk]; exact h5 k hk, fun j hj => ?_, ?_, ?_⟩
  · unfold wtd
    rw [e4 j hj 0 (by omega), e4 j hj 1 (by omega), e4 j hj 2 (by omega), e4 j hj 3 (by omega), e4 j hj 4 (by omega), e4 j hj 5 (by omega), e4 j hj 6 (by omega), f3 3 j (by omega) (by omega) (by omega), f3 4 j (by omega) (by omega) (by omega), f3 5 j (by omega) (by omega) (by omega), f3 6 j (by omega) (by omega) (by omega), f3 7 j (by omega) (by omega) (by omega), f3 8 j (by omega) (by omega) (by omega), f3 9 j (by omega) (by omega) (by omega)]
    exact h6 j hj
  · unfold DKr
    rw [(e5 0 (by omega)).1, (e5 1 (by omega)).1, (e5 2 (by omega)).1, (e5 3 (by omega)).1, (e5 4 (by omega)).1, e2, f4 11 0 (by omega) (by omega) (by omega), f4 12 0 (by omega) (by omega) (by omega), f4 13 0 (by omega) (by omega) (by omega), f4 14 0 (by omega) (by omega) (by omega), f4 15 0 (by omega) (by omega) (by omega)]
    exact h7
  · unfold DKr
    rw [(e5 0 (by omega)).2, (e5 1 (by omega)).2, (e5 2 (by omega)).2, (e5 3 (by omega)).2, (e5 4 (by omega)).2, e2, f4 11 1 (by omega) (by omega) (by omega), f4 12 1 (by omega) (by omega) (by omega), f4 13 1 (by omega) (by omega) (by omega), f4 14 1 (by omega) (by omega) (by omega), f4 15 1 (by omega) (by omega) (by omega)]
    exact h8
theorem SRg.cg {s s' : Rw} (h : SRg s) (e : ∀ i, i < 8 → s' i = s i) : SRg s' := by
  unfold SRg kts at h ⊢
  rw [e 0 (by omega), e 1 (by omega), e 2 (by omega), e 3 (by omega), e 4 (by omega), e 5 (by omega), e 6 (by omega), e 7 (by omega)]
  exact h
theorem CRg.cg {t : Nat} {s s' : Rw} (h : CRg t s) (e : ∀ i, i < 7 → s' i = s i) : CRg t s' := by
  unfold CRg at h ⊢
  rw [e 0 (by omega), e 1 (by omega), e 2 (by omega), e 3 (by omega), e 4 (by omega), e 5 (by omega), e 6 (by omega)]
  exact h
theorem DOK.cg {n t : Nat} {d d' : Mem} (h : DOK n t d) (e : EQD n d d') : DOK n t d' := by
  obtain ⟨h1, h2, h3, h4, h5, h6, h7⟩ := h
  obtain ⟨e1, e2, e3, e4, e5⟩ := e
  refine ⟨e2.trans h1, h2, h3.cg e3, fun j hj => (h4 j hj).cg (e4 j hj), ?_, ?_, ?_⟩
  · unfold KRg
    rw [(e5 0 (by omega)).1, (e5 1 (by omega)).1, (e5 3 (by omega)).1]
    exact h5
  · unfold KRg
    rw [(e5 0 (by omega)).2, (e5 1 (by omega)).2, (e5 3 (by omega)).2]
    exact h6
  · rw [e3 7 (by omega), (e5 0 (by omega)).2, (e5 1 (by omega)).2, (e5 2 (by omega)).2, (e5 3 (by omega)).2]
    exact h7
/-- what a stretch of a day keeps -/
def ST (d m d' m' : Mem) : Prop := FD d d' ∧ FM m m' ∧ (d 0 7 = m 0 18 → d' 0 7 = m' 0 18)
theorem ST.rf {d m : Mem} : ST d m d m := ⟨FD.rf, FM.rf, id⟩
theorem ST.tr {d m d' m' e p : Mem} (h : ST d m d' m') (g : ST d' m' e p) : ST d m e p := ⟨h.1.tr g.1, h.2.1.tr g.2.1, fun q => g.2.2 (h.2.2 q)⟩
theorem lineIs_app {f : Nat → Int32} {l : List Nat} {j : Nat} (h : lineIs f l) (h2 : f l.length = nI j) : lineIs f (l ++ [j]) := by
  intro k hk
  rw [List.length_append, List.length_singleton] at hk
  by_cases e : k = l.length
  · subst e
    rw [List.getElem_append_right (Nat.le_refl _)]
    simpa using h2
  · rw [List.getElem_append_left (by omega)]
    exact h k (by omega)
theorem lineIs_upd {f : Nat → Int32} {l : List Nat} {v : Int32} (h : lineIs f l) : lineIs (upd f l.length v) l := by
  intro k hk
  rw [pk_un (by omega)]
  exact h k hk
/-- one more in the line -/
theorem lineup_upd {n t j : Nat} {d m : Mem} {l : List Nat} (hQ : DQ n d m) (hO : DOK n t d) (hL : LM n d m l) (hC : LC d l) (hj : j < n) (hst : d (5 + j) 5 = 0) (hmn : d (5 + j) 2 = d 0 6) :
    ∃ d' m', d' = up2 (up2 (up2 d (5 + j) 5 1) 2 l.length (nI j)) 0 5 (nI (l.length + 1)) ∧ m' = up2 (up2 (up2 m 8 j 1) 10 l.length (nI j)) 0 17 (nI (l.length + 1)) ∧ DQ n d' m' ∧ DOK n t d' ∧ LM n d' m' (l ++ [j]) ∧ LC d' (l ++ [j]) ∧ ST d m d' m' ∧ ∀ i, i ≠ j → d' (5 + i) = d (5 + i) := by
  refine ⟨_, _, rfl, rfl, ?_⟩
  generalize hd' : up2 (up2 (up2 d (5 + j) 5 1) 2 l.length (nI j)) 0 5 (nI (l.length + 1)) = d'
  generalize hm' : up2 (up2 (up2 m 8 j 1) 10 l.length (nI j)) 0 17 (nI (l.length + 1)) = m'
  have a0 : ∀ i, i ≠ 5 → d' 0 i = d 0 i := fun i hi => by
    rw [← hd', up2_col hi, up2_row (by omega), up2_row (by omega)]
  have a05 : d' 0 5 = nI (l.length + 1) := by rw [← hd', up2_same]
  have a1 : ∀ o, o ≠ 0 → o ≠ 2 → o < 5 → d' o = d o := fun o h1 h2 h3 => by
    rw [← hd', up2_rw, if_neg h1, up2_rw, if_neg h2, up2_rw, if_neg (by omega)]
  have a2 : d' 2 = upd (d 2) l.length (nI j) := by
    rw [← hd', up2_rw, if_neg (by omega), up2_rw, if_pos rfl, up2_rw, if_neg (by omega)]
  have a5 : ∀ i, d' (5 + i) = if i = j then upd (d (5 + j)) 5 1 else d (5 + i) := fun i => by
    rw [← hd', up2_rw, if_neg (by omega), up2_rw, if_neg (by omega), up2_rw]
    by_cases e : i = j
    · rw [if_pos (by omega), if_pos e]
    · rw [if_neg (by omega), if_neg e]
  have b0 : ∀ i, i ≠ 17 → m' 0 i = m 0 i := fun i hi => by
    rw [← hm', up2_col hi, up2_row (by omega), up2_row (by omega)]
  have b017 : m' 0 17 = nI (l.length + 1) := by rw [← hm', up2_same]
  have b1 : ∀ o, o ≠ 0 → o ≠ 8 → o ≠ 10 → m' o = m o := fun o h1 h2 h3 => by
    rw [← hm', up2_rw, if_neg h1, up2_rw, if_neg h3, up2_rw, if_neg h2]
  have b8 : m' 8 = upd (m 8) j 1 := by rw [← hm', up2_rw, if_neg (by omega), up2_rw, if_neg (by omega), up2_rw, if_pos rfl]
  have b10 : m' 10 = upd (m 10) l.length (nI j) := by rw [← hm', up2_rw, if_neg (by omega), up2_rw, if_pos rfl, up2_rw, if_neg (by omega)]
  obtain ⟨h8, hk1, hk2, ht, hs, hCr, hK0, hK1⟩ := hQ
  obtain ⟨o1, o2, o3, o4, o5, o6, o7⟩ := hO
  obtain ⟨l1, l2, l3, l4⟩ := hL
  obtain ⟨c1, c2⟩ := hC
  have nj : j ∉ l := fun h => by
    have := ((l4 j).mp h).2
    rw [hst] at this
    exact absurd this (by decide)
  have kk : ∀ k, k < 2 → DKr d m k → DKr d' m' k := fun k hk h => by
    unfold DKr at h ⊢
    rw [a1 (3 + k) (by omega) (by omega) (by omega), a0 6 (by omega), b1 11 (by omega) (by omega) (by omega), b1 12 (by omega) (by omega) (by omega), b1 13 (by omega) (by omega) (by omega), b1 14 (by omega) (by omega) (by omega), b1 15 (by omega) (by omega) (by omega)]
    exact h
  refine ⟨⟨h8, ?_, ?_, ?_, ?_, ?_, kk 0 (by omega) hK0, kk 1 (by omega) hK1⟩, ⟨?_, o2, ?_, ?_, ?_, ?_, ?_⟩, ⟨?_, ?_, ?_, ?_⟩, ⟨?_, ?_⟩, ⟨⟨?_, ?_, ?_⟩, ⟨?_, ?_, ?_⟩, ?_⟩, ?_⟩
  · rw [a0 4 (by omega)]; exact hk1
  · rw [b0 15 (by omega)]; exact hk2
  · rw [a0 6 (by omega), b0 16 (by omega)]; exact ht
  · rw [a1 1 (by omega) (by omega) (by omega), b1 2 (by omega) (by omega) (by omega)]; exact hs
  · intro i hi
    obtain ⟨g1, g2, g3, g4, g5, g6, g7⟩ := hCr i hi
    rw [a5, b1 3 (by omega) (by omega) (by omega), b1 4 (by omega) (by omega) (by omega), b1 5 (by omega) (by omega) (by omega), b1 6 (by omega) (by omega) (by omega), b1 7 (by omega) (by omega) (by omega), b1 9 (by omega) (by omega) (by omega), b8]
    by_cases e : i = j
    · subst e
      rw [if_pos rfl]
      have g8 : m 9 i = 0 := by rw [g7]; simp [wtd, hst]
      refine ⟨by simpa [upd] using g1, by simpa [upd] using g2, by simpa [upd] using g3, by simpa [upd] using g4, by simpa [upd] using g5, by simp [upd], by simp [upd, wtd, g8]⟩
    · rw [if_neg e, pk_un e]
      exact ⟨g1, g2, g3, g4, g5, g6, g7⟩
  · rw [a0 6 (by omega)]; exact o1
  · rw [a1 1 (by omega) (by omega) (by omega)]; exact o3
  · intro i hi
    rw [a5]
    by_cases e : i = j
    · subst e
      rw [if_pos rfl]
      obtain ⟨q1, q2, q3, q4, q5, q6, q7, q8⟩ := o4 i hi
      refine ⟨by simpa [upd] using q1, by simpa [upd] using q2, by simpa [upd] using q3, by simpa [upd] using q4, by simpa [upd] using q5, by simp [upd], fun _ => ⟨t, Nat.le_refl _, ?_⟩, fun h => ?_⟩
      · simp only [upd, if_neg (show ¬ 2 = 5 by omega)]
        rw [hmn, o1]
      · simp [upd] at h
    · rw [if_neg e]
      exact o4 i hi
  · rw [a1 3 (by omega) (by omega) (by omega)]; exact o5
  · rw [a1 4 (by omega) (by omega) (by omega)]; exact o6
  · rw [a1 1 (by omega) (by omega) (by omega), a1 4 (by omega) (by omega) (by omega)]; exact o7
  · rw [b017, List.length_append, List.length_singleton]
  · rw [b10]
    exact lineIs_app (lineIs_upd l2) pk_us
  · exact List.nodup_append.mpr ⟨l3, List.nodup_cons.mpr ⟨List.not_mem_nil, List.nodup_nil⟩, fun a ha b hb => by
      rw [List.mem_singleton] at hb
      rintro rfl
      exact nj (hb ▸ ha)⟩
  · intro i
    rw [List.mem_append, List.mem_singleton, l4 i, a5]
    by_cases e : i = j
    · subst e
      simp [upd, hj]
    · simp [e]
  · rw [a05, List.length_append, List.length_singleton]
  · rw [a2]
    exact lineIs_app (lineIs_upd c2) pk_us
  · exact a1 1 (by omega) (by omega) (by omega)
  · exact a0 4 (by omega)
  · intro i k hk
    rw [a5]
    by_cases e : i = j
    · subst e
      rw [if_pos rfl, pk_un (by omega)]
    · rw [if_neg e]
  · intro o h1 h2
    exact b1 o (by omega) (by omega) (by omega)
  · intro o h1
    exact b1 o (by omega) (by omega) (by omega)
  · intro k _ h2 _
    exact b0 k h2
  · rw [a0 7 (by omega), b0 18 (by omega)]
    exact id
  · intro i hi
    rw [a5, if_neg hi]
/-- does one of the line go off? -/
def gof (d : Mem) (j : Nat) : Bool := !decide (d 0 6 - d (5 + j) 2 ≤ d (5 + j) 4)
