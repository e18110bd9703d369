/-! PURE 5: one of the line is served, or puts a kettle on -/
theorem up2_rw (m : Mem) (o k : Nat) (v : Int32) (o' : Nat) : up2 m o k v o' = if o' = o then upd (m o) k v else m o' := rfl
theorem vu_rw (m : Mem) (o : Nat) (r : Rw) (o' : Nat) : va_up m o r o' = if o' = o then r else m o' := rfl
/-- what a day's step leaves as it is -/
def FM (m m' : Mem) : Prop := (∀ o, 0 < o → o < 8 → m' o = m o) ∧ (∀ o, 16 ≤ o → m' o = m o) ∧ ∀ k, k ≠ 16 → k ≠ 17 → k ≠ 18 → m' 0 k = m 0 k
def FD (d d' : Mem) : Prop := d' 1 = d 1 ∧ d' 0 4 = d 0 4 ∧ ∀ j i, i < 5 → d' (5 + j) i = d (5 + j) i
theorem FM.rf {m : Mem} : FM m m := ⟨fun _ _ _ => rfl, fun _ _ => rfl, fun _ _ _ _ => rfl⟩
theorem FD.rf {d : Mem} : FD d d := ⟨rfl, rfl, fun _ _ _ => rfl⟩
theorem FM.tr {a b c : Mem} (h : FM a b) (g : FM b c) : FM a c := ⟨fun o h1 h2 => (g.1 o h1 h2).trans (h.1 o h1 h2), fun o h1 => (g.2.1 o h1).trans (h.2.1 o h1), fun k h1 h2 h3 => (g.2.2 k h1 h2 h3).trans (h.2.2 k h1 h2 h3)⟩
theorem FD.tr {a b c : Mem} (h : FD a b) (g : FD b c) : FD a c := ⟨g.1.trans h.1, g.2.1.trans h.2.1, fun j i hi => (g.2.2 j i hi).trans (h.2.2 j i hi)⟩
/-- what is said of a step of one of the line, c, answered r -/
def STP (n t c : Nat) (r : Int32) (d m d' m' : Mem) : Prop := DQ n d' m' ∧ DOK n t d' ∧ (∀ j, j < n → d' (5 + j) 5 = if r = 1 ∧ j = c then 2 else d (5 + j) 5) ∧ d' 0 5 = d 0 5 ∧ d' 2 = d 2 ∧ m' 10 = m 10 ∧ m' 0 17 = m 0 17 ∧ (d 0 7 = m 0 18 → d' 0 7 = m' 0 18) ∧ FD d d' ∧ FM m m'
theorem serve_upd {n t k c : Nat} {d m : Mem} (hQ : DQ n d m) (hO : DOK n t d) (hk : k < 2) (hc : c < n) (hst : d (5 + c) 5 = 1) (hr : rdy (d (3 + k)) (d 0 6) (d (5 + c) 3)) (hku : k = 1 → d 1 7 = 2) :
    STP n t c 1 d m (up2 (up2 (up2 d (3 + k) 0 (d (3 + k) 0 - d (5 + c) 3)) (5 + c) 5 2) (5 + c) 6 (d 0 6)) (up2 (up2 (up2 m 11 k (m 11 k - m 6 c)) 8 c 2) 9 c (m 0 16 - m 5 c)) := by
  generalize hd' : up2 (up2 (up2 d (3 + k) 0 (d (3 + k) 0 - d (5 + c) 3)) (5 + c) 5 2) (5 + c) 6 (d 0 6) = d'
  generalize hm' : up2 (up2 (up2 m 11 k (m 11 k - m 6 c)) 8 c 2) 9 c (m 0 16 - m 5 c) = m'
  have a0 : ∀ o, o < 3 → d' o = d o := fun o ho => by
    rw [← hd']
    simp only [up2_rw, if_neg (show ¬ o = 5 + c by omega), if_neg (show ¬ o = 3 + k by omega)]
  have a3 : ∀ i, i < 2 → d' (3 + i) = if i = k then upd (d (3 + k)) 0 (d (3 + k) 0 - d (5 + c) 3) else d (3 + i) := fun i hi => by
    rw [← hd']
    simp only [up2_rw, if_neg (show ¬ 3 + i = 5 + c by omega)]
    by_cases e : i = k
    · subst e
      rw [if_pos rfl, if_pos rfl]
    · rw [if_neg (by omega), if_neg e]
  have a5 : ∀ j, d' (5 + j) = if j = c then upd (upd (d (5 + c)) 5 2) 6 (d 0 6) else d (5 + j) := fun j => by
    rw [← hd']
    simp only [up2_rw, if_neg (show ¬ 5 + j = 3 + k by omega), if_neg (show ¬ 5 + c = 3 + k by omega)]
    by_cases e : j = c
    · subst e
      simp
    · rw [if_neg (by omega), if_neg (by omega), if_neg e]
  have b : ∀ o, m' o = if o = 9 then upd (m 9) c (m 0 16 - m 5 c) else if o = 8 then upd (m 8) c 2 else if o = 11 then upd (m 11) k (m 11 k - m 6 c) else m o := fun o => by
    rw [← hm']
    simp only [up2_rw]
    by_cases e : o = 9
    · subst e
      simp
    · by_cases e2 : o = 8
      · subst e2
        simp
      · simp [e, e2]
  have b0 : ∀ o, o ≠ 8 → o ≠ 9 → o ≠ 11 → m' o = m o := fun o h1 h2 h3 => by rw [b, if_neg h2, if_neg h1, if_neg h3]
  obtain ⟨h8, hk1, hk2, ht, hs, hC, hK0, hK1⟩ := hQ
  have hK : ∀ i, i < 2 → DKr d m i := fun i hi => by rcases (show i = 0 ∨ i = 1 by omega) with rfl | rfl <;> assumption
  obtain ⟨o1, o2, o3, o4, o5, o6, o7⟩ := hO
  have hKR : ∀ i, i < 2 → KRg (d (3 + i)) := fun i hi => by rcases (show i = 0 ∨ i = 1 by omega) with rfl | rfl <;> assumption
  have hcc := o4 c hc
  obtain ⟨q1, q2, q3, q4, q5, q6, q7, q8⟩ := hcc
  have hC' : DCr n d' m' := by
    intro j hj
    obtain ⟨g1, g2, g3, g4, g5, g6, g7⟩ := hC j hj
    rw [a5]
    by_cases e : j = c
    · subst e
      rw [if_pos rfl, b0 3 (by omega) (by omega) (by omega), b0 4 (by omega) (by omega) (by omega), b0 5 (by omega) (by omega) (by omega), b0 6 (by omega) (by omega) (by omega), b0 7 (by omega) (by omega) (by omega), b 8, b 9]
      refine ⟨by simpa [upd] using g1, by simpa [upd] using g2, by simpa [upd] using g3, by simpa [upd] using g4, by simpa [upd] using g5, by simp [upd], ?_⟩
      simp [upd, wtd, ht, g3]
    · rw [if_neg e, b0 3 (by omega) (by omega) (by omega), b0 4 (by omega) (by omega) (by omega), b0 5 (by omega) (by omega) (by omega), b0 6 (by omega) (by omega) (by omega), b0 7 (by omega) (by omega) (by omega), b 8, b 9]
      refine ⟨g1, g2, g3, g4, g5, by simpa [upd, e] using g6, by simpa [upd, e] using g7⟩
  have hK' : ∀ i, i < 2 → DKr d' m' i := by
    intro i hi
    obtain ⟨g1, g2, g3, g4, g5⟩ := hK i hi
    have gw := (hC c hc).2.2.2.1
    unfold DKr
    rw [a3 i hi, a0 0 (by omega), b 11, b0 12 (by omega) (by omega) (by omega), b0 13 (by omega) (by omega) (by omega), b0 14 (by omega) (by omega) (by omega), b0 15 (by omega) (by omega) (by omega)]
    by_cases e : i = k
    · subst e
      rw [if_pos rfl]
      refine ⟨by simp [upd, g1, gw], by simpa [upd] using g2, by simpa [upd] using g3, by simpa [upd] using g4, by simpa [upd] using g5⟩
    · rw [if_neg e]
      refine ⟨by simpa [upd, e] using g1, g2, g3, g4, g5⟩
  have hKR' : ∀ i, i < 2 → KRg (d' (3 + i)) := by
    intro i hi
    rw [a3 i hi]
    by_cases e : i = k
    · subst e
      rw [if_pos rfl]
      obtain ⟨⟨lv, -, l2, l3⟩, w1, w2⟩ := hKR i hi
      obtain ⟨w, u1, u2, u3⟩ := q4
      have hlw : ¬ lv < w := fun z => hr.2.2 (by rw [l3, u3]; exact nI_lt z (by omega))
      refine ⟨⟨lv - w, Nat.zero_le _, by omega, ?_⟩, by simpa [upd] using w1, by simpa [upd] using w2⟩
      simp only [upd, if_true]
      rw [l3, u3, pk_sub (by omega)]
    · rw [if_neg e]
      exact hKR i hi
  refine ⟨⟨h8, ?_, ?_, ?_, ?_, hC', hK' 0 (by omega), hK' 1 (by omega)⟩, ⟨?_, o2, ?_, ?_, hKR' 0 (by omega), hKR' 1 (by omega), ?_⟩, ?_, ?_, ?_, ?_, ?_, ?_, ⟨?_, ?_, ?_⟩, ⟨?_, ?_, ?_⟩⟩
  · rw [a0 0 (by omega)]; exact hk1
  · rw [b0 0 (by omega) (by omega) (by omega)]; exact hk2
  · rw [a0 0 (by omega), b0 0 (by omega) (by omega) (by omega)]; exact ht
  · rw [a0 1 (by omega), b0 2 (by omega) (by omega) (by omega)]; exact hs
  · rw [a0 0 (by omega)]; exact o1
  · rw [a0 1 (by omega)]; exact o3
  · intro j hj
    rw [a5]
    by_cases e : j = c
    · subst e
      rw [if_pos rfl]
      obtain ⟨cm, c1, c2⟩ := q7 hst
      refine ⟨by simpa [upd] using q1, by simpa [upd] using q2, by simpa [upd] using q3, by simpa [upd] using q4, by simpa [upd] using q5, by simp [upd], by simp [upd], fun _ => ⟨cm, t - cm, by omega, by simpa [upd] using c2, ?_⟩⟩
      simp only [upd, if_true]
      rw [o1, show cm + (t - cm) = t by omega]
    · rw [if_neg e]
      exact o4 j hj
  · rw [a0 1 (by omega)]
    intro h
    have e : ¬ 1 = k := fun z => by
      have := hku z.symm
      rw [h] at this
      exact absurd this (by decide)
    have := a3 1 (by omega)
    rw [if_neg e] at this
    rw [this]
    exact o7 h
  · intro j hj
    rw [a5]
    by_cases e : j = c
    · subst e
      simp [upd]
    · simp [e]
  · rw [a0 0 (by omega)]
  · exact a0 2 (by omega)
  · exact b0 10 (by omega) (by omega) (by omega)
  · rw [b0 0 (by omega) (by omega) (by omega)]
  · rw [a0 0 (by omega), b0 0 (by omega) (by omega) (by omega)]; exact id
  · exact a0 1 (by omega)
  · rw [a0 0 (by omega)]
  · intro j i hi
    rw [a5]
    by_cases e : j = c
    · subst e
      rw [if_pos rfl]
      simp [upd, show ¬ i = 6 by omega, show ¬ i = 5 by omega]
    · rw [if_neg e]
  · intro o h1 h2
    exact b0 o (by omega) (by omega) (by omega)
  · intro o h1
    exact b0 o (by omega) (by omega) (by omega)
  · intro k1 _ _ _
    rw [b0 0 (by omega) (by omega) (by omega)]
