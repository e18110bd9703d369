/-! PURE 16: begin and the cost of a day anew, on both sides -/
def CS (r : Rw) : Prop := rng (r 0) 0 6 ∧ rng (r 1) 0 9 ∧ rng (r 2) 0 119 ∧ rng (r 3) 1 3 ∧ rng (r 4) 0 30
/-- what a day must have to be begun -/
def BQ (n : Nat) (d m : Mem) : Prop := n ≤ 8 ∧ d 0 4 = nI n ∧ m 0 15 = nI n ∧ (∀ k, k < 8 → d 1 k = m 2 k) ∧ SRg (d 1) ∧ ∀ j, j < n → CS (d (5 + j)) ∧ d (5 + j) 0 = m 3 j ∧ d (5 + j) 1 = m 4 j ∧ d (5 + j) 2 = m 5 j ∧ d (5 + j) 3 = m 6 j ∧ d (5 + j) 4 = m 7 j
theorem CRg.cs {t : Nat} {r : Rw} (h : CRg t r) : CS r := ⟨h.1, h.2.1, h.2.2.1, h.2.2.2.1, h.2.2.2.2.1⟩
theorem DAYR.bq {n t : Nat} {d m : Mem} {l : List Nat} (h : DAYR n t d m l) : BQ n d m :=
  ⟨h.1.1, h.1.2.1, h.1.2.2.1, h.1.2.2.2.2.1, h.2.1.2.2.1, fun j hj => ⟨(h.2.1.2.2.2.1 j hj).cs, (h.1.2.2.2.2.2.1 j hj).1, (h.1.2.2.2.2.2.1 j hj).2.1, (h.1.2.2.2.2.2.1 j hj).2.2.1, (h.1.2.2.2.2.2.1 j hj).2.2.2.1, (h.1.2.2.2.2.2.1 j hj).2.2.2.2.1⟩⟩
theorem begin_sim {fu n : Nat} {d m : Mem} (h : BQ n d m) (hfu : 8 < fu) : ∃ d' m', pX2_begin fu d = some d' ∧ pX7_begins fu m = some m' ∧ DAYR n 0 d' m' [] ∧ ST d m d' m' := by
  obtain ⟨n8, h1, h2, h3, h4, h5⟩ := h
  obtain ⟨d', e1, a0, a1, a5, a3⟩ := X2_begin_eq (fu := fu) h1 n8 hfu
  obtain ⟨m', e2, b0, b1, b16, b8, b11⟩ := X7_begins_eq (fu := fu) (m := m) hfu
  have k4 : ∀ i, d' 4 i = if i < 4 then 0 else d 4 i := fun i => a3 1 (by omega) i
  have k3 : ∀ i, d' 3 i = if i < 4 then 0 else d 3 i := fun i => a3 0 (by omega) i
  refine ⟨d', m', e1, e2, ⟨⟨n8, ?_, ?_, ?_, ?_, ?_, ?_, ?_⟩, ⟨?_, by omega, ?_, ?_, ?_, ?_, ?_⟩, fun _ => ?_, ⟨?_, ?_, List.nodup_nil, ?_⟩, ?_, ?_⟩, ⟨a1, ?_, ?_⟩, ⟨b1, b16, ?_⟩, ?_⟩
  · rw [a0, if_neg (by omega), if_neg (by omega)]; exact h1
  · rw [b0, if_neg (by omega), if_neg (by omega)]; exact h2
  · rw [a0, if_neg (by omega), if_pos rfl, b0, if_neg (by omega), if_pos rfl]
  · rw [a1, b1 2 (by omega) (by omega)]; exact h3
  · intro j hj
    obtain ⟨-, g0, g1, g2, g3, g4⟩ := h5 j hj
    rw [a5, if_pos hj, b1 3 (by omega) (by omega), b1 4 (by omega) (by omega), b1 5 (by omega) (by omega), b1 6 (by omega) (by omega), b1 7 (by omega) (by omega), (b8 j (by omega)).1, (b8 j (by omega)).2]
    refine ⟨by simpa [upd] using g0, by simpa [upd] using g1, by simpa [upd] using g2, by simpa [upd] using g3, by simpa [upd] using g4, by simp [upd], by simp [upd, wtd]⟩
  · obtain ⟨c1, c2, c3, c4⟩ := b11 0 (by omega)
    unfold DKr
    rw [c1, c2, c3, c4, a0 6, if_neg (by omega), if_pos rfl]
    refine ⟨k3 0, k3 1, k3 2, k3 3, fun q => ?_⟩
    rw [show d' (3 + 0) 3 = 0 from k3 3] at q
    exact absurd q (by decide)
  · obtain ⟨c1, c2, c3, c4⟩ := b11 1 (by omega)
    unfold DKr
    rw [c1, c2, c3, c4, a0 6, if_neg (by omega), if_pos rfl]
    refine ⟨k4 0, k4 1, k4 2, k4 3, fun q => ?_⟩
    rw [show d' (3 + 1) 3 = 0 from k4 3] at q
    exact absurd q (by decide)
  · rw [a0, if_neg (by omega), if_pos rfl]; rfl
  · rw [a1]; exact h4
  · intro j hj
    obtain ⟨⟨g0, g1, g2, g3, g4⟩, -⟩ := h5 j hj
    rw [a5, if_pos hj]
    refine ⟨by simpa [upd] using g0, by simpa [upd] using g1, by simpa [upd] using g2, by simpa [upd] using g3, by simpa [upd] using g4, by simp [upd], fun h => ?_, fun h => ?_⟩
    · simp [upd] at h
    · simp [upd] at h
  · unfold KRg
    rw [k3 0, k3 1, k3 3]
    exact ⟨⟨0, by omega, by omega, rfl⟩, ⟨0, by omega, by omega, rfl⟩, ⟨0, by omega, by omega, rfl⟩⟩
  · unfold KRg
    rw [k4 0, k4 1, k4 3]
    exact ⟨⟨0, by omega, by omega, rfl⟩, ⟨0, by omega, by omega, rfl⟩, ⟨0, by omega, by omega, rfl⟩⟩
  · intro _
    exact ⟨k4 0, k4 1, k4 2, k4 3⟩
  · exact ⟨k3 0, k3 1, k3 2, k3 3, k4 0, k4 1, k4 2, k4 3⟩
  · rw [b0, if_pos rfl]; rfl
  · intro k hk
    simp at hk
  · intro j
    refine ⟨fun q => absurd q List.not_mem_nil, fun q => ?_⟩
    have := q.2
    rw [a5, if_pos q.1, pk_us] at this
    exact absurd this (by decide)
  · rw [a0, if_pos rfl]; rfl
  · intro k hk
    simp at hk
  · rw [a0, if_neg (by omega), if_neg (by omega)]
  · intro j i hi
    rw [a5]
    split
    · rw [pk_un (by omega)]
    · rfl
  · intro k q1 q2 _
    rw [b0, if_neg q2, if_neg q1]
  · rw [a0, if_neg (by omega), if_neg (by omega), b0, if_neg (by omega), if_neg (by omega)]
    exact id
theorem anew_sim {fu n : Nat} {d m : Mem} (h : BQ n d m) (hfu : 200 < fu) : ∃ c d' m' t' l', c ≤ 20000 ∧ pX5_costAnew fu d = some (nI c, d') ∧ pX7_costAnew fu m = some (nI c, m') ∧ DAYR n t' d' m' l' ∧ FD d d' ∧ FM m m' := by
  obtain ⟨d1, m1, e1, e2, hD, hS⟩ := begin_sim (fu := fu) h (by omega)
  unfold pX5_costAnew pX7_costAnew
  rw [e1, bd_some, e2, bd_some]
  simp only [jn1_eq]
  have key := end_sim (fu := fu) (K := fun y4 => bd (pX2_cost fu y4) fun r9 => some (r9, y4)) (H := fun y3 => bd (pX7_costNow fu y3) fun r5 => some (r5, y3)) (P := fun (a b : Option (Int32 × Mem)) => ∃ c d' m' t' l', c ≤ 20000 ∧ a = some (nI c, d') ∧ b = some (nI c, m') ∧ DAYR n t' d' m' l' ∧ FD d d' ∧ FM m m') hD hfu (by
    intro d' m' t' l' h1 h2 h3 _
    obtain ⟨c, c1, c2, c3⟩ := cost_eq (fu := fu) h1.1 h1.2.1 (by omega)
    exact ⟨c, d', m', t', l', c1, by rw [c2, bd_some], by rw [c3, bd_some], h1, hS.1.tr h2, hS.2.1.tr h3⟩)
  exact key
theorem FD.bq {n : Nat} {d m d' m' : Mem} (h : BQ n d m) (f : FD d d') (g : FM m m') : BQ n d' m' := by
  obtain ⟨n8, h1, h2, h3, h4, h5⟩ := h
  refine ⟨n8, f.2.1.trans h1, (g.2.2 15 (by omega) (by omega) (by omega)).trans h2, by rw [f.1, g.1 2 (by omega) (by omega)]; exact h3, by rw [f.1]; exact h4, fun j hj => ?_⟩
  unfold CS
  rw [f.2.2 j 0 (by omega), f.2.2 j 1 (by omega), f.2.2 j 2 (by omega), f.2.2 j 3 (by omega), f.2.2 j 4 (by omega), g.1 3 (by omega) (by omega), g.1 4 (by omega) (by omega), g.1 5 (by omega) (by omega), g.1 6 (by omega) (by omega), g.1 7 (by omega) (by omega)]
  exact h5 j hj
