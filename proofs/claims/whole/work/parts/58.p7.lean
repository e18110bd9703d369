/-! PURE 7: a step of one of the line, on both sides -/
theorem serve_k {fu n k c : Nat} {d m : Mem} {h8 : n ≤ 8} (hk : k < 2) (hc : c < n) (hr : pX2_firstReady fu d (d (5 + c) 3) = some (some k)) (hh : pX7_hotFor fu m (nI c) = some (nI k)) :
    pX2_serve fu d (nI c) = some (1, up2 (up2 (up2 d (3 + k) 0 (d (3 + k) 0 - d (5 + c) 3)) (5 + c) 5 2) (5 + c) 6 (d 0 6)) ∧ pX7_isServed fu m (nI c) = some (1, up2 (up2 (up2 m 11 k (m 11 k - m 6 c)) 8 c 2) 9 c (m 0 16 - m 5 c)) := by
  have hc8 : c < 8 := by omega
  constructor
  · unfold pX2_serve
    simp only [ck_ok hc8 (show 8 < 2 ^ 31 by decide), nI_cl (show c < 2 ^ 31 by omega), hr, bd_some, oc_some, ckk_ok hk, lt_eq]
    simp only [up2_rw, if_neg (show ¬ 0 = 5 + c by omega), if_neg (show ¬ 0 = 3 + k by omega)]
  · unfold pX7_isServed
    simp only [hh, bd_some, if_neg (nI_pos (show k < 2 ^ 31 by omega)), ck_ok hc8 (show 8 < 2 ^ 31 by decide), ck_ok hk (show 2 < 2 ^ 31 by decide), nI_cl (show c < 2 ^ 31 by omega), nI_cl (show k < 2 ^ 31 by omega), lt_eq]
    simp only [up2_rw, Nat.reduceEqDiff, reduceIte]
theorem step_sim {fu n t c : Nat} {d m : Mem} {l : List Nat} (hQ : DQ n d m) (hO : DOK n t d) (hL : LM n d m l) (hc : c < n) (hst : d (5 + c) 5 = 1) (ht180 : t < 180) (hfu : 8 < fu) :
    ∃ d' m', (pX2_serve fu d (nI c) = some (1, d') ∧ pX7_isServed fu m (nI c) = some (1, m') ∧ STP n t c 1 d m d' m') ∨ (pX2_serve fu d (nI c) = some (0, d) ∧ pX2_boil fu d (nI c) = some d' ∧ pX7_isServed fu m (nI c) = some (0, m') ∧ STP n t c 0 d m d' m') := by
  have hu : kts (d 1) := hO.2.2.1.2.2.2.2.2.2.2
  have hc8 : c < 8 := Nat.lt_of_lt_of_le hc hQ.1
  have hf3 : 3 ≤ fu := by omega
  obtain ⟨r1, r2, r3⟩ := X2_firstReady_eq (fu := fu) hu hf3 (d (5 + c) 3)
  obtain ⟨h1, h2, h3⟩ := X7_hotFor_eq (fu := fu) hQ hu hc hf3
  by_cases c1 : rdy (d 3) (d 0 6) (d (5 + c) 3)
  · obtain ⟨s1, s2⟩ := serve_k (h8 := hQ.1) (show 0 < 2 by omega) hc (r1 c1) (h1 c1)
    exact ⟨_, _, Or.inl ⟨s1, s2, serve_upd hQ hO (by omega) hc hst c1 (by omega)⟩⟩
  · by_cases c2 : d 1 7 = 2 ∧ rdy (d 4) (d 0 6) (d (5 + c) 3)
    · obtain ⟨s1, s2⟩ := serve_k (h8 := hQ.1) (show 1 < 2 by omega) hc (r2 c1 c2.1 c2.2) (h2 c1 c2.1 c2.2)
      exact ⟨_, _, Or.inl ⟨s1, s2, serve_upd hQ hO (by omega) hc hst c2.2 (fun _ => c2.1)⟩⟩
    · have q1 := r3 c1 c2
      have q2 := h3 c1 c2
      have e1 : pX2_serve fu d (nI c) = some (0, d) := by
        unfold pX2_serve
        simp only [ck_ok hc8 (show 8 < 2 ^ 31 by decide), nI_cl (show c < 2 ^ 31 by omega), q1, bd_some, oc_none]
      obtain ⟨f1, f2, f3⟩ := X2_firstFree_eq (fu := fu) hu hf3
      obtain ⟨g0, g4⟩ := X7_freeFor_eq (fu := fu) (c := c) hQ hu hf3
      obtain ⟨w1, w2⟩ := X2_waitsForOwn_eq (fu := fu) hu hf3 (nI c)
      have n9 : (-9 : Int32) < 0 := by decide
      have e2 : ∀ x, pX7_freeFor fu m (nI c) = some x → pX7_isServed fu m (nI c) = if x < 0 then some (0, m) else bd (pX7_putsOn fu m (nI c) x) fun y => some (0, y) := fun x hx => by
        unfold pX7_isServed
        simp only [q2, bd_some, if_pos n9, hx]
      by_cases o : own d (nI c)
      · refine ⟨d, m, Or.inr ⟨e1, ?_, ?_, none_upd hQ hO⟩⟩
        · unfold pX2_boil
          by_cases z1 : fre (d 3) (d 0 6)
          · simp only [f1 z1, bd_some, oc_some, ckk_ok (show 0 < 2 by omega), w1 o, i10, reduceIte]
          · by_cases z2 : d 1 7 = 2 ∧ fre (d 4) (d 0 6)
            · simp only [f2 z1 z2.1 z2.2, bd_some, oc_some, ckk_ok (show 1 < 2 by omega), w1 o, i10, reduceIte]
            · simp only [f3 z1 z2, bd_some, oc_none]
        · rw [e2 _ (g0 o), if_pos n9]
      · obtain ⟨g1, g2, g3⟩ := g4 o
        by_cases z1 : fre (d 3) (d 0 6)
        · obtain ⟨d', m', b1, b2, b3⟩ := boil_sim (k := 0) hQ hO hL (by omega) hc (by omega) ht180 hfu (f1 z1) (w2 o)
          refine ⟨d', m', Or.inr ⟨e1, b1, ?_, b3⟩⟩
          rw [e2 _ (g1 z1), if_neg (by decide), b2, bd_some]
        · by_cases z2 : d 1 7 = 2 ∧ fre (d 4) (d 0 6)
          · obtain ⟨d', m', b1, b2, b3⟩ := boil_sim (k := 1) hQ hO hL (by omega) hc (fun _ => z2.1) ht180 hfu (f2 z1 z2.1 z2.2) (w2 o)
            refine ⟨d', m', Or.inr ⟨e1, b1, ?_, b3⟩⟩
            rw [e2 _ (g2 z1 z2.1 z2.2), if_neg (by decide), b2, bd_some]
          · refine ⟨d, m, Or.inr ⟨e1, ?_, ?_, none_upd hQ hO⟩⟩
            · unfold pX2_boil
              simp only [f3 z1 z2, bd_some, oc_none]
            · rw [e2 _ (g3 z1 z2), if_pos n9]
