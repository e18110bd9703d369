/-! PURE 29: a statement read in the model -/
def ME (z : Mem) (c : Nat) (T : Nat → Int32) (p : Nat) : Prop := z 0 23 = nI c ∧ z 0 24 = nI p ∧ ∀ i, i < c → z 16 i = T i
/-- a number put at told q -/
def RN (z z' : Mem) (q : Nat) : Prop := (∀ k, k ≠ 24 → z' 0 k = z 0 k) ∧ (∀ o, o ≠ 0 → o ≠ 19 → z' o = z o) ∧ ∀ i, i ≠ q → z' 19 i = z 19 i
/-- told below q kept -/
def RNs (z z' : Mem) (q : Nat) : Prop := (∀ k, k ≠ 24 → z' 0 k = z 0 k) ∧ (∀ o, o ≠ 0 → o ≠ 19 → z' o = z o) ∧ ∀ i, i < q → z' 19 i = z 19 i
theorem RN.s {z z' : Mem} {q r : Nat} (h : RN z z' q) (hr : r ≤ q) : RNs z z' r := ⟨h.1, h.2.1, fun i hi => h.2.2 i (by omega)⟩
theorem RNs.tr {a b d : Mem} {q : Nat} (h : RNs a b q) (g : RNs b d q) : RNs a d q := ⟨fun k hk => (g.1 k hk).trans (h.1 k hk), fun o h1 h2 => (g.2.1 o h1 h2).trans (h.2.1 o h1 h2), fun i hi => (g.2.2 i hi).trans (h.2.2 i hi)⟩
theorem X7_next_eq {fu c p : Nat} {T : Nat → Int32} {z : Mem} (h : ME z c T p) (hc : c ≤ 96) (hp : p < 1000) : pX7_next fu z = some (if p < c then T p else -1) := by
  unfold pX7_next
  rw [h.1, h.2.1]
  by_cases w : p < c
  · rw [if_neg (nI_ge w (by omega)), ck_ok (show p < 96 by omega) (by decide), nI_cl (by omega), if_pos w, h.2.2 p w]
  · rw [if_pos (nI_le (by omega) (by omega)), if_neg w]
theorem ME.adv {z : Mem} {c p : Nat} {T : Nat → Int32} (h : ME z c T p) : ME (up2 z 0 24 (nI (p + 1))) c T (p + 1) := ⟨by rw [up2_col (by omega)]; exact h.1, up2_same _ _ _ _, fun i hi => by rw [up2_row (by omega)]; exact h.2.2 i hi⟩
theorem X7_readsNumber_eq {fu c p q lo k : Nat} {T : Nat → Int32} {z : Mem} (h : ME z c T p) (hc : c ≤ 96) (hp : p < 900) (hq : q < 240) (hk : k ≤ 3) (hlo : lo ≤ 3) (hfu : 20 < fu) :
    ∃ z', pX7_readsNumber fu z (nI q) (nI lo) (nI k) = some (if nd c T k p < lo then 0 else 1, z') ∧ ME z' c T (p + nd c T k p) ∧ z' 19 q = nI (numN T p (nd c T k p)) ∧ RN z z' q := by
  unfold pX7_readsNumber
  simp only [jn1_eq, lt_eq]
  refine csp3 k (fun i (x1 x2 : Int32) (y : Mem) => x1 = nI (numN T p i) ∧ x2 = nI i ∧ ME y c T (p + i) ∧ nd c T k p = i + nd c T (k - i) (p + i) ∧ (∀ k, k ≠ 24 → y 0 k = z 0 k) ∧ (∀ o, o ≠ 0 → y o = z o)) (fun (r : Option (Int32 × Mem)) => ∃ z', r = some (if nd c T k p < lo then 0 else 1, z') ∧ ME z' c T (p + nd c T k p) ∧ z' 19 q = nI (numN T p (nd c T k p)) ∧ RN z z' q) ?_ fu 0 _ _ _ ⟨rfl, rfl, h, by rw [Nat.zero_add, Nat.sub_zero, Nat.add_zero], fun _ _ => rfl, fun _ _ => rfl⟩ (by omega) (by omega)
  rintro i g x1 x2 y i1 ⟨rfl, rfl, h, hn, h0, ho⟩ hcc
  have fin : nd c T k p = i → ∃ z', (ck (nI q) 240 (if nI i < nI lo then some ((0 : Int32), up2 y 19 (nI q).toNatClampNeg (nI (numN T p i))) else some (1, up2 y 19 (nI q).toNatClampNeg (nI (numN T p i))))) = some (if nd c T k p < lo then 0 else 1, z') ∧ ME z' c T (p + nd c T k p) ∧ z' 19 q = nI (numN T p (nd c T k p)) ∧ RN z z' q := by
    intro e
    rw [ck_ok hq (by decide), nI_cl (by omega), e]
    refine ⟨up2 y 19 q (nI (numN T p i)), ?_, ⟨by rw [up2_row (by omega)]; exact h.1, by rw [up2_row (by omega)]; exact h.2.1, fun j hj => by rw [up2_row (by omega)]; exact h.2.2 j hj⟩, up2_same _ _ _ _, fun k hk => by rw [up2_row (by omega)]; exact h0 k hk, fun o h1 h2 => by rw [up_rowo _ _ _ _ _ h2]; exact ho o h1, fun j hj => by rw [up2_col hj, ho 19 (by omega)]⟩
    by_cases w : i < lo
    · rw [if_pos (nI_lt w (by omega)), if_pos w]
    · rw [if_neg (nI_nlt (by omega) (by omega)), if_neg w]
  by_cases w : i < k
  · have e : k - i = (k - (i + 1)) + 1 := by omega
    rw [e, nd] at hn
    rw [if_neg (nI_ge w (by omega)), X7_next_eq h hc (by omega), bd_some, bd_some]
    unfold pX7_isIn
    by_cases d : dgt c T (p + i) = true
    · obtain ⟨d1, d2, d3, t, t1, t2, et⟩ := dgt_t d
      have ev : dv T (p + i) = t - 48 := by
        unfold dv
        rw [et, nI_cl (by omega)]
      rw [if_pos d] at hn
      rw [if_pos d1, if_neg d2, if_neg ((i_nlt 57 (T (p + i))).mpr d3), bd_some, if_neg i10, h.2.1, nI_1, nI_1, et, show (10 : Int32) = nI 10 from rfl, pk_mul, nI_add, show (48 : Int32) = nI 48 from rfl, pk_sub (by omega)]
      refine hcc _ _ _ w ⟨?_, rfl, h.adv, by rw [show p + (i + 1) = p + i + 1 by omega]; omega, fun k hk => by rw [up2_col hk]; exact h0 k hk, fun o hoo => by rw [up_row0 _ _ _ _ hoo]; exact ho o hoo⟩
      rw [numN, ev]
      congr 1
      omega
    · rw [if_neg d] at hn
      have : (if (if p + i < c then T (p + i) else -1) < 48 then some (0 : Int32) else if 57 < (if p + i < c then T (p + i) else -1) then some 0 else some 1) = some 0 := by
        by_cases z : p + i < c
        · rw [if_pos z]
          by_cases q2 : T (p + i) < 48
          · rw [if_pos q2]
          · rw [if_neg q2]
            rcases dgt_f d z with q3 | q3
            · exact absurd q3 q2
            · rw [if_pos ((i_nle (T (p + i)) 57).mp q3)]
        · rw [if_neg z, if_pos (by decide)]
      rw [this, bd_some, if_pos rfl]
      exact fin hn
  · have e : i = k := by omega
    subst e
    rw [Nat.sub_self, show nd c T 0 (p + i) = 0 from rfl] at hn
    rw [if_pos (nI_le (Nat.le_refl _) (by omega))]
    exact fin (by omega)
/-- what the model keeps of a statement at p as its k-th -/
def SI (z : Mem) (c : Nat) (T : Nat → Int32) (k p : Nat) : Prop := z 18 k = nI p ∧ z 17 k = T p ∧ (T p = 115 → z 19 (5 * k) = nI (numN T (p + 1) 1) ∧ z 19 (5 * k + 1) = nI (numN T (p + 3) (nd c T 2 (p + 3)))) ∧
  (T p = 99 → z 19 (5 * k) = nI (numN T (p + 1) 1) ∧ z 19 (5 * k + 1) = nI (numN T (p + 2) 1) ∧ z 19 (5 * k + 2) = nI (numN T (p + 3) 3) ∧ z 19 (5 * k + 3) = nI (numN T (p + 6) 1) ∧ z 19 (5 * k + 4) = nI (numN T (p + 7) 2)) ∧
  (T p = 107 → z 19 (5 * k) = nI (numN T (p + 1) 1) ∧ z 19 (5 * k + 1) = nI (numN T (p + 2) 1) ∧ z 19 (5 * k + 2) = nI (numN T (p + 3) 1))
theorem readsSetting_eq {fu c p q : Nat} {T : Nat → Int32} {z : Mem} (h : ME z c T p) (hc : c ≤ 96) (hp : p < 700) (hq : q + 5 < 240) (hfu : 20 < fu) :
    ∃ r z', pX7_readsSetting fu z (nI q) = some (r, z') ∧ RNs z z' q ∧ ((r = 0 ∧ ME z' c T (if nd c T 1 p = 1 then (if sgn c T (p + 1) 61 = true then p + 2 else p + 1) else p) ∧ (nd c T 1 p = 1 → sgn c T (p + 1) 61 = true → nd c T 2 (p + 2) = 0)) ∨
      (r = 1 ∧ nd c T 1 p = 1 ∧ sgn c T (p + 1) 61 = true ∧ ¬ nd c T 2 (p + 2) = 0 ∧ ME z' c T (p + 2 + nd c T 2 (p + 2)) ∧ z' 19 q = nI (numN T p 1) ∧ z' 19 (q + 1) = nI (numN T (p + 2) (nd c T 2 (p + 2))))) := by
  unfold pX7_readsSetting
  obtain ⟨z1, e1, h1, t1, f1⟩ := X7_readsNumber_eq (fu := fu) (q := q) (lo := 1) (k := 1) h hc (by omega) (by omega) (by omega) (by omega) hfu
  have e1 : pX7_readsNumber fu z (nI q) 1 1 = _ := e1
  rw [e1, bd2_some]
  by_cases b1 : nd c T 1 p = 1
  · rw [b1] at h1 t1
    rw [b1, if_neg (show ¬ (1 : Nat) < 1 by omega), if_neg i10, X7_next_eq h1 hc (by omega), bd_some, if_pos (show (1 : Nat) = 1 from rfl)]
    by_cases b2 : sgn c T (p + 1) 61 = true
    · obtain ⟨c1, c2⟩ := sgn_iff.mp b2
      obtain ⟨z3, e3, h3, t3, f3⟩ := X7_readsNumber_eq (fu := fu) (q := q + 1) (lo := 1) (k := 2) h1.adv hc (by omega) (by omega) (by omega) (by omega) hfu
      have e3 : pX7_readsNumber fu (up2 z1 0 24 (nI (p + 1 + 1))) (nI (q + 1)) 1 2 = _ := e3
      have fa : RNs z1 (up2 z1 0 24 (nI (p + 1 + 1))) q := ⟨fun k hk => up2_col hk, fun o h1 _ => up_row0 _ _ _ _ h1, fun i _ => by rw [up2_row (by omega)]⟩
      have fall : RNs z z3 q := ((f1.s (Nat.le_refl _)).tr fa).tr (f3.s (by omega))
      have tq : z3 19 q = nI (numN T p 1) := by rw [f3.2.2 q (by omega), up2_row (by omega)]; exact t1
      rw [if_pos c1, if_pos c2, lt_eq, h1.2.1, nI_1, nI_1, e3, bd2_some]
      by_cases b3 : nd c T 2 (p + 2) = 0
      · have b3' : nd c T 2 (p + 1 + 1) = 0 := b3
        rw [b3'] at h3
        rw [b3', if_pos (show (0 : Nat) < 1 by omega), ckz_0]
        exact ⟨_, _, rfl, fall, Or.inl ⟨rfl, by rw [if_pos b2]; exact h3, fun _ _ => rfl⟩⟩
      · have b3' : ¬ nd c T 2 (p + 1 + 1) < 1 := by rw [show p + 1 + 1 = p + 2 from rfl]; omega
        rw [if_neg b3', ckz_1]
        exact ⟨_, _, rfl, fall, Or.inr ⟨rfl, rfl, b2, b3, h3, tq, t3⟩⟩
    · have : ¬ (if p + 1 < c then T (p + 1) else -1) = 61 := by
        by_cases w : p + 1 < c
        · rw [if_pos w]
          exact fun e => b2 (sgn_iff.mpr ⟨w, e⟩)
        · rw [if_neg w]
          decide
      rw [if_neg this]
      exact ⟨_, _, rfl, f1.s (Nat.le_refl _), Or.inl ⟨rfl, by rw [if_neg b2]; exact h1, fun _ z => absurd z b2⟩⟩
  · have z0 : nd c T 1 p = 0 := by have := nd_le c T 1 p; omega
    rw [z0] at h1
    rw [z0, if_pos (show (0 : Nat) < 1 by omega), if_pos rfl, if_neg (show ¬ (0 : Nat) = 1 by omega)]
    exact ⟨_, _, rfl, f1.s (Nat.le_refl _), Or.inl ⟨rfl, h1, fun w => absurd w (by omega)⟩⟩
theorem readsComer_eq {fu c p q : Nat} {T : Nat → Int32} {z : Mem} (h : ME z c T p) (hc : c ≤ 96) (hp : p < 700) (hq : q + 5 < 240) (hfu : 20 < fu) :
    ∃ r z', pX7_readsComer fu z (nI q) = some (r, z') ∧ RNs z z' q ∧ ((r = 0 ∧ ¬ nd c T 8 p = 8 ∧ ME z' c T (p + nd c T 8 p)) ∨
      (r = 1 ∧ nd c T 8 p = 8 ∧ ME z' c T (p + 8) ∧ z' 19 q = nI (numN T p 1) ∧ z' 19 (q + 1) = nI (numN T (p + 1) 1) ∧ z' 19 (q + 2) = nI (numN T (p + 2) 3) ∧ z' 19 (q + 3) = nI (numN T (p + 5) 1) ∧ z' 19 (q + 4) = nI (numN T (p + 6) 2))) := by
  unfold pX7_readsComer
  have a1 := nd_add c T 7 1 p
  have a2 := nd_add c T 6 1 (p + 1)
  have a3 := nd_add c T 3 3 (p + 2)
  have a4 := nd_add c T 2 1 (p + 5)
  have l1 := nd_le c T 1 p
  have l2 := nd_le c T 1 (p + 1)
  have l3 := nd_le c T 3 (p + 2)
  have l4 := nd_le c T 1 (p + 5)
  have l5 := nd_le c T 2 (p + 6)
  simp only [show 1 + 7 = 8 from rfl, show 1 + 6 = 7 from rfl, show 3 + 3 = 6 from rfl, show 1 + 2 = 3 from rfl] at a1 a2 a3 a4
  simp only [show p + 1 + 1 = p + 2 from rfl] at a2
  simp only [show p + 2 + 3 = p + 5 from rfl] at a3
  simp only [show p + 5 + 1 = p + 6 from rfl] at a4
  obtain ⟨z1, e1, h1, t1, f1⟩ := X7_readsNumber_eq (fu := fu) (q := q) (lo := 1) (k := 1) h hc (by omega) (by omega) (by omega) (by omega) hfu
  have e1 : pX7_readsNumber fu z (nI q) 1 1 = _ := e1
  rw [e1, bd2_some]
  by_cases b1 : nd c T 1 p = 1
  · rw [b1] at h1 t1
    rw [if_pos b1] at a1
    obtain ⟨z2, e2, h2, t2, f2⟩ := X7_readsNumber_eq (fu := fu) (q := q + 1) (lo := 1) (k := 1) h1 hc (by omega) (by omega) (by omega) (by omega) hfu
    have e2 : pX7_readsNumber fu z1 (nI (q + 1)) 1 1 = _ := e2
    have g2 := (f1.s (Nat.le_refl q)).tr (f2.s (by omega))
    rw [b1, if_neg (show ¬ (1 : Nat) < 1 by omega), if_neg i10, nI_1, e2, bd2_some]
    by_cases b2 : nd c T 1 (p + 1) = 1
    · rw [b2] at h2 t2
      rw [if_pos b2] at a2
      obtain ⟨z3, e3, h3, t3, f3⟩ := X7_readsNumber_eq (fu := fu) (q := q + 2) (lo := 3) (k := 3) h2 hc (by omega) (by omega) (by omega) (by omega) hfu
      have e3 : pX7_readsNumber fu z2 (nI (q + 2)) 3 3 = _ := e3
      have g3 := g2.tr (f3.s (by omega))
      rw [b2, if_neg (show ¬ (1 : Nat) < 1 by omega), if_neg i10, show (2 : Int32) = nI 2 from rfl, nI_add, e3, bd2_some]
      have h3 : ME z3 c T (p + 2 + nd c T 3 (p + 2)) := h3
      have t3 : z3 19 (q + 2) = nI (numN T (p + 2) (nd c T 3 (p + 2))) := t3
      rw [show p + 1 + 1 = p + 2 from rfl]
      by_cases b3 : nd c T 3 (p + 2) = 3
      · rw [b3] at h3 t3
        rw [if_pos b3] at a3
        obtain ⟨z4, e4, h4, t4, f4⟩ := X7_readsNumber_eq (fu := fu) (q := q + 3) (lo := 1) (k := 1) h3 hc (by omega) (by omega) (by omega) (by omega) hfu
        have e4 : pX7_readsNumber fu z3 (nI (q + 3)) 1 1 = _ := e4
        have g4 := g3.tr (f4.s (by omega))
        rw [b3, if_neg (show ¬ (3 : Nat) < 3 by omega), if_neg i10, show (3 : Int32) = nI 3 from rfl, nI_add, e4, bd2_some]
        have h4 : ME z4 c T (p + 5 + nd c T 1 (p + 5)) := h4
        have t4 : z4 19 (q + 3) = nI (numN T (p + 5) (nd c T 1 (p + 5))) := t4
        rw [show p + 2 + 3 = p + 5 from rfl]
        by_cases b4 : nd c T 1 (p + 5) = 1
        · rw [b4] at h4 t4
          rw [if_pos b4] at a4
          obtain ⟨z5, e5, h5, t5, f5⟩ := X7_readsNumber_eq (fu := fu) (q := q + 4) (lo := 2) (k := 2) h4 hc (by omega) (by omega) (by omega) (by omega) hfu
          have e5 : pX7_readsNumber fu z4 (nI (q + 4)) (nI 2) (nI 2) = _ := e5
          have g5 := g4.tr (f5.s (by omega))
          rw [b4, if_neg (show ¬ (1 : Nat) < 1 by omega), if_neg i10, show (4 : Int32) = nI 4 from rfl, nI_add, e5, bd2_some]
          have h5 : ME z5 c T (p + 6 + nd c T 2 (p + 6)) := h5
          have t5 : z5 19 (q + 4) = nI (numN T (p + 6) (nd c T 2 (p + 6))) := t5
          rw [show p + 5 + 1 = p + 6 from rfl]
          by_cases b5 : nd c T 2 (p + 6) = 2
          · rw [b5] at h5 t5
            rw [b5, if_neg (show ¬ (2 : Nat) < 2 by omega), if_neg i10]
            refine ⟨_, _, rfl, g5, Or.inr ⟨rfl, by omega, h5, ?_, ?_, ?_, ?_, t5⟩⟩
            · rw [f5.2.2 _ (by omega), f4.2.2 _ (by omega), f3.2.2 _ (by omega), f2.2.2 _ (by omega)]; exact t1
            · rw [f5.2.2 _ (by omega), f4.2.2 _ (by omega), f3.2.2 _ (by omega)]; exact t2
            · rw [f5.2.2 _ (by omega), f4.2.2 _ (by omega)]; exact t3
            · rw [f5.2.2 _ (by omega)]; exact t4
          · rw [if_pos (show nd c T 2 (p + 6) < 2 by omega), if_pos rfl]
            refine ⟨_, _, rfl, g5, Or.inl ⟨rfl, by omega, ?_⟩⟩
            rw [show p + nd c T 8 p = p + 6 + nd c T 2 (p + 6) by omega]
            exact h5
        · rw [if_neg b4] at a4
          rw [if_pos (show nd c T 1 (p + 5) < 1 by omega), if_pos rfl]
          refine ⟨_, _, rfl, g4, Or.inl ⟨rfl, by omega, ?_⟩⟩
          rw [show p + nd c T 8 p = p + 5 + nd c T 1 (p + 5) by omega]
          exact h4
      · rw [if_neg b3] at a3
        rw [if_pos (show nd c T 3 (p + 2) < 3 by omega), if_pos rfl]
        refine ⟨_, _, rfl, g3, Or.inl ⟨rfl, by omega, ?_⟩⟩
        rw [show p + nd c T 8 p = p + 2 + nd c T 3 (p + 2) by omega]
        exact h3
    · rw [if_neg b2] at a2
      rw [if_pos (show nd c T 1 (p + 1) < 1 by omega), if_pos rfl]
      refine ⟨_, _, rfl, g2, Or.inl ⟨rfl, by omega, ?_⟩⟩
      rw [show p + nd c T 8 p = p + 1 + nd c T 1 (p + 1) by omega]
      exact h2
  · rw [if_neg b1] at a1
    rw [if_pos (show nd c T 1 p < 1 by omega), if_pos rfl]
    refine ⟨_, _, rfl, f1.s (Nat.le_refl _), Or.inl ⟨rfl, by omega, ?_⟩⟩
    rw [a1]
    exact h1
theorem readsKind_eq {fu c p q : Nat} {T : Nat → Int32} {z : Mem} {K : Int32 → Mem → Option (Int32 × Mem)} (h : ME z c T p) (hc : c ≤ 96) (hp : p < 700) (hq : q + 5 < 240) (hfu : 20 < fu) :
    ∃ r z', (bd2 (pX7_readsNumber fu z (nI q) 1 1) fun r20 y21 =>
        if r20 = 0 then
          K 0 y21
        else
          bd2 (pX7_readsNumber fu y21 (nI q + 1) 1 1) fun r24 y25 =>
          if r24 = 0 then
            K 0 y25
          else
            bd2 (pX7_readsNumber fu y25 (nI q + 2) 1 1) fun r28 y29 =>
            if r28 = 0 then
              K 0 y29
            else
              K 1 y29) = K r z' ∧ RNs z z' q ∧ ((r = 0 ∧ ¬ nd c T 3 p = 3 ∧ ME z' c T (p + nd c T 3 p)) ∨
      (r = 1 ∧ nd c T 3 p = 3 ∧ ME z' c T (p + 3) ∧ z' 19 q = nI (numN T p 1) ∧ z' 19 (q + 1) = nI (numN T (p + 1) 1) ∧ z' 19 (q + 2) = nI (numN T (p + 2) 1))) := by
  have a1 := nd_add c T 2 1 p
  have a2 := nd_add c T 1 1 (p + 1)
  have l1 := nd_le c T 1 p
  have l2 := nd_le c T 1 (p + 1)
  have l3 := nd_le c T 1 (p + 2)
  simp only [show 1 + 2 = 3 from rfl, show 1 + 1 = 2 from rfl] at a1 a2
  simp only [show p + 1 + 1 = p + 2 from rfl] at a2
  obtain ⟨z1, e1, h1, t1, f1⟩ := X7_readsNumber_eq (fu := fu) (q := q) (lo := 1) (k := 1) h hc (by omega) (by omega) (by omega) (by omega) hfu
  have e1 : pX7_readsNumber fu z (nI q) 1 1 = _ := e1
  rw [e1, bd2_some]
  by_cases b1 : nd c T 1 p = 1
  · rw [b1] at h1 t1
    rw [if_pos b1] at a1
    obtain ⟨z2, e2, h2, t2, f2⟩ := X7_readsNumber_eq (fu := fu) (q := q + 1) (lo := 1) (k := 1) h1 hc (by omega) (by omega) (by omega) (by omega) hfu
    have e2 : pX7_readsNumber fu z1 (nI (q + 1)) 1 1 = _ := e2
    have g2 := (f1.s (Nat.le_refl q)).tr (f2.s (by omega))
    rw [b1, if_neg (show ¬ (1 : Nat) < 1 by omega), if_neg i10, nI_1, e2, bd2_some]
    by_cases b2 : nd c T 1 (p + 1) = 1
    · rw [b2] at h2 t2
      rw [if_pos b2] at a2
      obtain ⟨z3, e3, h3, t3, f3⟩ := X7_readsNumber_eq (fu := fu) (q := q + 2) (lo := 1) (k := 1) h2 hc (by omega) (by omega) (by omega) (by omega) hfu
      have e3 : pX7_readsNumber fu z2 (nI (q + 2)) 1 1 = _ := e3
      have g3 := g2.tr (f3.s (by omega))
      rw [b2, if_neg (show ¬ (1 : Nat) < 1 by omega), if_neg i10, show (2 : Int32) = nI 2 from rfl, nI_add, e3, bd2_some]
      have h3 : ME z3 c T (p + 2 + nd c T 1 (p + 2)) := h3
      have t3 : z3 19 (q + 2) = nI (numN T (p + 2) (nd c T 1 (p + 2))) := t3
      rw [show p + 1 + 1 = p + 2 from rfl]
      by_cases b3 : nd c T 1 (p + 2) = 1
      · rw [b3] at h3 t3
        rw [b3, if_neg (show ¬ (1 : Nat) < 1 by omega), if_neg i10]
        refine ⟨_, _, rfl, g3, Or.inr ⟨rfl, by omega, h3, ?_, ?_, t3⟩⟩
        · rw [f3.2.2 _ (by omega), f2.2.2 _ (by omega)]; exact t1
        · rw [f3.2.2 _ (by omega)]; exact t2
      · rw [if_pos (show nd c T 1 (p + 2) < 1 by omega), if_pos rfl]
        refine ⟨_, _, rfl, g3, Or.inl ⟨rfl, by omega, ?_⟩⟩
        rw [show p + nd c T 3 p = p + 2 + nd c T 1 (p + 2) by omega]
        exact h3
    · rw [if_neg b2] at a2
      rw [if_pos (show nd c T 1 (p + 1) < 1 by omega), if_pos rfl]
      refine ⟨_, _, rfl, g2, Or.inl ⟨rfl, by omega, ?_⟩⟩
      rw [show p + nd c T 3 p = p + 1 + nd c T 1 (p + 1) by omega]
      exact h2
  · rw [if_neg b1] at a1
    rw [if_pos (show nd c T 1 p < 1 by omega), if_pos rfl]
    refine ⟨_, _, rfl, f1.s (Nat.le_refl _), Or.inl ⟨rfl, by omega, ?_⟩⟩
    rw [a1]
    exact h1
/-- the frame of a statement read as the s-th -/
def RS (z z' : Mem) (s : Nat) : Prop := (∀ k, k ≠ 24 → z' 0 k = z 0 k) ∧ (∀ o, o ≠ 0 → o ≠ 17 → o ≠ 18 → o ≠ 19 → z' o = z o) ∧ (∀ i, i ≠ s → z' 17 i = z 17 i ∧ z' 18 i = z 18 i) ∧ ∀ i, i < 5 * s → z' 19 i = z 19 i
theorem semi {c p : Nat} {T : Nat → Int32} {fu : Nat} {z : Mem} (h : ME z c T p) (hc : c ≤ 96) (hp : p < 900) : ∃ z', (bd (pX7_next fu z) fun r14 =>
        if r14 = 59 then
          some ((1 : Int32), up2 z 0 24 ((z 0 24) + 1))
        else
          some (0, z)) = some (if sgn c T p 59 = true then 1 else 0, z') ∧ ME z' c T (if sgn c T p 59 = true then p + 1 else p) ∧ (∀ k, k ≠ 24 → z' 0 k = z 0 k) ∧ ∀ o, o ≠ 0 → z' o = z o := by
  rw [X7_next_eq h hc (by omega), bd_some]
  by_cases b : sgn c T p 59 = true
  · obtain ⟨b1, b2⟩ := sgn_iff.mp b
    rw [if_pos b1, if_pos b2, h.2.1, nI_1, if_pos b, if_pos b]
    exact ⟨_, rfl, h.adv, fun k hk => up2_col hk, fun o ho => up_row0 _ _ _ _ ho⟩
  · have : ¬ (if p < c then T p else -1) = 59 := by
      by_cases w : p < c
      · rw [if_pos w]
        exact fun e => b (sgn_iff.mpr ⟨w, e⟩)
      · rw [if_neg w]
        decide
    rw [if_neg this, if_neg b, if_neg b]
    exact ⟨_, rfl, h, fun _ _ => rfl, fun _ _ => rfl⟩
theorem X7_statement_eq {fu c p s : Nat} {T : Nat → Int32} {z : Mem} (h : ME z c T p) (hs : z 0 25 = nI s) (hs2 : s ≤ 40) (hc : c ≤ 96) (hp : p < 600) (hfu : 20 < fu) :
    ∃ z', pX7_statement fu z = some ((sk c T p).1, z') ∧ ME z' c T (sk c T p).2 ∧ RS z z' s ∧ ((sk c T p).1 = 1 → SI z' c T s p) := by
  unfold pX7_statement
  rw [X7_next_eq h hc (by omega), bd_some]
  simp only [jn1_eq, jn2_eq, lt_eq]
  have hne : ∀ v : Int32, ¬ v = -1 → ((if p < c then T p else -1) = v ↔ sgn c T p v = true) := by
    intro v hv
    rw [sgn_iff]
    by_cases w : p < c
    · rw [if_pos w]
      exact ⟨fun e => ⟨w, e⟩, fun e => e.2⟩
    · rw [if_neg w]
      exact ⟨fun e => absurd e.symm hv, fun e => absurd e.1 w⟩
  have q1 := hne 115 (by decide)
  have q2 := hne 99 (by decide)
  have q3 := hne 107 (by decide)
  generalize hr : (if p < c then T p else -1) = r1 at q1 q2 q3
  obtain ⟨y8, hy8⟩ : ∃ y8, y8 = up2 (up2 (up2 z 17 s r1) 18 s (nI p)) 0 24 (nI (p + 1)) := ⟨_, rfl⟩
  have e8 : (up2 (up2 (up2 z 17 (z 0 25).toNatClampNeg r1) 18 ((up2 z 17 (z 0 25).toNatClampNeg r1) 0 25).toNatClampNeg ((up2 z 17 (z 0 25).toNatClampNeg r1) 0 24)) 0 24 ((up2 (up2 z 17 (z 0 25).toNatClampNeg r1) 18 ((up2 z 17 (z 0 25).toNatClampNeg r1) 0 25).toNatClampNeg ((up2 z 17 (z 0 25).toNatClampNeg r1) 0 24)) 0 24 + 1)) = y8 := by
    rw [up2_row (o := 17) (o' := 0) (by omega), up2_row (o := 17) (o' := 0) (by omega), up2_row (o := 18) (o' := 0) (by omega), up2_row (o := 17) (o' := 0) (by omega), hs, h.2.1, nI_cl (by omega), nI_1, hy8]
  have c1 : ∀ {β : Type} (k : Option β), ck (z 0 25) 48 k = k := fun k => by rw [hs, ck_ok (show s < 48 by omega) (by decide)]
  have c2 : ∀ {β : Type} (k : Option β), ck ((up2 z 17 (z 0 25).toNatClampNeg r1) 0 25) 48 k = k := fun k => by rw [up2_row (by omega), hs, ck_ok (show s < 48 by omega) (by decide)]
  have m8 : ME y8 c T (p + 1) := by
    rw [hy8]
    exact ⟨by rw [up2_col (by omega), up2_row (by omega), up2_row (by omega)]; exact h.1, up2_same _ _ _ _, fun i hi => by rw [up2_row (by omega), up2_row (by omega), up2_row (by omega)]; exact h.2.2 i hi⟩
  have s8 : y8 0 25 = nI s := by rw [hy8, up2_col (by omega), up2_row (by omega), up2_row (by omega)]; exact hs
  have x9 : (5 : Int32) * y8 0 25 = nI (5 * s) := by rw [s8, show (5 : Int32) = nI 5 from rfl, pk_mul]
  have l8 : y8 17 s = r1 ∧ y8 18 s = nI p := by
    rw [hy8]
    exact ⟨by rw [up2_row (by omega), up2_row (by omega), up2_same], by rw [up2_row (by omega), up2_same]⟩
  have f8 : RS z y8 s := by
    rw [hy8]
    exact ⟨fun k hk => by rw [up2_col hk, up2_row (by omega), up2_row (by omega)], fun o h1 h2 h3 h4 => by rw [up_row0 _ _ _ _ h1, up_rowo _ _ _ _ _ h3, up_rowo _ _ _ _ _ h2], fun i hi => ⟨by rw [up2_row (by omega), up2_row (by omega), up2_col hi], by rw [up2_row (by omega), up2_col hi, up2_row (by omega)]⟩, fun i hi => by rw [up2_row (by omega), up2_row (by omega), up2_row (by omega)]⟩
  have fr : ∀ {z2 z3 : Mem}, RNs y8 z2 (5 * s) → (∀ k, k ≠ 24 → z3 0 k = z2 0 k) → (∀ o, o ≠ 0 → z3 o = z2 o) → RS z z3 s := by
    intro z2 z3 g1 g2 g3
    refine ⟨fun k hk => (g2 k hk).trans ((g1.1 k hk).trans (f8.1 k hk)), fun o h1 h2 h3 h4 => (g3 o h1).trans ((g1.2.1 o h1 h4).trans (f8.2.1 o h1 h2 h3 h4)), fun i hi => ⟨?_, ?_⟩, fun i hi => ?_⟩
    · rw [g3 17 (by omega), g1.2.1 17 (by omega) (by omega)]; exact (f8.2.2.1 i hi).1
    · rw [g3 18 (by omega), g1.2.1 18 (by omega) (by omega)]; exact (f8.2.2.1 i hi).2
    · rw [g3 19 (by omega), g1.2.2 i hi]; exact f8.2.2.2 i hi
  have lt8 : ∀ {z2 z3 : Mem}, RNs y8 z2 (5 * s) → (∀ o, o ≠ 0 → z3 o = z2 o) → z3 18 s = nI p ∧ z3 17 s = r1 := by
    intro z2 z3 g1 g3
    exact ⟨by rw [g3 18 (by omega), g1.2.1 18 (by omega) (by omega)]; exact l8.2, by rw [g3 17 (by omega), g1.2.1 17 (by omega) (by omega)]; exact l8.1⟩
  simp only [c1, c2, e8, x9]
  by_cases b1 : r1 = 115
  · have g1 := q1.mp b1
    have eT : T p = 115 := (sgn_iff.mp g1).2
    rw [if_pos b1, if_pos b1]
    obtain ⟨r, z2, e2, n2, hh⟩ := readsSetting_eq (fu := fu) (q := 5 * s) m8 hc (by omega) (by omega) hfu
    rw [e2, bd2_some]
    unfold sk
    rw [if_pos g1]
    rcases hh with ⟨rfl, h2, h3⟩ | ⟨rfl, u1, u2, u3, h2, t1, t2⟩
    · rw [if_pos rfl]
      refine ⟨z2, ?_⟩
      by_cases k1 : nd c T 1 (p + 1) = 1
      · rw [if_pos k1] at h2 ⊢
        by_cases k2 : sgn c T (p + 2) 61 = true
        · have k2' : sgn c T (p + 1 + 1) 61 = true := k2
          have k3 : nd c T 2 (p + 3) = 0 := h3 k1 k2'
          rw [if_pos k2'] at h2
          rw [if_pos k2, if_pos k3]
          exact ⟨rfl, h2, fr n2 (fun _ _ => rfl) (fun _ _ => rfl), fun z => absurd (show (0 : Int32) = 1 from z) (by decide)⟩
        · have k2' : ¬ sgn c T (p + 1 + 1) 61 = true := k2
          rw [if_neg k2'] at h2
          rw [if_neg k2]
          exact ⟨rfl, h2, fr n2 (fun _ _ => rfl) (fun _ _ => rfl), fun z => absurd (show (0 : Int32) = 1 from z) (by decide)⟩
      · rw [if_neg k1] at h2 ⊢
        exact ⟨rfl, h2, fr n2 (fun _ _ => rfl) (fun _ _ => rfl), fun z => absurd (show (0 : Int32) = 1 from z) (by decide)⟩
    · have h2 : ME z2 c T (p + 3 + nd c T 2 (p + 3)) := h2
      have u2 : sgn c T (p + 2) 61 = true := u2
      have u3 : ¬ nd c T 2 (p + 3) = 0 := u3
      have l2 := nd_le c T 2 (p + 3)
      obtain ⟨z3, e3, h3, n3, o3⟩ := semi (fu := fu) h2 hc (by omega)
      rw [if_neg i10, e3, if_pos u1, if_pos u2, if_neg u3]
      by_cases k : sgn c T (p + 3 + nd c T 2 (p + 3)) 59 = true
      · rw [if_pos k] at h3 ⊢
        rw [if_pos k]
        refine ⟨z3, rfl, ?_, fr n2 n3 o3, fun _ => ⟨(lt8 n2 o3).1, ((lt8 n2 o3).2.trans b1).trans eT.symm, fun _ => ⟨by rw [o3 19 (by omega)]; exact t1, by rw [o3 19 (by omega)]; exact t2⟩, fun w => absurd (eT.symm.trans w) (by decide), fun w => absurd (eT.symm.trans w) (by decide)⟩⟩
        rw [show p + 4 + nd c T 2 (p + 3) = p + 3 + nd c T 2 (p + 3) + 1 by omega]
        exact h3
      · rw [if_neg k] at h3 ⊢
        rw [if_neg k]
        exact ⟨z3, rfl, h3, fr n2 n3 o3, fun z => absurd (show (0 : Int32) = 1 from z) (by decide)⟩
  · have g1 : ¬ sgn c T p 115 = true := fun z => b1 (q1.mpr z)
    by_cases b2 : r1 = 99
    · have g2 := q2.mp b2
      have eT : T p = 99 := (sgn_iff.mp g2).2
      rw [if_neg b1, if_pos b2, if_neg b1, if_pos b2]
      obtain ⟨r, z2, e2, n2, hh⟩ := readsComer_eq (fu := fu) (q := 5 * s) m8 hc (by omega) (by omega) hfu
      rw [e2, bd2_some]
      unfold sk
      rw [if_neg g1, if_pos g2]
      rcases hh with ⟨rfl, h3, h2⟩ | ⟨rfl, u1, h2, t1, t2, t3, t4, t5⟩
      · rw [if_pos rfl, if_neg h3]
        exact ⟨z2, rfl, h2, fr n2 (fun _ _ => rfl) (fun _ _ => rfl), fun z => absurd (show (0 : Int32) = 1 from z) (by decide)⟩
      · have h2 : ME z2 c T (p + 9) := h2
        obtain ⟨z3, e3, h3, n3, o3⟩ := semi (fu := fu) h2 hc (by omega)
        rw [if_neg i10, e3, if_pos u1]
        by_cases k : sgn c T (p + 9) 59 = true
        · rw [if_pos k] at h3 ⊢
          rw [if_pos k]
          exact ⟨z3, rfl, h3, fr n2 n3 o3, fun _ => ⟨(lt8 n2 o3).1, ((lt8 n2 o3).2.trans b2).trans eT.symm, fun w => absurd (eT.symm.trans w) (by decide), fun _ => ⟨by rw [o3 19 (by omega)]; exact t1, by rw [o3 19 (by omega)]; exact t2, by rw [o3 19 (by omega)]; exact t3, by rw [o3 19 (by omega)]; exact t4, by rw [o3 19 (by omega)]; exact t5⟩, fun w => absurd (eT.symm.trans w) (by decide)⟩⟩
        · rw [if_neg k] at h3 ⊢
          rw [if_neg k]
          exact ⟨z3, rfl, h3, fr n2 n3 o3, fun z => absurd (show (0 : Int32) = 1 from z) (by decide)⟩
    · have g2 : ¬ sgn c T p 99 = true := fun z => b2 (q2.mpr z)
      by_cases b3 : r1 = 107
      · have g3 := q3.mp b3
        have eT : T p = 107 := (sgn_iff.mp g3).2
        rw [if_neg b1, if_neg b2, if_pos b3, if_neg b1, if_neg b2]
        obtain ⟨r, z2, e2, n2, hh⟩ := readsKind_eq (fu := fu) (q := 5 * s) (K := fun x10 y11 => if x10 = 0 then some ((0 : Int32), y11) else bd (pX7_next fu y11) fun r14 => if r14 = 59 then some (1, up2 y11 0 24 (y11 0 24 + 1)) else some (0, y11)) m8 hc (by omega) (by omega) hfu
        simp only [reduceIte] at e2 ⊢
        rw [e2]
        unfold sk
        rw [if_neg g1, if_neg g2, if_pos g3]
        rcases hh with ⟨rfl, h3, h2⟩ | ⟨rfl, u1, h2, t1, t2, t3⟩
        · rw [if_pos rfl, if_neg h3]
          exact ⟨z2, rfl, h2, fr n2 (fun _ _ => rfl) (fun _ _ => rfl), fun z => absurd (show (0 : Int32) = 1 from z) (by decide)⟩
        · have h2 : ME z2 c T (p + 4) := h2
          obtain ⟨z3, e3, h3, n3, o3⟩ := semi (fu := fu) h2 hc (by omega)
          rw [if_neg i10, e3, if_pos u1]
          by_cases k : sgn c T (p + 4) 59 = true
          · rw [if_pos k] at h3 ⊢
            rw [if_pos k]
            exact ⟨z3, rfl, h3, fr n2 n3 o3, fun _ => ⟨(lt8 n2 o3).1, ((lt8 n2 o3).2.trans b3).trans eT.symm, fun w => absurd (eT.symm.trans w) (by decide), fun w => absurd (eT.symm.trans w) (by decide), fun _ => ⟨by rw [o3 19 (by omega)]; exact t1, by rw [o3 19 (by omega)]; exact t2, by rw [o3 19 (by omega)]; exact t3⟩⟩⟩
          · rw [if_neg k] at h3 ⊢
            rw [if_neg k]
            exact ⟨z3, rfl, h3, fr n2 n3 o3, fun z => absurd (show (0 : Int32) = 1 from z) (by decide)⟩
      · have g3 : ¬ sgn c T p 107 = true := fun z => b3 (q3.mpr z)
        rw [if_neg b1, if_neg b2, if_neg b3]
        unfold sk
        rw [if_neg g1, if_neg g2, if_neg g3]
        exact ⟨z, rfl, h, ⟨fun _ _ => rfl, fun _ _ _ _ _ => rfl, fun _ _ => ⟨rfl, rfl⟩, fun _ _ => rfl⟩, fun z => absurd (show (0 : Int32) = 1 from z) (by decide)⟩
