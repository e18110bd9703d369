/-! PURE 28: letters: a statement read, in the class and in the model -/
def dgt (c : Nat) (T : Nat → Int32) (p : Nat) : Bool := decide (p < c) && (!decide (T p < 48) && decide (T p ≤ 57))
def sgn (c : Nat) (T : Nat → Int32) (p : Nat) (s : Int32) : Bool := decide (p < c) && decide (T p = s)
def nd (c : Nat) (T : Nat → Int32) : Nat → Nat → Nat
  | 0, _ => 0
  | k + 1, p => if dgt c T p = true then nd c T k (p + 1) + 1 else 0
def dv (T : Nat → Int32) (p : Nat) : Nat := (T p).toNatClampNeg - 48
def numN (T : Nat → Int32) (p : Nat) : Nat → Nat
  | 0 => 0
  | k + 1 => numN T p k * 10 + dv T (p + k)
theorem dgt_t {c p : Nat} {T : Nat → Int32} (h : dgt c T p = true) : p < c ∧ ¬ T p < 48 ∧ T p ≤ 57 ∧ ∃ t, 48 ≤ t ∧ t ≤ 57 ∧ T p = nI t := by
  unfold dgt at h
  simp only [Bool.and_eq_true, decide_eq_true_eq, Bool.not_eq_true', decide_eq_false_iff_not] at h
  obtain ⟨h1, h2, h3⟩ := h
  refine ⟨h1, h2, h3, (T p).toInt.toNat, ?_, ?_, ?_⟩
  · rw [i_lt, show (48 : Int32).toInt = 48 from rfl] at h2
    omega
  · rw [i_le, show (57 : Int32).toInt = 57 from rfl] at h3
    omega
  · rw [i_lt, show (48 : Int32).toInt = 48 from rfl] at h2
    rw [i_le, show (57 : Int32).toInt = 57 from rfl] at h3
    apply Int32.toInt_inj.mp
    rw [nI_toInt (by omega)]
    omega
theorem dgt_f {c p : Nat} {T : Nat → Int32} (h : ¬ dgt c T p = true) : p < c → T p < 48 ∨ ¬ T p ≤ 57 := by
  intro h1
  unfold dgt at h
  simp only [Bool.and_eq_true, decide_eq_true_eq, Bool.not_eq_true', decide_eq_false_iff_not] at h
  by_cases a : T p < 48
  · exact Or.inl a
  · exact Or.inr (fun b => h ⟨h1, a, b⟩)
theorem sgn_iff {c p : Nat} {T : Nat → Int32} {s : Int32} : sgn c T p s = true ↔ p < c ∧ T p = s := by
  unfold sgn
  simp only [Bool.and_eq_true, decide_eq_true_eq]
theorem nd_le (c : Nat) (T : Nat → Int32) : ∀ k p, nd c T k p ≤ k
  | 0, _ => Nat.le_refl 0
  | k + 1, p => by
    unfold nd
    split
    · have := nd_le c T k (p + 1)
      omega
    · omega
theorem nd_add (c : Nat) (T : Nat → Int32) (b : Nat) : ∀ a p, nd c T (a + b) p = if nd c T a p = a then a + nd c T b (p + a) else nd c T a p
  | 0, p => by rw [show nd c T 0 p = 0 from rfl, if_pos rfl, Nat.zero_add, Nat.zero_add, Nat.add_zero]
  | a + 1, p => by
    rw [show a + 1 + b = (a + b) + 1 by omega, nd, nd, nd_add c T b a (p + 1)]
    by_cases d : dgt c T p = true
    · rw [if_pos d, if_pos d]
      by_cases e : nd c T a (p + 1) = a
      · rw [if_pos e, e, if_pos rfl, show p + 1 + a = p + (a + 1) by omega]
        omega
      · rw [if_neg e, if_neg (by omega)]
    · rw [if_neg d, if_neg d, if_neg (by omega)]
theorem nd_c (c : Nat) (T : Nat → Int32) : ∀ k p, 0 < nd c T k p → p + nd c T k p ≤ c
  | 0, p => fun h => absurd h (by rw [show nd c T 0 p = 0 from rfl]; omega)
  | k + 1, p => by
    unfold nd
    by_cases d : dgt c T p = true
    · rw [if_pos d]
      intro _
      have := (dgt_t d).1
      by_cases z : 0 < nd c T k (p + 1)
      · have := nd_c c T k (p + 1) z
        omega
      · omega
    · rw [if_neg d]
      intro h
      omega
theorem nd_dgt (c : Nat) (T : Nat → Int32) : ∀ k p i, i < nd c T k p → dgt c T (p + i) = true
  | 0, p, i => fun h => absurd h (by rw [show nd c T 0 p = 0 from rfl]; omega)
  | k + 1, p, i => by
    unfold nd
    by_cases d : dgt c T p = true
    · rw [if_pos d]
      intro h
      cases i with
      | zero => exact d
      | succ i =>
        have := nd_dgt c T k (p + 1) i (by omega)
        rw [show p + (i + 1) = p + 1 + i by omega]
        exact this
    · rw [if_neg d]
      intro h
      omega
theorem numN_lt {c : Nat} {T : Nat → Int32} {p : Nat} : ∀ k, (∀ i, i < k → dgt c T (p + i) = true) → numN T p k < 10 ^ k
  | 0, _ => by rw [numN]; omega
  | k + 1, h => by
    have h1 := numN_lt k (fun i hi => h i (by omega))
    obtain ⟨-, -, -, t, t1, t2, e⟩ := dgt_t (h k (by omega))
    have : dv T (p + k) ≤ 9 := by
      unfold dv
      rw [e, nI_cl (by omega)]
      omega
    rw [numN, Nat.pow_succ]
    omega
def LE (y : Mem) (c : Nat) (T : Nat → Int32) (p : Nat) : Prop := y 0 1 = nI c ∧ y 0 2 = nI p ∧ y 1 = T
theorem LE.at {y : Mem} {c p q : Nat} {T : Nat → Int32} (h : LE y c T p) : LE (up2 y 0 2 (nI q)) c T q := ⟨by rw [up2_col (by omega)]; exact h.1, up2_same _ _ _ _, by rw [up2_rw, if_neg (by omega)]; exact h.2.2⟩
theorem X4_letterAt_eq {fu c p q : Nat} {T : Nat → Int32} {y : Mem} (h : LE y c T p) (hc : c ≤ 96) (hq : q < 1000) : pX4_letterAt fu y (nI q) = some (if q < c then T q else -9) := by
  unfold pX4_letterAt
  rw [h.1, h.2.2, if_neg (nI_pos (by omega))]
  by_cases w : q < c
  · rw [if_neg (nI_ge w (by omega)), if_neg (show ¬ 96 ≤ nI q from nI_ge (b := 96) (by omega) (by decide)), ck_ok (show q < 96 by omega) (by decide), nI_cl (by omega), if_pos w]
  · rw [if_pos (nI_le (by omega) (by omega)), if_neg w]
theorem X4_skip_eq {fu c p : Nat} {T : Nat → Int32} {y : Mem} {s : Int32} (h : LE y c T p) (hc : c ≤ 96) (hp : p < 900) (hs : ¬ (-9 : Int32) = s) : ∃ y', pX4_skip fu y s = some (if sgn c T p s = true then 1 else 0, y') ∧ LE y' c T (if sgn c T p s = true then p + 1 else p) := by
  unfold pX4_skip
  rw [h.2.1, X4_letterAt_eq h hc (by omega), bd_some]
  simp only [jn1_eq, lt_eq]
  by_cases b : sgn c T p s = true
  · obtain ⟨b1, b2⟩ := sgn_iff.mp b
    rw [if_pos b1, if_pos b2, if_neg i10, ckz_1, if_pos b, if_pos b, nI_1]
    exact ⟨_, rfl, h.at⟩
  · have : ¬ (if p < c then T p else -9) = s := by
      by_cases w : p < c
      · rw [if_pos w]
        exact fun e => b (sgn_iff.mpr ⟨w, e⟩)
      · rw [if_neg w]
        exact hs
    rw [if_neg this]
    simp only [if_true, ckz_0, if_neg b, Int32.add_zero]
    exact ⟨_, rfl, h.at⟩
theorem X4_skipDigits_eq {fu c p k : Nat} {T : Nat → Int32} {y : Mem} (h : LE y c T p) (hc : c ≤ 96) (hp : p < 800) (hk : k ≤ 8) (hfu : 20 < fu) : ∃ y', pX4_skipDigits fu y (nI k) = some (if nd c T k p = k then 1 else 0, y') ∧ LE y' c T (p + nd c T k p) := by
  unfold pX4_skipDigits
  refine csp2 k (fun i (x : Int32) (y : Mem) => x = nI i ∧ LE y c T (p + i) ∧ nd c T k p = i + nd c T (k - i) (p + i)) (fun (r : Option (Int32 × Mem)) => ∃ y', r = some (if nd c T k p = k then 1 else 0, y') ∧ LE y' c T (p + nd c T k p)) ?_ fu 0 _ _ ⟨rfl, h, by rw [Nat.zero_add, Nat.sub_zero, Nat.add_zero]⟩ (by omega) (by omega)
  rintro i g x y i1 ⟨rfl, h, hn⟩ hcc
  by_cases w : i < k
  · have e : k - i = (k - (i + 1)) + 1 := by omega
    rw [e, nd] at hn
    rw [if_neg (nI_ge w (by omega)), h.2.1, X4_letterAt_eq h hc (by omega), bd_some, bd_some]
    by_cases d : dgt c T (p + i) = true
    · obtain ⟨d1, d2, d3, -⟩ := dgt_t d
      rw [if_pos d] at hn
      rw [if_pos d1, if_neg d2, if_pos d3, lt_eq, lt_eq, nI_1, nI_1]
      exact hcc _ _ w ⟨rfl, h.at, by rw [show p + (i + 1) = p + i + 1 by omega]; omega⟩
    · rw [if_neg d] at hn
      rw [hn, if_neg (show ¬ i + 0 = k by omega)]
      by_cases z : p + i < c
      · rw [if_pos z]
        rcases dgt_f d z with q | q
        · rw [if_pos q]
          exact ⟨_, rfl, h⟩
        · by_cases q2 : T (p + i) < 48
          · rw [if_pos q2]
            exact ⟨_, rfl, h⟩
          · rw [if_neg q2, if_neg q]
            exact ⟨_, rfl, h⟩
      · rw [if_neg z, if_pos (by decide)]
        exact ⟨_, rfl, h⟩
  · have e : i = k := by omega
    subst e
    rw [Nat.sub_self, show nd c T 0 (p + i) = 0 from rfl] at hn
    rw [if_pos (nI_le (Nat.le_refl _) (by omega)), hn, if_pos (by omega)]
    exact ⟨_, rfl, h⟩
/-- a statement at p: whether it is one, and where its reading ends -/
def sk (c : Nat) (T : Nat → Int32) (p : Nat) : Int32 × Nat :=
  if sgn c T p 115 = true then
    if nd c T 1 (p + 1) = 1 then
      if sgn c T (p + 2) 61 = true then
        if nd c T 2 (p + 3) = 0 then (0, p + 3)
        else if sgn c T (p + 3 + nd c T 2 (p + 3)) 59 = true then (1, p + 4 + nd c T 2 (p + 3)) else (0, p + 3 + nd c T 2 (p + 3))
      else (0, p + 2)
    else (0, p + 1)
  else if sgn c T p 99 = true then
    if nd c T 8 (p + 1) = 8 then
      if sgn c T (p + 9) 59 = true then (1, p + 10) else (0, p + 9)
    else (0, p + 1 + nd c T 8 (p + 1))
  else if sgn c T p 107 = true then
    if nd c T 3 (p + 1) = 3 then
      if sgn c T (p + 4) 59 = true then (1, p + 5) else (0, p + 4)
    else (0, p + 1 + nd c T 3 (p + 1))
  else (0, p)
theorem nd1 (c : Nat) (T : Nat → Int32) (p : Nat) : nd c T 1 p = if dgt c T p = true then 1 else 0 := rfl
theorem nd2 (c : Nat) (T : Nat → Int32) (p : Nat) : nd c T 2 p = if nd c T 1 p = 1 then 1 + nd c T 1 (p + 1) else nd c T 1 p := nd_add c T 1 1 p
theorem sgn_nd {c p : Nat} {T : Nat → Int32} (h : sgn c T p 59 = true) : nd c T 1 p = 0 := by
  rw [nd1, if_neg]
  intro d
  obtain ⟨-, -, d3, -⟩ := dgt_t d
  rw [(sgn_iff.mp h).2] at d3
  exact absurd d3 (by decide)
theorem X4_skipStatement_eq {fu c p : Nat} {T : Nat → Int32} {y : Mem} (h : LE y c T p) (hc : c ≤ 96) (hp : p < 700) (hfu : 20 < fu) : ∃ y', pX4_skipStatement fu y = some ((sk c T p).1, y') ∧ LE y' c T (sk c T p).2 := by
  unfold pX4_skipStatement sk
  obtain ⟨y1, e1, h1⟩ := X4_skip_eq (fu := fu) (s := 115) h hc (by omega) (by decide)
  rw [e1, bd2_some]
  by_cases b1 : sgn c T p 115 = true
  · rw [if_pos b1] at h1
    simp only [if_pos b1, if_neg i10]
    obtain ⟨y2, e2, h2⟩ := X4_skipDigits_eq (fu := fu) (k := 1) h1 hc (by omega) (by omega) hfu
    have e2 : pX4_skipDigits fu y1 1 = _ := e2
    rw [e2, bd2_some]
    by_cases b2 : nd c T 1 (p + 1) = 1
    · rw [b2] at h2
      simp only [if_pos b2, if_neg i10]
      obtain ⟨y3, e3, h3⟩ := X4_skip_eq (fu := fu) (s := 61) h2 hc (by omega) (by decide)
      rw [e3, bd2_some]
      by_cases b3 : sgn c T (p + 2) 61 = true
      · have b3' : sgn c T (p + 1 + 1) 61 = true := b3
        rw [if_pos b3'] at h3
        simp only [if_pos b3', if_pos b3, if_neg i10]
        obtain ⟨y4, e4, h4⟩ := X4_skipDigits_eq (fu := fu) (k := 1) h3 hc (by omega) (by omega) hfu
        have e4 : pX4_skipDigits fu y3 1 = _ := e4
        rw [e4, bd2_some]
        have q0 : nd c T 1 (p + 1 + 1 + 1) = nd c T 1 (p + 3) := rfl
        rw [q0] at h4 ⊢
        by_cases b4 : nd c T 1 (p + 3) = 1
        · have k2 := nd2 c T (p + 3)
          rw [if_pos b4] at k2
          rw [b4] at h4
          rw [if_pos b4, if_neg i10]
          obtain ⟨y5, e5, h5⟩ := X4_skip_eq (fu := fu) (s := 59) h4 hc (by omega) (by decide)
          rw [e5, bd2_some]
          by_cases b5 : sgn c T (p + 4) 59 = true
          · have b5' : sgn c T (p + 1 + 1 + 1 + 1) 59 = true := b5
            have z := sgn_nd b5
            have z' : nd c T 1 (p + 3 + 1) = 0 := z
            rw [z'] at k2
            rw [if_pos b5'] at h5
            simp only [if_pos b5', if_neg i10, k2]
            rw [if_neg (show ¬ 1 + 0 = 0 by omega)]
            exact ⟨_, rfl, h5⟩
          · have b5' : ¬ sgn c T (p + 1 + 1 + 1 + 1) 59 = true := b5
            rw [if_neg b5'] at h5
            simp only [if_neg b5', if_true]
            obtain ⟨y6, e6, h6⟩ := X4_skipDigits_eq (fu := fu) (k := 1) h5 hc (by omega) (by omega) hfu
            have e6 : pX4_skipDigits fu y5 1 = _ := e6
            rw [e6, bd2_some]
            have q1 : nd c T 1 (p + 1 + 1 + 1 + 1) = nd c T 1 (p + 4) := rfl
            have q2 : nd c T 1 (p + 3 + 1) = nd c T 1 (p + 4) := rfl
            rw [q2] at k2
            rw [q1] at h6 ⊢
            by_cases b6 : nd c T 1 (p + 4) = 1
            · rw [b6] at h6 k2
              rw [if_pos b6, if_neg i10]
              obtain ⟨y7, e7, h7⟩ := X4_skip_eq (fu := fu) (s := 59) h6 hc (by omega) (by decide)
              rw [e7, bd2_some]
              simp only [k2]
              rw [if_neg (show ¬ 1 + 1 = 0 by omega)]
              by_cases b7 : sgn c T (p + 5) 59 = true
              · have b7' : sgn c T (p + 1 + 1 + 1 + 1 + 1) 59 = true := b7
                rw [if_pos b7'] at h7
                rw [if_pos b7', if_neg i10, if_pos (show sgn c T (p + 3 + (1 + 1)) 59 = true from b7)]
                exact ⟨_, rfl, h7⟩
              · have b7' : ¬ sgn c T (p + 1 + 1 + 1 + 1 + 1) 59 = true := b7
                rw [if_neg b7'] at h7
                rw [if_neg b7', if_pos rfl, if_neg (show ¬ sgn c T (p + 3 + (1 + 1)) 59 = true from b7)]
                exact ⟨_, rfl, h7⟩
            · have z0 : nd c T 1 (p + 4) = 0 := by have := nd_le c T 1 (p + 4); omega
              rw [z0] at h6 k2
              rw [if_neg b6, if_pos rfl]
              simp only [k2]
              rw [if_neg (show ¬ 1 + 0 = 0 by omega), if_neg (show ¬ sgn c T (p + 3 + (1 + 0)) 59 = true from b5)]
              exact ⟨_, rfl, h6⟩
        · have z0 : nd c T 1 (p + 3) = 0 := by have := nd_le c T 1 (p + 3); omega
          have k2 := nd2 c T (p + 3)
          rw [if_neg b4, z0] at k2
          rw [z0] at h4
          rw [if_neg b4, if_pos rfl, if_pos k2]
          exact ⟨_, rfl, h4⟩
      · have b3' : ¬ sgn c T (p + 1 + 1) 61 = true := b3
        rw [if_neg b3'] at h3
        simp only [if_neg b3', if_neg b3, if_true]
        exact ⟨_, rfl, h3⟩
    · have z0 : nd c T 1 (p + 1) = 0 := by have := nd_le c T 1 (p + 1); omega
      rw [z0] at h2
      simp only [if_neg b2, if_true]
      exact ⟨_, rfl, h2⟩
  · rw [if_neg b1] at h1
    simp only [if_neg b1, if_true]
    obtain ⟨y2, e2, h2⟩ := X4_skip_eq (fu := fu) (s := 99) h1 hc (by omega) (by decide)
    rw [e2, bd2_some]
    by_cases b2 : sgn c T p 99 = true
    · rw [if_pos b2] at h2
      simp only [if_pos b2, if_neg i10]
      obtain ⟨y3, e3, h3⟩ := X4_skipDigits_eq (fu := fu) (k := 8) h2 hc (by omega) (by omega) hfu
      have e3 : pX4_skipDigits fu y2 8 = _ := e3
      rw [e3, bd2_some]
      by_cases b3 : nd c T 8 (p + 1) = 8
      · rw [b3] at h3
        simp only [if_pos b3, if_neg i10]
        obtain ⟨y4, e4, h4⟩ := X4_skip_eq (fu := fu) (s := 59) h3 hc (by omega) (by decide)
        rw [e4, bd2_some]
        by_cases b4 : sgn c T (p + 9) 59 = true
        · have b4' : sgn c T (p + 1 + 8) 59 = true := b4
          rw [if_pos b4'] at h4
          simp only [if_pos b4', if_pos b4, if_neg i10]
          exact ⟨_, rfl, h4⟩
        · have b4' : ¬ sgn c T (p + 1 + 8) 59 = true := b4
          rw [if_neg b4'] at h4
          simp only [if_neg b4', if_neg b4, if_true]
          exact ⟨_, rfl, h4⟩
      · simp only [if_neg b3, if_true]
        exact ⟨_, rfl, h3⟩
    · rw [if_neg b2] at h2
      simp only [if_neg b2, if_true]
      obtain ⟨y3, e3, h3⟩ := X4_skip_eq (fu := fu) (s := 107) h2 hc (by omega) (by decide)
      rw [e3, bd2_some]
      by_cases b3 : sgn c T p 107 = true
      · rw [if_pos b3] at h3
        simp only [if_pos b3, if_neg i10]
        obtain ⟨y4, e4, h4⟩ := X4_skipDigits_eq (fu := fu) (k := 3) h3 hc (by omega) (by omega) hfu
        have e4 : pX4_skipDigits fu y3 3 = _ := e4
        rw [e4, bd2_some]
        by_cases b4 : nd c T 3 (p + 1) = 3
        · rw [b4] at h4
          simp only [if_pos b4, if_neg i10]
          obtain ⟨y5, e5, h5⟩ := X4_skip_eq (fu := fu) (s := 59) h4 hc (by omega) (by decide)
          rw [e5, bd2_some]
          by_cases b5 : sgn c T (p + 4) 59 = true
          · have b5' : sgn c T (p + 1 + 3) 59 = true := b5
            rw [if_pos b5'] at h5
            simp only [if_pos b5', if_pos b5, if_neg i10]
            exact ⟨_, rfl, h5⟩
          · have b5' : ¬ sgn c T (p + 1 + 3) 59 = true := b5
            rw [if_neg b5'] at h5
            simp only [if_neg b5', if_neg b5, if_true]
            exact ⟨_, rfl, h5⟩
        · simp only [if_neg b4, if_true]
          exact ⟨_, rfl, h4⟩
      · rw [if_neg b3] at h3
        simp only [if_neg b3, if_true]
        exact ⟨_, rfl, h3⟩
theorem X4_number_eq {fu c p q k : Nat} {T : Nat → Int32} {y : Mem} (h : LE y c T p) (hc : c ≤ 96) (hd : ∀ i, i < k → dgt c T (q + i) = true) (hk : k ≤ 8) (hfu : 20 < fu) : pX4_number fu y (nI q) (nI k) = some (nI (numN T q k)) := by
  unfold pX4_number
  refine csp2 k (fun i (x1 x2 : Int32) => x2 = nI i ∧ x1 = nI (numN T q i)) (fun (r : Option Int32) => r = some (nI (numN T q k))) ?_ fu 0 _ _ ⟨rfl, rfl⟩ (by omega) (by omega)
  rintro i g x1 x2 i1 ⟨rfl, rfl⟩ hcc
  by_cases w : i < k
  · obtain ⟨d1, -, -, t, t1, t2, e⟩ := dgt_t (hd i w)
    have ev : dv T (q + i) = t - 48 := by
      unfold dv
      rw [e, nI_cl (by omega)]
    rw [if_neg (nI_ge w (by omega)), nI_add, X4_letterAt_eq h hc (by omega), bd_some, if_pos d1, e, lt_eq, lt_eq, nI_1, show (10 : Int32) = nI 10 from rfl, pk_mul, nI_add, show (48 : Int32) = nI 48 from rfl, pk_sub (by omega)]
    refine hcc _ _ w ⟨rfl, ?_⟩
    rw [numN, ev]
    congr 1
    omega
  · have e : i = k := by omega
    subst e
    rw [if_pos (nI_le (Nat.le_refl _) (by omega))]
