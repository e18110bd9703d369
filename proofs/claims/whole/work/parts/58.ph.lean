/-! PURE 17: a day kept and brought back in the model; a day copied in the class -/
def ppas (o : Nat) (N : Int32) (Nn : Nat) (fu : Nat) (m1 : Mem) : Option Mem :=
  zl2 (fun g4 (x1 : Int32) (y2 : Mem) =>
    if N ≤ x1 then
      some y2
    else
      if (y2 0 28) = 0 then
        ck (y2 0 29) 300 <|
        ck x1 Nn <|
        lt' (up2 y2 o x1.toNatClampNeg (y2 20 (y2 0 29).toNatClampNeg)) fun y9 =>
        lt' (up2 y9 0 29 ((y9 0 29) + 1)) fun y11 =>
        lt' (x1 + 1) fun x12 =>
        g4 x12 y11
      else
        ck x1 Nn <|
        ck (y2 0 29) 300 <|
        lt' (up2 y2 20 (y2 0 29).toNatClampNeg (y2 o x1.toNatClampNeg)) fun y14 =>
        lt' (up2 y14 0 29 ((y14 0 29) + 1)) fun y16 =>
        lt' (x1 + 1) fun x17 =>
        g4 x17 y16) fu 0 m1
def ir (k : Nat) : Nat := if k < 72 then 2 + k / 8 else 11 + (k - 72) / 2
def ic (k : Nat) : Nat := if k < 72 then k % 8 else (k - 72) % 2
/-- the first c places of the kept stretch from 100 p are as in s -/
def KP (c p : Nat) (m s : Mem) : Prop := ∀ k, k < c → m 20 (100 * p + k) = s (ir k) (ic k)
def SVI (c p : Nat) (m' m : Mem) : Prop := m' 0 29 = nI (100 * p + c) ∧ (∀ k, k ≠ 29 → m' 0 k = m 0 k) ∧ (∀ x, x ≠ 0 → x ≠ 20 → m' x = m x) ∧ KP c p m' m ∧ ∀ k, k < 100 * p ∨ 100 * p + c ≤ k → m' 20 k = m 20 k
def LDI (c p : Nat) (m' m : Mem) : Prop := m' 0 29 = nI (100 * p + c) ∧ (∀ k, k ≠ 29 → m' 0 k = m 0 k) ∧ (∀ x, x = 1 ∨ 16 ≤ x → m' x = m x) ∧ (∀ k, k < c → m' (ir k) (ic k) = m 20 (100 * p + k))
theorem ppas_save {o N fu c p : Nat} {y m : Mem} (h : SVI c p y m) (hf : m 0 28 = 1) (ho : o ≠ 0 ∧ o ≠ 20) (hN : N ≤ 8) (hc : c + N ≤ 82) (hp : p ≤ 1) (hr : ∀ k, c ≤ k → k < c + N → ir k = o ∧ ic k = k - c) (hfu : 8 < fu) : ∃ m', ppas o (nI N) N fu y = some m' ∧ SVI (c + N) p m' m := by
  unfold ppas
  refine sp2 N (fun i (x : Int32) (z : Mem) => i ≤ N ∧ x = nI i ∧ SVI (c + i) p z m) (fun (r : Option Mem) => ∃ m', r = some m' ∧ SVI (c + N) p m' m) ?_ fu 0 _ _ ⟨by omega, rfl, h⟩ (by omega) (by omega)
  rintro i x z ⟨i1, rfl, z29, z0, zx, zk, zo⟩
  by_cases w : i < N
  · refine Or.inl ⟨w, nI (i + 1), up2 (up2 z 20 (100 * p + (c + i)) (z o i)) 0 29 (nI (100 * p + (c + (i + 1)))), fun g => ?_, by omega, rfl, up2_same _ _ _ _, ?_, ?_, ?_, ?_⟩
    · rw [if_neg (nI_ge w (by omega)), z0 28 (by omega), hf, if_neg i10, ck_ok w (by omega), z29, ck_ok (show 100 * p + (c + i) < 300 by omega) (by decide), nI_cl (by omega), nI_cl (by omega), lt_eq, up2_row (by omega), z29, lt_eq, lt_eq, nI_1, nI_1]
      rfl
    · intro k hk
      rw [up2_col hk, up2_row (by omega)]
      exact z0 k hk
    · intro x a b
      rw [up2_rw, if_neg a, up2_rw, if_neg b]
      exact zx x a b
    · intro k hk
      rw [up2_row (by omega), up2_at]
      by_cases e : k = c + i
      · subst e
        obtain ⟨e1, e2⟩ := hr (c + i) (by omega) (by omega)
        rw [if_pos ⟨rfl, rfl⟩, e1, e2, zx o ho.1 ho.2, Nat.add_sub_cancel_left]
      · rw [if_neg (by omega)]
        exact zk k (by omega)
    · intro k hk
      rw [up2_row (by omega), up2_col (by omega)]
      exact zo k (by omega)
  · have e : i = N := by omega
    subst e
    refine Or.inr (fun g => ?_)
    rw [if_pos (nI_le (Nat.le_refl _) (by omega))]
    exact ⟨z, rfl, z29, z0, zx, zk, zo⟩
theorem ppas_load {o N fu c p : Nat} {y m : Mem} (h : LDI c p y m) (hf : m 0 28 = 0) (ho : 2 ≤ o ∧ o ≤ 15) (hN : N ≤ 8) (hc : c + N ≤ 82) (hp : p ≤ 1) (hr : ∀ k, c ≤ k → k < c + N → ir k = o ∧ ic k = k - c) (hr2 : ∀ k, k < c → ir k ≠ o) (hr3 : ∀ k, k < 82 → ir k ≠ 0) (hfu : 8 < fu) : ∃ m', ppas o (nI N) N fu y = some m' ∧ LDI (c + N) p m' m := by
  unfold ppas
  refine sp2 N (fun i (x : Int32) (z : Mem) => i ≤ N ∧ x = nI i ∧ LDI (c + i) p z m) (fun (r : Option Mem) => ∃ m', r = some m' ∧ LDI (c + N) p m' m) ?_ fu 0 _ _ ⟨by omega, rfl, h⟩ (by omega) (by omega)
  rintro i x z ⟨i1, rfl, z29, z0, zx, zk⟩
  by_cases w : i < N
  · refine Or.inl ⟨w, nI (i + 1), up2 (up2 z o i (m 20 (100 * p + (c + i)))) 0 29 (nI (100 * p + (c + (i + 1)))), fun g => ?_, by omega, rfl, up2_same _ _ _ _, ?_, ?_, ?_⟩
    · rw [if_neg (nI_ge w (by omega)), z0 28 (by omega), hf, if_pos rfl, z29, ck_ok (show 100 * p + (c + i) < 300 by omega) (by decide), ck_ok w (by omega), nI_cl (by omega), nI_cl (by omega), zx 20 (Or.inr (by omega)), lt_eq, up2_row (by omega), z29, lt_eq, lt_eq, nI_1, nI_1]
      rfl
    · intro k hk
      rw [up2_col hk, up2_row (by omega)]
      exact z0 k hk
    · intro x a
      rw [up2_rw, if_neg (by omega), up2_rw, if_neg (by omega)]
      exact zx x a
    · intro k hk
      rw [up2_row (hr3 k (by omega)), up2_at]
      by_cases e : k = c + i
      · subst e
        obtain ⟨e1, e2⟩ := hr (c + i) (by omega) (by omega)
        rw [if_pos ⟨e1, by rw [e2, Nat.add_sub_cancel_left]⟩]
      · rw [if_neg]
        · exact zk k (by omega)
        · rintro ⟨q1, q2⟩
          by_cases a : k < c
          · exact hr2 k a q1
          · have := (hr k (by omega) (by omega)).2
            omega
  · have e : i = N := by omega
    subst e
    refine Or.inr (fun g => ?_)
    rw [if_pos (nI_le (Nat.le_refl _) (by omega))]
    exact ⟨z, rfl, z29, z0, zx, zk⟩
theorem ir_nz : ∀ k, k < 82 → ir k ≠ 0 := by
  intro k hk
  unfold ir
  split <;> omega
theorem ir_2 : ∀ k, 0 ≤ k → k < 0 + 8 → ir k = 2 ∧ ic k = k - 0 := by
  intro k h1 h2
  unfold ir ic
  split <;> omega
theorem ir_n2 : ∀ k, k < 0 → ir k ≠ 2 := by
  intro k h
  unfold ir
  split <;> omega
theorem ir_3 : ∀ k, 8 ≤ k → k < 8 + 8 → ir k = 3 ∧ ic k = k - 8 := by
  intro k h1 h2
  unfold ir ic
  split <;> omega
theorem ir_n3 : ∀ k, k < 8 → ir k ≠ 3 := by
  intro k h
  unfold ir
  split <;> omega
theorem ir_4 : ∀ k, 16 ≤ k → k < 16 + 8 → ir k = 4 ∧ ic k = k - 16 := by
  intro k h1 h2
  unfold ir ic
  split <;> omega
theorem ir_n4 : ∀ k, k < 16 → ir k ≠ 4 := by
  intro k h
  unfold ir
  split <;> omega
theorem ir_5 : ∀ k, 24 ≤ k → k < 24 + 8 → ir k = 5 ∧ ic k = k - 24 := by
  intro k h1 h2
  unfold ir ic
  split <;> omega
theorem ir_n5 : ∀ k, k < 24 → ir k ≠ 5 := by
  intro k h
  unfold ir
  split <;> omega
theorem ir_6 : ∀ k, 32 ≤ k → k < 32 + 8 → ir k = 6 ∧ ic k = k - 32 := by
  intro k h1 h2
  unfold ir ic
  split <;> omega
theorem ir_n6 : ∀ k, k < 32 → ir k ≠ 6 := by
  intro k h
  unfold ir
  split <;> omega
theorem ir_7 : ∀ k, 40 ≤ k → k < 40 + 8 → ir k = 7 ∧ ic k = k - 40 := by
  intro k h1 h2
  unfold ir ic
  split <;> omega
theorem ir_n7 : ∀ k, k < 40 → ir k ≠ 7 := by
  intro k h
  unfold ir
  split <;> omega
theorem ir_8 : ∀ k, 48 ≤ k → k < 48 + 8 → ir k = 8 ∧ ic k = k - 48 := by
  intro k h1 h2
  unfold ir ic
  split <;> omega
theorem ir_n8 : ∀ k, k < 48 → ir k ≠ 8 := by
  intro k h
  unfold ir
  split <;> omega
theorem ir_9 : ∀ k, 56 ≤ k → k < 56 + 8 → ir k = 9 ∧ ic k = k - 56 := by
  intro k h1 h2
  unfold ir ic
  split <;> omega
theorem ir_n9 : ∀ k, k < 56 → ir k ≠ 9 := by
  intro k h
  unfold ir
  split <;> omega
theorem ir_10 : ∀ k, 64 ≤ k → k < 64 + 8 → ir k = 10 ∧ ic k = k - 64 := by
  intro k h1 h2
  unfold ir ic
  split <;> omega
theorem ir_n10 : ∀ k, k < 64 → ir k ≠ 10 := by
  intro k h
  unfold ir
  split <;> omega
theorem ir_11 : ∀ k, 72 ≤ k → k < 72 + 2 → ir k = 11 ∧ ic k = k - 72 := by
  intro k h1 h2
  unfold ir ic
  split <;> omega
theorem ir_n11 : ∀ k, k < 72 → ir k ≠ 11 := by
  intro k h
  unfold ir
  split <;> omega
theorem ir_12 : ∀ k, 74 ≤ k → k < 74 + 2 → ir k = 12 ∧ ic k = k - 74 := by
  intro k h1 h2
  unfold ir ic
  split <;> omega
theorem ir_n12 : ∀ k, k < 74 → ir k ≠ 12 := by
  intro k h
  unfold ir
  split <;> omega
theorem ir_13 : ∀ k, 76 ≤ k → k < 76 + 2 → ir k = 13 ∧ ic k = k - 76 := by
  intro k h1 h2
  unfold ir ic
  split <;> omega
theorem ir_n13 : ∀ k, k < 76 → ir k ≠ 13 := by
  intro k h
  unfold ir
  split <;> omega
theorem ir_14 : ∀ k, 78 ≤ k → k < 78 + 2 → ir k = 14 ∧ ic k = k - 78 := by
  intro k h1 h2
  unfold ir ic
  split <;> omega
theorem ir_n14 : ∀ k, k < 78 → ir k ≠ 14 := by
  intro k h
  unfold ir
  split <;> omega
theorem ir_15 : ∀ k, 80 ≤ k → k < 80 + 2 → ir k = 15 ∧ ic k = k - 80 := by
  intro k h1 h2
  unfold ir ic
  split <;> omega
theorem ir_n15 : ∀ k, k < 80 → ir k ≠ 15 := by
  intro k h
  unfold ir
  split <;> omega
theorem save_all {fu p : Nat} {m : Mem} (hp : p ≤ 1) (hfu : 8 < fu) : ∃ m', pX7_passesAll fu m (nI p) 1 = some m' ∧ KP 82 p m' m ∧ m' 20 (100 * p + 82) = m 0 15 ∧ m' 20 (100 * p + 83) = m 0 16 ∧ m' 20 (100 * p + 84) = m 0 17 ∧ (∀ x, x ≠ 0 → x ≠ 20 → m' x = m x) ∧ (∀ k, k ≠ 28 → k ≠ 29 → m' 0 k = m 0 k) ∧ ∀ k, k < 100 * p ∨ 100 * p + 85 ≤ k → m' 20 k = m 20 k := by
  obtain ⟨y0, hy0⟩ : ∃ y0, y0 = up2 (up2 m 0 29 (nI (100 * p))) 0 28 1 := ⟨_, rfl⟩
  have hf : y0 0 28 = 1 := by rw [hy0, up2_same]
  have h0 : SVI 0 p y0 y0 := ⟨by rw [hy0, up2_col (by omega), up2_same]; rfl, fun _ _ => rfl, fun _ _ _ => rfl, fun k hk => absurd hk (by omega), fun _ _ => rfl⟩
  obtain ⟨y1, e1, h1⟩ := ppas_save (o := 2) (N := 8) (fu := fu) h0 hf (by omega) (by omega) (by omega) hp ir_2 hfu
  obtain ⟨y2, e2, h2⟩ := ppas_save (o := 3) (N := 8) (fu := fu) h1 hf (by omega) (by omega) (by omega) hp ir_3 hfu
  obtain ⟨y3, e3, h3⟩ := ppas_save (o := 4) (N := 8) (fu := fu) h2 hf (by omega) (by omega) (by omega) hp ir_4 hfu
  obtain ⟨y4, e4, h4⟩ := ppas_save (o := 5) (N := 8) (fu := fu) h3 hf (by omega) (by omega) (by omega) hp ir_5 hfu
  obtain ⟨y5, e5, h5⟩ := ppas_save (o := 6) (N := 8) (fu := fu) h4 hf (by omega) (by omega) (by omega) hp ir_6 hfu
  obtain ⟨y6, e6, h6⟩ := ppas_save (o := 7) (N := 8) (fu := fu) h5 hf (by omega) (by omega) (by omega) hp ir_7 hfu
  obtain ⟨y7, e7, h7⟩ := ppas_save (o := 8) (N := 8) (fu := fu) h6 hf (by omega) (by omega) (by omega) hp ir_8 hfu
  obtain ⟨y8, e8, h8⟩ := ppas_save (o := 9) (N := 8) (fu := fu) h7 hf (by omega) (by omega) (by omega) hp ir_9 hfu
  obtain ⟨y9, e9, h9⟩ := ppas_save (o := 10) (N := 8) (fu := fu) h8 hf (by omega) (by omega) (by omega) hp ir_10 hfu
  obtain ⟨y10, e10, h10⟩ := ppas_save (o := 11) (N := 2) (fu := fu) h9 hf (by omega) (by omega) (by omega) hp ir_11 hfu
  obtain ⟨y11, e11, h11⟩ := ppas_save (o := 12) (N := 2) (fu := fu) h10 hf (by omega) (by omega) (by omega) hp ir_12 hfu
  obtain ⟨y12, e12, h12⟩ := ppas_save (o := 13) (N := 2) (fu := fu) h11 hf (by omega) (by omega) (by omega) hp ir_13 hfu
  obtain ⟨y13, e13, h13⟩ := ppas_save (o := 14) (N := 2) (fu := fu) h12 hf (by omega) (by omega) (by omega) hp ir_14 hfu
  obtain ⟨y14, e14, h14⟩ := ppas_save (o := 15) (N := 2) (fu := fu) h13 hf (by omega) (by omega) (by omega) hp ir_15 hfu
  unfold pX7_passesAll
  rw [show (100 : Int32) = nI 100 from rfl, pk_mul, lt_eq, ckz_1, lt_eq, ← hy0]
  rw [show pX7_passes_2 fu y0 = some y1 from e1, bd_some]
  rw [show pX7_passes_3 fu y1 = some y2 from e2, bd_some]
  rw [show pX7_passes_4 fu y2 = some y3 from e3, bd_some]
  rw [show pX7_passes_5 fu y3 = some y4 from e4, bd_some]
  rw [show pX7_passes_6 fu y4 = some y5 from e5, bd_some]
  rw [show pX7_passes_7 fu y5 = some y6 from e6, bd_some]
  rw [show pX7_passes_8 fu y6 = some y7 from e7, bd_some]
  rw [show pX7_passes_9 fu y7 = some y8 from e8, bd_some]
  rw [show pX7_passes_10 fu y8 = some y9 from e9, bd_some]
  rw [show pX7_passes_11 fu y9 = some y10 from e10, bd_some]
  rw [show pX7_passes_12 fu y10 = some y11 from e11, bd_some]
  rw [show pX7_passes_13 fu y11 = some y12 from e12, bd_some]
  rw [show pX7_passes_14 fu y12 = some y13 from e13, bd_some]
  rw [show pX7_passes_15 fu y13 = some y14 from e14, bd_some]
  obtain ⟨q29, q0, qx, qk, qo⟩ := h14
  have hfy : y14 0 28 = 1 := by rw [q0 28 (by omega)]; exact hf
  have one : ∀ (z : Mem) (b : Nat) (v : Int32), z 0 28 = 1 → z 0 29 = nI b → b < 300 → pX7_passOne fu z v = some (v, up2 (up2 z 20 b v) 0 29 (nI (b + 1))) := by
    intro z b v z1 z2 z3
    unfold pX7_passOne
    rw [z1, z2]
    simp only [if_neg i10, jn1_eq, ck_ok z3 (show 300 < 2 ^ 31 by decide), nI_cl (show b < 2 ^ 31 by omega), lt_eq, show up2 z 20 b v 0 29 = nI b from by rw [up2_row (by omega)]; exact z2, nI_1]
  rw [one _ _ _ hfy q29 (by omega), bd2_some, lt_eq]
  rw [one _ (100 * p + 82 + 1) _ (by rw [up2_col (by omega), up2_col (by omega), up2_row (by omega)]; exact hfy) (by rw [up2_col (by omega), up2_same]) (by omega), bd2_some, lt_eq]
  rw [one _ (100 * p + 82 + 1 + 1) _ (by rw [up2_col (by omega), up2_col (by omega), up2_row (by omega), up2_col (by omega), up2_col (by omega), up2_row (by omega)]; exact hfy) (by rw [up2_col (by omega), up2_same]) (by omega), bd2_some, lt_eq]
  refine ⟨_, rfl, ?_, ?_, ?_, ?_, ?_, ?_, ?_⟩
  · intro k hk
    have := qk k hk
    simp only [up2_at]
    simp [show ¬ 100 * p + k = 100 * p + 82 + 1 + 1 by omega, show ¬ 100 * p + k = 100 * p + 82 + 1 by omega, show ¬ k = 82 by omega, this]
    have e : ir k ≠ 0 := ir_nz k hk
    rw [hy0, up2_row e, up2_row e]
  · simp only [up2_at]
    simp [show ¬ 82 = 82 + 1 by omega]
    rw [q0 15 (by omega), hy0]
    simp [up2_at]
  · simp only [up2_at]
    simp
    rw [q0 16 (by omega), hy0]
    simp [up2_at]
  · simp only [up2_at]
    simp
    rw [q0 17 (by omega), hy0]
    simp [up2_at]
  · intro x a b
    simp only [up2_rw, if_neg a, if_neg b]
    rw [qx x a b, hy0, up2_rw, if_neg a, up2_rw, if_neg a]
  · intro k a b
    simp only [up2_at]
    simp [a, b]
    have : y14 0 k = m 0 k := by rw [q0 k b, hy0, up2_col a, up2_col b]
    by_cases c1 : k = 17
    · subst c1; simp [this]
    · by_cases c2 : k = 16
      · subst c2; simp [this]
      · by_cases c3 : k = 15
        · subst c3; simp [this]
        · simp [c1, c2, c3, this]
  · intro k hk
    simp only [up2_at]
    simp [show ¬ k = 100 * p + 82 + 1 + 1 by omega, show ¬ k = 100 * p + 82 + 1 by omega, show ¬ k = 100 * p + 82 by omega]
    rw [qo k (by omega), hy0, up2_row (by omega), up2_row (by omega)]
theorem load_all {fu p : Nat} {m s : Mem} (hK : KP 82 p m s) (h15 : m 20 (100 * p + 82) = s 0 15) (h16 : m 20 (100 * p + 83) = s 0 16) (h17 : m 20 (100 * p + 84) = s 0 17) (hp : p ≤ 1) (hfu : 8 < fu) : ∃ m', pX7_passesAll fu m (nI p) 0 = some m' ∧ EQM s m' ∧ (∀ k, k < 8 → m' 10 k = s 10 k) ∧ m' 0 17 = s 0 17 ∧ (∀ x, x = 1 ∨ 16 ≤ x → m' x = m x) ∧ (∀ k, k ≠ 15 → k ≠ 16 → k ≠ 17 → k ≠ 28 → k ≠ 29 → m' 0 k = m 0 k) := by
  obtain ⟨y0, hy0⟩ : ∃ y0, y0 = up2 (up2 m 0 29 (nI (100 * p))) 0 28 0 := ⟨_, rfl⟩
  have hf : y0 0 28 = 0 := by rw [hy0, up2_same]
  have h0 : LDI 0 p y0 y0 := ⟨by rw [hy0, up2_col (by omega), up2_same]; rfl, fun _ _ => rfl, fun _ _ => rfl, fun k hk => absurd hk (by omega)⟩
  obtain ⟨y1, e1, h1⟩ := ppas_load (o := 2) (N := 8) (fu := fu) h0 hf (by omega) (by omega) (by omega) hp ir_2 ir_n2 ir_nz hfu
  obtain ⟨y2, e2, h2⟩ := ppas_load (o := 3) (N := 8) (fu := fu) h1 hf (by omega) (by omega) (by omega) hp ir_3 ir_n3 ir_nz hfu
  obtain ⟨y3, e3, h3⟩ := ppas_load (o := 4) (N := 8) (fu := fu) h2 hf (by omega) (by omega) (by omega) hp ir_4 ir_n4 ir_nz hfu
  obtain ⟨y4, e4, h4⟩ := ppas_load (o := 5) (N := 8) (fu := fu) h3 hf (by omega) (by omega) (by omega) hp ir_5 ir_n5 ir_nz hfu
  obtain ⟨y5, e5, h5⟩ := ppas_load (o := 6) (N := 8) (fu := fu) h4 hf (by omega) (by omega) (by omega) hp ir_6 ir_n6 ir_nz hfu
  obtain ⟨y6, e6, h6⟩ := ppas_load (o := 7) (N := 8) (fu := fu) h5 hf (by omega) (by omega) (by omega) hp ir_7 ir_n7 ir_nz hfu
  obtain ⟨y7, e7, h7⟩ := ppas_load (o := 8) (N := 8) (fu := fu) h6 hf (by omega) (by omega) (by omega) hp ir_8 ir_n8 ir_nz hfu
  obtain ⟨y8, e8, h8⟩ := ppas_load (o := 9) (N := 8) (fu := fu) h7 hf (by omega) (by omega) (by omega) hp ir_9 ir_n9 ir_nz hfu
  obtain ⟨y9, e9, h9⟩ := ppas_load (o := 10) (N := 8) (fu := fu) h8 hf (by omega) (by omega) (by omega) hp ir_10 ir_n10 ir_nz hfu
  obtain ⟨y10, e10, h10⟩ := ppas_load (o := 11) (N := 2) (fu := fu) h9 hf (by omega) (by omega) (by omega) hp ir_11 ir_n11 ir_nz hfu
  obtain ⟨y11, e11, h11⟩ := ppas_load (o := 12) (N := 2) (fu := fu) h10 hf (by omega) (by omega) (by omega) hp ir_12 ir_n12 ir_nz hfu
  obtain ⟨y12, e12, h12⟩ := ppas_load (o := 13) (N := 2) (fu := fu) h11 hf (by omega) (by omega) (by omega) hp ir_13 ir_n13 ir_nz hfu
  obtain ⟨y13, e13, h13⟩ := ppas_load (o := 14) (N := 2) (fu := fu) h12 hf (by omega) (by omega) (by omega) hp ir_14 ir_n14 ir_nz hfu
  obtain ⟨y14, e14, h14⟩ := ppas_load (o := 15) (N := 2) (fu := fu) h13 hf (by omega) (by omega) (by omega) hp ir_15 ir_n15 ir_nz hfu
  unfold pX7_passesAll
  rw [show (100 : Int32) = nI 100 from rfl, pk_mul, lt_eq, ckz_0, lt_eq, ← hy0]
  rw [show pX7_passes_2 fu y0 = some y1 from e1, bd_some]
  rw [show pX7_passes_3 fu y1 = some y2 from e2, bd_some]
  rw [show pX7_passes_4 fu y2 = some y3 from e3, bd_some]
  rw [show pX7_passes_5 fu y3 = some y4 from e4, bd_some]
  rw [show pX7_passes_6 fu y4 = some y5 from e5, bd_some]
  rw [show pX7_passes_7 fu y5 = some y6 from e6, bd_some]
  rw [show pX7_passes_8 fu y6 = some y7 from e7, bd_some]
  rw [show pX7_passes_9 fu y7 = some y8 from e8, bd_some]
  rw [show pX7_passes_10 fu y8 = some y9 from e9, bd_some]
  rw [show pX7_passes_11 fu y9 = some y10 from e10, bd_some]
  rw [show pX7_passes_12 fu y10 = some y11 from e11, bd_some]
  rw [show pX7_passes_13 fu y11 = some y12 from e12, bd_some]
  rw [show pX7_passes_14 fu y12 = some y13 from e13, bd_some]
  rw [show pX7_passes_15 fu y13 = some y14 from e14, bd_some]
  obtain ⟨q29, q0, qx, qk⟩ := h14
  have hfy : y14 0 28 = 0 := by rw [q0 28 (by omega)]; exact hf
  have y20 : y14 20 = m 20 := by rw [qx 20 (Or.inr (by omega)), hy0, up2_rw, if_neg (by omega), up2_rw, if_neg (by omega)]
  have m20 : ∀ k, y0 20 k = m 20 k := fun k => by rw [hy0, up2_row (by omega), up2_row (by omega)]
  have one : ∀ (z : Mem) (b : Nat) (v : Int32), z 0 28 = 0 → z 0 29 = nI b → b < 300 → pX7_passOne fu z v = some (z 20 b, up2 z 0 29 (nI (b + 1))) := by
    intro z b v z1 z2 z3
    unfold pX7_passOne
    rw [z1, z2]
    simp only [reduceIte, jn1_eq, ck_ok z3 (show 300 < 2 ^ 31 by decide), nI_cl (show b < 2 ^ 31 by omega), lt_eq, nI_1]
  rw [one _ _ _ hfy q29 (by omega), bd2_some, lt_eq]
  rw [one _ (100 * p + 82 + 1) _ (by rw [up2_col (by omega), up2_col (by omega)]; exact hfy) (by rw [up2_col (by omega), up2_same]) (by omega), bd2_some, lt_eq]
  rw [one _ (100 * p + 82 + 1 + 1) _ (by rw [up2_col (by omega), up2_col (by omega), up2_col (by omega), up2_col (by omega)]; exact hfy) (by rw [up2_col (by omega), up2_same]) (by omega), bd2_some, lt_eq]
  have rowv : ∀ o k, 2 ≤ o → o ≤ 15 → (o ≤ 10 → k < 8) → (11 ≤ o → k < 2) → y14 o k = s o k := by
    intro o k h1 h2 h3 h4
    by_cases c : o ≤ 10
    · have e := qk ((o - 2) * 8 + k) (by have := h3 c; omega)
      have e1 : ir ((o - 2) * 8 + k) = o := by have := h3 c; unfold ir; split <;> omega
      have e2 : ic ((o - 2) * 8 + k) = k := by have := h3 c; unfold ic; split <;> omega
      have e3 := hK ((o - 2) * 8 + k) (by have := h3 c; omega)
      rw [e1, e2] at e e3
      rw [e, m20, e3]
    · have e := qk (72 + (o - 11) * 2 + k) (by have := h4 (by omega); omega)
      have e1 : ir (72 + (o - 11) * 2 + k) = o := by have := h4 (by omega); unfold ir; split <;> omega
      have e2 : ic (72 + (o - 11) * 2 + k) = k := by have := h4 (by omega); unfold ic; split <;> omega
      have e3 := hK (72 + (o - 11) * 2 + k) (by have := h4 (by omega); omega)
      rw [e1, e2] at e e3
      rw [e, m20, e3]
  refine ⟨_, rfl, ⟨?_, ?_, ?_, ?_⟩, ?_, ?_, ?_, ?_⟩
  · simp only [up2_at]
    simp [y20, h15]
  · simp only [up2_at]
    simp [y20, h16]
  · intro o k a b c
    simp only [up2_at]
    simp [show ¬ o = 0 by omega]
    exact rowv o k (by omega) (by omega) (fun _ => c) (fun _ => by omega)
  · intro o k a b c
    simp only [up2_at]
    simp [show ¬ o = 0 by omega]
    exact rowv o k (by omega) (by omega) (fun _ => by omega) (fun _ => c)
  · intro k hk
    simp only [up2_at]
    simp
    exact rowv 10 k (by omega) (by omega) (fun _ => hk) (fun _ => by omega)
  · simp only [up2_at]
    simp [y20, h17]
  · intro x hx
    simp only [up2_rw, if_neg (show ¬ x = 0 by omega)]
    rw [qx x hx, hy0, up2_rw, if_neg (by omega), up2_rw, if_neg (by omega)]
  · intro k a b c e f
    simp only [up2_at]
    simp [a, b, c, f]
    rw [q0 k f, hy0, up2_col e, up2_col f]
