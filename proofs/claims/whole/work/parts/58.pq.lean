/-! PURE 25: all comers by minute, in the class and in the model -/
def ins (p i : Nat) (s : Nat → Nat) (k : Nat) : Nat := if k < p then s k else if k = p then i else s (k - 1)
def psn (cm s : Nat → Nat) (i : Nat) : Nat → Nat
  | 0 => 0
  | p + 1 => if cm (s p) ≤ cm i then p + 1 else psn cm s i p
def srt (cm : Nat → Nat) : Nat → Nat → Nat
  | 0 => fun k => k
  | i + 1 => ins (psn cm (srt cm i) i i) i (srt cm i)
theorem psn_le (cm s : Nat → Nat) (i : Nat) : ∀ q, psn cm s i q ≤ q
  | 0 => Nat.le_refl 0
  | p + 1 => by
    unfold psn
    split
    · exact Nat.le_refl _
    · exact Nat.le_succ_of_le (psn_le cm s i p)
theorem psn_lo (cm s : Nat → Nat) (i : Nat) : ∀ q, 0 < psn cm s i q → cm (s (psn cm s i q - 1)) ≤ cm i
  | 0 => fun h => absurd h (by unfold psn; omega)
  | p + 1 => by
    unfold psn
    split
    · intro _
      rw [Nat.add_sub_cancel]
      assumption
    · exact psn_lo cm s i p
theorem psn_hi (cm s : Nat → Nat) (i : Nat) : ∀ q k, psn cm s i q ≤ k → k < q → cm i ≤ cm (s k)
  | 0 => fun k _ h => absurd h (by omega)
  | p + 1 => by
    unfold psn
    split
    · intro k h1 h2
      omega
    · intro k h1 h2
      by_cases e : k = p
      · subst e
        omega
      · exact psn_hi cm s i p k h1 (by omega)
def SO (i : Nat) (cm s : Nat → Nat) : Prop := (∀ k, k < i → s k < i) ∧ (∀ a b, a ≤ b → b < i → cm (s a) ≤ cm (s b)) ∧ (∀ f : Nat → Int32, sumN i (fun k => f (s k)) = sumN i f) ∧ ∀ j, j < i → ∃ k, k < i ∧ s k = j
theorem sum_ins (f : Nat → Int32) (p i : Nat) (s : Nat → Nat) : ∀ c, sumN (p + c + 1) (fun k => f (ins p i s k)) = sumN (p + c) (fun k => f (s k)) + f i
  | 0 => by
    rw [Nat.add_zero, sumN, sumN_congr (g := fun k => f (s k)) (fun k hk => by unfold ins; rw [if_pos hk])]
    congr 1
    unfold ins
    rw [if_neg (by omega), if_pos rfl]
  | c + 1 => by
    rw [show p + (c + 1) + 1 = (p + c + 1) + 1 from rfl, sumN, sum_ins f p i s c, show p + (c + 1) = (p + c) + 1 from rfl, sumN]
    have e : ins p i s (p + c + 1) = s (p + c) := by
      unfold ins
      rw [if_neg (by omega), if_neg (by omega)]
      congr 1
    rw [e, Int32.add_assoc, Int32.add_assoc, Int32.add_comm (f i)]
theorem so_ins {i p : Nat} {cm s : Nat → Nat} (h : SO i cm s) (hp : p ≤ i) (h1 : 0 < p → cm (s (p - 1)) ≤ cm i) (h2 : ∀ k, p ≤ k → k < i → cm i ≤ cm (s k)) : SO (i + 1) cm (ins p i s) := by
  obtain ⟨a1, a2, a3, a4⟩ := h
  have L : ∀ k, k < p → ins p i s k = s k := fun k hk => by unfold ins; rw [if_pos hk]
  have E : ins p i s p = i := by unfold ins; rw [if_neg (by omega), if_pos rfl]
  have G : ∀ k, p < k → ins p i s k = s (k - 1) := fun k hk => by unfold ins; rw [if_neg (by omega), if_neg (by omega)]
  refine ⟨fun k hk => ?_, fun a b ab hb => ?_, fun f => ?_, fun j hj => ?_⟩
  · rcases Nat.lt_trichotomy k p with c | c | c
    · rw [L k c]
      have := a1 k (by omega)
      omega
    · subst c
      rw [E]
      omega
    · rw [G k c]
      have := a1 (k - 1) (by omega)
      omega
  · rcases Nat.lt_trichotomy a p with c | c | c
    · rw [L a c]
      rcases Nat.lt_trichotomy b p with e | e | e
      · rw [L b e]
        exact a2 a b ab (by omega)
      · subst e
        rw [E]
        exact Nat.le_trans (a2 a (b - 1) (by omega) (by omega)) (h1 (by omega))
      · rw [G b e]
        exact a2 a (b - 1) (by omega) (by omega)
    · subst c
      rw [E]
      rcases Nat.lt_trichotomy b a with e | e | e
      · omega
      · subst e
        rw [E]
        exact Nat.le_refl _
      · rw [G b e]
        exact h2 (b - 1) (by omega) (by omega)
    · rw [G a c, G b (by omega)]
      exact a2 (a - 1) (b - 1) (by omega) (by omega)
  · have := sum_ins f p i s (i - p)
    rw [show p + (i - p) = i by omega] at this
    rw [this, a3 f, sumN]
  · by_cases c : j = i
    · exact ⟨p, by omega, by rw [E]; exact c.symm⟩
    · obtain ⟨k, k1, k2⟩ := a4 j (by omega)
      by_cases e : k < p
      · exact ⟨k, by omega, by rw [L k e]; exact k2⟩
      · exact ⟨k + 1, by omega, by rw [G (k + 1) (by omega), Nat.add_sub_cancel]; exact k2⟩
theorem srt_so (cm : Nat → Nat) : ∀ i, SO i cm (srt cm i)
  | 0 => ⟨fun k h => absurd h (by omega), fun a b _ h => absurd h (by omega), fun f => rfl, fun j h => absurd h (by omega)⟩
  | i + 1 => so_ins (srt_so cm i) (psn_le _ _ _ _) (psn_lo _ _ _ _) (fun k h1 h2 => psn_hi _ _ _ _ k h1 h2)
/-- what the class and the model know of the comers -/
def AX (N : Nat) (cm wn : Nat → Nat) (d m : Mem) : Prop := N ≤ 8 ∧ d 0 4 = nI N ∧ m 0 15 = nI N ∧ ∀ j, j < N → cm j ≤ 119 ∧ 1 ≤ wn j ∧ wn j ≤ 3 ∧ d (5 + j) 2 = nI (cm j) ∧ m 5 j = nI (cm j) ∧ d (5 + j) 3 = nI (wn j) ∧ m 6 j = nI (wn j)
theorem BQ.ax {N : Nat} {d m : Mem} (h : BQ N d m) : ∃ cm wn, AX N cm wn d m := by
  obtain ⟨n8, h1, h2, h3, h4, h5⟩ := h
  refine ⟨fun j => (d (5 + j) 2).toNatClampNeg, fun j => (d (5 + j) 3).toNatClampNeg, n8, h1, h2, fun j hj => ?_⟩
  obtain ⟨⟨-, -, ⟨a, -, a1, ea⟩, ⟨b, b0, b1, eb⟩, -⟩, -, -, g2, g3, -⟩ := h5 j hj
  dsimp only
  rw [← g2, ← g3, ea, eb, nI_cl (by omega), nI_cl (by omega)]
  exact ⟨a1, b0, b1, rfl, rfl, rfl, rfl⟩
def AR (i : Nat) (cm wn s : Nat → Nat) (A : Mem) : Prop := A 0 2 = nI i ∧ ∀ k, k < i → A 1 k = nI (cm (s k)) ∧ A 2 k = nI (wn (s k))
theorem X0_insert_eq {fu i : Nat} {cm wn s : Nat → Nat} {A : Mem} (h : AR i cm wn s A) (hi : i < 8) (hs : ∀ k, k < i → cm (s k) ≤ 119) (hc : cm i ≤ 119) (hfu : 8 < fu) : ∃ A', pX0_insert fu A (nI (cm i)) (nI (wn i)) = some A' ∧ AR (i + 1) cm wn (ins (psn cm s i i) i s) A' := by
  unfold pX0_insert
  rw [lt_eq, h.1]
  refine csp2 i (fun c (x : Int32) (y : Mem) => ∃ q, q + c = i ∧ x = nI q ∧ y 0 2 = nI i ∧ psn cm s i i = psn cm s i q ∧ (∀ k, k < q → y 1 k = nI (cm (s k)) ∧ y 2 k = nI (wn (s k))) ∧ ∀ k, q < k → k ≤ i → y 1 k = nI (cm (s (k - 1))) ∧ y 2 k = nI (wn (s (k - 1)))) (fun (r : Option Mem) => ∃ A', r = some A' ∧ AR (i + 1) cm wn (ins (psn cm s i i) i s) A') ?_ fu 0 _ _ ⟨i, by omega, rfl, h.1, rfl, h.2, fun k h1 h2 => absurd h1 (by omega)⟩ (by omega) (by omega)
  rintro c g x y c1 ⟨q, q1, rfl, y0, yp, ya, yb⟩ hcc
  have fin : psn cm s i q = q → ∃ A', some (up2 (up2 (up2 y 1 q (nI (cm i))) 2 q (nI (wn i))) 0 2 (nI (i + 1))) = some A' ∧ AR (i + 1) cm wn (ins (psn cm s i i) i s) A' := by
    intro e
    refine ⟨_, rfl, up2_same _ _ _ _, fun k hk => ?_⟩
    rw [up2_row (o := 0) (o' := 1) (by omega), up2_row (o := 0) (o' := 2) (by omega), up2_row (o := 2) (o' := 1) (by omega), yp, e]
    unfold ins
    by_cases c1 : k < q
    · rw [if_pos c1, up2_col (by omega), up2_col (by omega), up2_row (by omega)]
      exact ya k c1
    · rw [if_neg c1]
      by_cases c2 : k = q
      · subst c2
        rw [if_pos rfl, up2_same, up2_same]
        exact ⟨rfl, rfl⟩
      · rw [if_neg c2, up2_col (by omega), up2_col (by omega), up2_row (by omega)]
        exact yb k (by omega) (by omega)
  simp only [jn1_eq, lt_eq, ck_ok (show q < 8 by omega) (show 8 < 2 ^ 31 by decide), nI_cl (show q < 2 ^ 31 by omega), up2_row (o := 1) (o' := 0) (show 0 ≠ 1 by omega), up2_row (o := 2) (o' := 0) (show 0 ≠ 2 by omega), y0, nI_1]
  cases q with
  | zero =>
    rw [if_pos (show nI 0 ≤ 0 by decide)]
    exact fin rfl
  | succ q =>
    have sq := ya q (by omega)
    simp only [if_neg (nI_nle (show 0 < q + 1 by omega) (show q + 1 < 2 ^ 31 by omega)), nI_pred, ck_ok (show q < 8 by omega) (show 8 < 2 ^ 31 by decide), nI_cl (show q < 2 ^ 31 by omega), sq.1]
    by_cases e : cm (s q) ≤ cm i
    · rw [if_pos (nI_le e (by omega))]
      exact fin (by unfold psn; rw [if_pos e])
    · rw [if_neg (nI_ge (by omega) (by have := hs q (by omega); omega)), pk_m1]
      refine hcc _ _ (by omega) ⟨q, by omega, rfl, ?_, ?_, fun k hk => ?_, fun k h1 h2 => ?_⟩
      · rw [up2_row (by omega), up2_row (by omega)]; exact y0
      · rw [yp]; exact (show psn cm s i (q + 1) = psn cm s i q by rw [psn, if_neg e])
      · rw [up2_row (o := 2) (o' := 1) (by omega), up2_col (by omega), up2_col (by omega), up2_row (by omega)]
        exact ya k (by omega)
      · rw [up2_row (o := 2) (o' := 1) (by omega)]
        by_cases c2 : k = q + 1
        · subst c2
          rw [up2_same, up2_same, up2_row (by omega), Nat.add_sub_cancel]
          exact ⟨rfl, sq.2⟩
        · rw [up2_col (by omega), up2_col (by omega), up2_row (by omega)]
          exact yb k (by omega) (by omega)
theorem X0_take_eq {fu N : Nat} {cm wn : Nat → Nat} {A d m : Mem} (h : AX N cm wn d m) (hfu : 8 < fu) : ∃ A', pX0_take fu A d = some A' ∧ AR N cm wn (srt cm N) A' := by
  obtain ⟨n8, h1, h2, h3⟩ := h
  unfold pX0_take
  rw [lt_eq]
  refine csp2 N (fun i (x : Int32) (y : Mem) => x = nI i ∧ AR i cm wn (srt cm i) y) (fun (r : Option Mem) => ∃ A', r = some A' ∧ AR N cm wn (srt cm N) A') ?_ fu 0 _ _ ⟨rfl, up2_same _ _ _ _, fun k hk => absurd hk (by omega)⟩ (by omega) (by omega)
  rintro i g x y i1 ⟨rfl, hA⟩ hc
  rw [h1]
  by_cases w : i < N
  · obtain ⟨a1, a2, a3, a4, a5, a6, a7⟩ := h3 i w
    have hso := srt_so cm i
    obtain ⟨A', e, hA'⟩ := X0_insert_eq (fu := fu) hA (by omega) (fun k hk => (h3 _ (Nat.lt_trans (hso.1 k hk) w)).1) a1 hfu
    simp only [if_neg (nI_ge w (show N < 2 ^ 31 by omega)), hA.1, if_neg (show ¬ 8 ≤ nI i from nI_ge (show i < 8 by omega) (by decide)), ck_ok (show i < 8 by omega) (show 8 < 2 ^ 31 by decide), nI_cl (show i < 2 ^ 31 by omega), a4, a6, e, bd_some, lt_eq, nI_1]
    exact hc _ _ w ⟨rfl, hA'⟩
  · have e : i = N := by omega
    subst e
    rw [if_pos (nI_le (Nat.le_refl _) (by omega))]
    exact ⟨_, rfl, hA⟩
theorem X7_sorts_eq {fu N : Nat} {cm wn : Nat → Nat} {d m : Mem} (h : AX N cm wn d m) (hfu : 8 < fu) : ∃ z, pX7_sorts fu m = some z ∧ (∀ k, k < N → z 21 k = nI (srt cm N k)) ∧ ∀ o, o ≠ 21 → z o = m o := by
  obtain ⟨n8, h1, h2, h3⟩ := h
  unfold pX7_sorts
  refine csp2 N (fun i (x : Int32) (y : Mem) => x = nI i ∧ (∀ k, k < i → y 21 k = nI (srt cm i k)) ∧ ∀ o, o ≠ 21 → y o = m o) (fun (r : Option Mem) => ∃ z, r = some z ∧ (∀ k, k < N → z 21 k = nI (srt cm N k)) ∧ ∀ o, o ≠ 21 → z o = m o) ?_ fu 0 _ _ ⟨rfl, fun k hk => absurd hk (by omega), fun _ _ => rfl⟩ (by omega) (by omega)
  rintro i g x y i1 ⟨rfl, hB, hO⟩ hc
  rw [hO 0 (by omega), h2]
  by_cases w : i < N
  · rw [if_neg (nI_ge w (show N < 2 ^ 31 by omega))]
    have hso := srt_so cm i
    have hs : ∀ k, k < i → cm (srt cm i k) ≤ 119 := fun k hk => (h3 _ (Nat.lt_trans (hso.1 k hk) w)).1
    obtain ⟨ci, -, -, -, c5, -⟩ := h3 i w
    generalize hS : srt cm i = s at hB hso hs
    have hnew : srt cm (i + 1) = ins (psn cm s i i) i s := by rw [srt, hS]
    refine csp2 i (fun c (x : Int32) (y : Mem) => ∃ q, q + c = i ∧ x = nI q ∧ psn cm s i i = psn cm s i q ∧ (∀ k, k < q → y 21 k = nI (s k)) ∧ (∀ k, q < k → k ≤ i → y 21 k = nI (s (k - 1))) ∧ ∀ o, o ≠ 21 → y o = m o) (fun (r : Option Mem) => ∃ z, r = some z ∧ (∀ k, k < N → z 21 k = nI (srt cm N k)) ∧ ∀ o, o ≠ 21 → z o = m o) ?_ fu 0 _ _ ⟨i, by omega, rfl, rfl, hB, fun k h1 h2 => absurd h1 (by omega), hO⟩ (by omega) (by omega)
    rintro c g2 x y c1 ⟨q, q1, rfl, yp, ya, yb, hO⟩ hcc
    have fin : psn cm s i q = q → ∃ z, g (nI (i + 1)) (up2 y 21 q (nI i)) = some z ∧ (∀ k, k < N → z 21 k = nI (srt cm N k)) ∧ ∀ o, o ≠ 21 → z o = m o := by
      intro e
      refine hc _ _ w ⟨rfl, fun k hk => ?_, fun o ho => by rw [up_rowo _ _ _ _ _ ho]; exact hO o ho⟩
      rw [hnew, yp, e]
      unfold ins
      by_cases c1 : k < q
      · rw [if_pos c1, up2_col (by omega)]
        exact ya k c1
      · rw [if_neg c1]
        by_cases c2 : k = q
        · subst c2
          rw [if_pos rfl, up2_same]
        · rw [if_neg c2, up2_col (by omega)]
          exact yb k (by omega) (by omega)
    simp only [lt_eq, ck_ok (show q < 8 by omega) (show 8 < 2 ^ 31 by decide), nI_cl (show q < 2 ^ 31 by omega), nI_1]
    cases q with
    | zero =>
      rw [if_pos (show nI 0 ≤ 0 by decide)]
      exact fin rfl
    | succ q =>
      have sq := ya q (by omega)
      have sqi := hso.1 q (by omega)
      obtain ⟨-, -, -, -, d5, -⟩ := h3 (s q) (by omega)
      simp only [if_neg (nI_nle (show 0 < q + 1 by omega) (show q + 1 < 2 ^ 31 by omega)), nI_pred, ck_ok (show q < 8 by omega) (show 8 < 2 ^ 31 by decide), nI_cl (show q < 2 ^ 31 by omega), sq, ck_ok (show s q < 8 by omega) (show 8 < 2 ^ 31 by decide), nI_cl (show s q < 2 ^ 31 by omega), ck_ok (show i < 8 by omega) (show 8 < 2 ^ 31 by decide), nI_cl (show i < 2 ^ 31 by omega), hO 5 (by omega), c5, d5]
      by_cases e : cm (s q) ≤ cm i
      · rw [if_pos (nI_le e (by omega))]
        exact fin (by unfold psn; rw [if_pos e])
      · rw [if_neg (nI_ge (by omega) (by have := hs q (by omega); omega)), pk_m1]
        refine hcc _ _ (by omega) ⟨q, by omega, rfl, ?_, fun k hk => ?_, fun k h1 h2 => ?_, fun o ho => by rw [up_rowo _ _ _ _ _ ho]; exact hO o ho⟩
        · rw [yp]; exact (show psn cm s i (q + 1) = psn cm s i q by rw [psn, if_neg e])
        · rw [up2_col (by omega)]
          exact ya k (by omega)
        · by_cases c2 : k = q + 1
          · subst c2
            rw [up2_same, Nat.add_sub_cancel]
          · rw [up2_col (by omega)]
            exact yb k (by omega) (by omega)
  · have e : i = N := by omega
    subst e
    rw [if_pos (nI_le (Nat.le_refl _) (by omega))]
    exact ⟨_, rfl, hB, hO⟩
/-! hours of an urn -/
theorem hours_eq {fu N : Nat} {cm wn : Nat → Nat} {A d m : Mem} (h : AX N cm wn d m) (hA : AR N cm wn (srt cm N) A) (hfu : 8 < fu) : ∃ r, pX0_hours fu A = some r ∧ pX7_hours fu m = some r := by
  obtain ⟨n8, h1, h2, h3⟩ := h
  have hso := srt_so cm N
  generalize srt cm N = s at hso hA
  unfold pX0_hours pX7_hours
  rw [hA.1]
  by_cases n0 : N = 0
  · subst n0
    rw [if_pos (show nI 0 = 0 from rfl)]
    obtain ⟨f, rfl⟩ : ∃ f, fu = f + 1 := ⟨fu - 1, by omega⟩
    refine ⟨0, rfl, ?_⟩
    show (if m 0 15 ≤ 0 then _ else _) = some 0
    rw [h2, if_pos (show nI 0 ≤ 0 by decide), if_pos (show nI 0 = 0 from rfl)]
  · have ne : ¬ nI N = 0 := nI_ne0 (by omega) (by omega)
    have l0 := hA.2 0 (by omega)
    have l1 := hA.2 (N - 1) (by omega)
    have hle := hso.2.1 0 (N - 1) (by omega) (by omega)
    have b1 := (h3 _ (hso.1 (N - 1) (by omega))).1
    rw [if_neg ne, show (1 : Int32) = nI 1 from rfl, pk_sub (by omega), ck_ok (show N - 1 < 8 by omega) (by decide), nI_cl (by omega), l0.1, l1.1, pk_sub hle, show (60 : Int32) = nI 60 from rfl, nI_add, pk_sub (by omega), pk_div (by omega) (by omega) (by omega)]
    refine ⟨_, rfl, ?_⟩
    refine csp3 N (fun i (x1 x2 x3 : Int32) => ∃ mn mx, mn ≤ 180 ∧ mx ≤ 180 ∧ x1 = nI mn ∧ x2 = nI mx ∧ x3 = nI i ∧ (∀ j, j < i → mn ≤ cm j ∧ cm j ≤ mx) ∧ ((i = 0 ∧ mn = 180 ∧ mx = 0) ∨ (∃ j, j < i ∧ mn = cm j) ∧ ∃ j, j < i ∧ mx = cm j)) (fun (r : Option Int32) => r = some (imax (nI 1) (nI ((cm (s (N - 1)) - cm (s 0) + 60 - 1) / 60)))) ?_ fu 0 _ _ _ ⟨180, 0, by omega, by omega, rfl, rfl, rfl, fun j hj => absurd hj (by omega), Or.inl ⟨rfl, rfl, rfl⟩⟩ (by omega) (by omega)
    rintro i g x1 x2 x3 i1 ⟨mn, mx, m1, m2, rfl, rfl, rfl, hb, hx⟩ hc
    rw [h2]
    by_cases w : i < N
    · obtain ⟨c1, -, -, -, c5, -⟩ := h3 i w
      simp only [if_neg (nI_ge w (show N < 2 ^ 31 by omega)), ck_ok (show i < 8 by omega) (show 8 < 2 ^ 31 by decide), nI_cl (show i < 2 ^ 31 by omega), c5, jn1_eq, lt_eq, ← show nI 1 = 1 from rfl, nI_add]
      have nmx : ∀ mn', mn' ≤ 180 → (∀ j, j < i + 1 → mn' ≤ cm j) → (∃ j, j < i + 1 ∧ mn' = cm j) → (if nI (cm i) ≤ nI mx then g (nI mn') (nI mx) (nI (i + 1)) else g (nI mn') (nI (cm i)) (nI (i + 1))) = some (imax (nI 1) (nI ((cm (s (N - 1)) - cm (s 0) + 60 - 1) / 60))) := by
        intro mn' q1 q2 q3
        by_cases e : cm i ≤ mx
        · rw [if_pos (nI_le e (by omega))]
          refine hc _ _ _ w ⟨mn', mx, q1, m2, rfl, rfl, rfl, fun j hj => ⟨q2 j hj, ?_⟩, Or.inr ⟨q3, ?_⟩⟩
          · by_cases z : j = i
            · rw [z]; exact e
            · exact (hb j (by omega)).2
          · rcases hx with ⟨a, b, c⟩ | ⟨-, ⟨j, j1, j2⟩⟩
            · exact ⟨i, by omega, by omega⟩
            · exact ⟨j, by omega, j2⟩
        · rw [if_neg (nI_ge (by omega) (by omega))]
          refine hc _ _ _ w ⟨mn', cm i, q1, by omega, rfl, rfl, rfl, fun j hj => ⟨q2 j hj, ?_⟩, Or.inr ⟨q3, ⟨i, by omega, rfl⟩⟩⟩
          by_cases z : j = i
          · rw [z]; exact Nat.le_refl _
          · have := (hb j (by omega)).2
            omega
      by_cases e : mn ≤ cm i
      · rw [if_pos (nI_le e (by omega))]
        refine nmx mn m1 (fun j hj => ?_) ?_
        · by_cases z : j = i
          · rw [z]; exact e
          · exact (hb j (by omega)).1
        · rcases hx with ⟨a, b, c⟩ | ⟨⟨j, j1, j2⟩, -⟩
          · omega
          · exact ⟨j, by omega, j2⟩
      · rw [if_neg (nI_ge (by omega) (by omega))]
        refine nmx (cm i) (by omega) (fun j hj => ?_) ⟨i, by omega, rfl⟩
        by_cases z : j = i
        · rw [z]; exact Nat.le_refl _
        · have := (hb j (by omega)).1
          omega
    · have e : i = N := by omega
      subst e
      rw [if_pos (nI_le (Nat.le_refl _) (by omega)), if_neg ne]
      rcases hx with ⟨a, -⟩ | ⟨⟨j1, p1, p2⟩, ⟨j2, p3, p4⟩⟩
      · exact absurd a n0
      · obtain ⟨k1, k11, k12⟩ := hso.2.2.2 j1 p1
        obtain ⟨k2, k21, k22⟩ := hso.2.2.2 j2 p3
        have q1 := hso.2.1 0 k1 (by omega) k11
        have q2 := hso.2.1 k2 (i - 1) (by omega) (by omega)
        rw [k12] at q1
        rw [k22] at q2
        have q3 := (hb _ (hso.1 0 (by omega))).1
        have q4 := (hb _ (hso.1 (i - 1) (by omega))).2
        have e1 : mn = cm (s 0) := by omega
        have e2 : mx = cm (s (i - 1)) := by omega
        subst e1 e2
        rw [pk_sub hle, show (59 : Int32) = nI 59 from rfl, nI_add, pk_div (by omega) (by omega) (by omega)]
        generalize hDD : cm (s (i - 1)) - cm (s 0) = D at *
        have D1 : D ≤ 119 := by omega
        unfold imax
        by_cases z : 60 < D
        · rw [if_pos (nI_lt z (by omega)), if_pos (nI_lt (show 1 < (D + 60 - 1) / 60 by omega) (by omega)), show (D + 60 - 1) / 60 = (D + 59) / 60 by omega]
        · rw [if_neg (nI_nlt (by omega) (by omega)), if_neg (nI_nlt (by omega) (by omega))]
theorem urn_R {fu : Nat} {f n k le m : Mem} (h : RR f n k le m) (hfu : 200 < fu) (md ar : Mem) (p : Int32) : ∃ r f' md' ar' m', pX6_urn fu f n md ar p = some (r, f', md', ar') ∧ pX7_urn fu m p = some (r, m') ∧ RR f' n k le m' := by
  obtain ⟨f4, m4, b1, b2, hr4⟩ := ref4 (fu := fu) h
  obtain ⟨f6, m6, c1, c2, hr6⟩ := ref6 (fu := fu) h
  unfold pX6_urn pX7_urn pX7_bound
  by_cases p0 : 0 ≤ p
  · by_cases p1 : p ≤ 99
    · have hh := h
      obtain ⟨hF, ⟨nn, t, l, hD⟩, -⟩ := hh
      obtain ⟨y, m1, t1, t2, hD1, hS1⟩ := take_save (fu := fu) (z := md) hD (by omega)
      obtain ⟨cst, d2, m2, t2', l2, cc, e1, e2, hD2, hF2, hG2⟩ := anew_sim (fu := fu) hD1.bq hfu
      obtain ⟨m3, e5, hK, -⟩ := back (fu := fu) (hS1.fw hG2.fw) (by omega)
      have hD3 := hD.cgm hK.1 hK.2.1 hK.2.2.1
      obtain ⟨cm, wn, hX⟩ := hD3.bq.ax
      obtain ⟨A, g1, hA⟩ := X0_take_eq (fu := fu) (A := ar) hX (by omega)
      obtain ⟨hr, g2, g3⟩ := hours_eq (fu := fu) hX hA (by omega)
      simp only [if_pos p0, if_pos p1, bd_some, reduceIte, t1, t2, g1, g2, e1, e2, bd2_some, e5, g3]
      by_cases z : nI cst ≤ hr * p
      · rw [if_pos z, if_pos z]
        exact ⟨_, _, _, _, _, rfl, rfl, h.keep hK⟩
      · rw [if_neg z, if_neg z]
        exact ⟨_, _, _, _, _, rfl, rfl, h.keep hK⟩
    · simp only [if_pos p0, if_neg p1, bd_some, if_neg (show ¬ (-6 : Int32) = 0 by decide), c1, c2, bd2_some]
      exact ⟨_, _, _, _, _, rfl, rfl, hr6⟩
  · simp only [if_neg p0, bd_some, if_neg (show ¬ (-4 : Int32) = 0 by decide), b1, b2, bd2_some]
    exact ⟨_, _, _, _, _, rfl, rfl, hr4⟩
