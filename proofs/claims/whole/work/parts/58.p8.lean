/-! PURE 8: loops walked to their ends, one and two side by side; the line closes up -/
theorem sp1 {α1 γ : Type} {F : (α1 → Option γ) → α1 → Option γ} (n : Nat) (Inv : Nat → α1 → Prop) (Post : Option γ → Prop)
    (hs : ∀ i a, Inv i a → (i < n ∧ ∃ a', (∀ g, F g a = g a') ∧ Inv (i + 1) a') ∨ (∀ g, Post (F g a))) : ∀ (fu i : Nat) a, Inv i a → n < fu + i → i ≤ n → Post (zl1 F fu a) := by
  intro fu
  induction fu with
  | zero => intro i a _ h1 h2; omega
  | succ fu ih =>
    intro i a h0 h1 h2
    show Post (F (zl1 F fu) a)
    rcases hs i a h0 with ⟨h3, a', e, h4⟩ | h3
    · rw [e]
      exact ih (i + 1) _ h4 (by omega) (by omega)
    · exact h3 _
theorem sp2 {α1 α2 γ : Type} {F : (α1 → α2 → Option γ) → α1 → α2 → Option γ} (n : Nat) (Inv : Nat → α1 → α2 → Prop) (Post : Option γ → Prop)
    (hs : ∀ i a b, Inv i a b → (i < n ∧ ∃ a' b', (∀ g, F g a b = g a' b') ∧ Inv (i + 1) a' b') ∨ (∀ g, Post (F g a b))) : ∀ (fu i : Nat) a b, Inv i a b → n < fu + i → i ≤ n → Post (zl2 F fu a b) := by
  intro fu
  induction fu with
  | zero => intro i a b _ h1 h2; omega
  | succ fu ih =>
    intro i a b h0 h1 h2
    show Post (F (zl2 F fu) a b)
    rcases hs i a b h0 with ⟨h3, a', b', e, h4⟩ | h3
    · rw [e]
      exact ih (i + 1) _ _ h4 (by omega) (by omega)
    · exact h3 _
theorem sp3 {α1 α2 α3 γ : Type} {F : (α1 → α2 → α3 → Option γ) → α1 → α2 → α3 → Option γ} (n : Nat) (Inv : Nat → α1 → α2 → α3 → Prop) (Post : Option γ → Prop)
    (hs : ∀ i a b c, Inv i a b c → (i < n ∧ ∃ a' b' c', (∀ g, F g a b c = g a' b' c') ∧ Inv (i + 1) a' b' c') ∨ (∀ g, Post (F g a b c))) : ∀ (fu i : Nat) a b c, Inv i a b c → n < fu + i → i ≤ n → Post (zl3 F fu a b c) := by
  intro fu
  induction fu with
  | zero => intro i a b c _ h1 h2; omega
  | succ fu ih =>
    intro i a b c h0 h1 h2
    show Post (F (zl3 F fu) a b c)
    rcases hs i a b c h0 with ⟨h3, a', b', c', e, h4⟩ | h3
    · rw [e]
      exact ih (i + 1) _ _ _ h4 (by omega) (by omega)
    · exact h3 _
theorem sp4 {α1 α2 α3 α4 γ : Type} {F : (α1 → α2 → α3 → α4 → Option γ) → α1 → α2 → α3 → α4 → Option γ} (n : Nat) (Inv : Nat → α1 → α2 → α3 → α4 → Prop) (Post : Option γ → Prop)
    (hs : ∀ i a b c d, Inv i a b c d → (i < n ∧ ∃ a' b' c' d', (∀ g, F g a b c d = g a' b' c' d') ∧ Inv (i + 1) a' b' c' d') ∨ (∀ g, Post (F g a b c d))) : ∀ (fu i : Nat) a b c d, Inv i a b c d → n < fu + i → i ≤ n → Post (zl4 F fu a b c d) := by
  intro fu
  induction fu with
  | zero => intro i a b c d _ h1 h2; omega
  | succ fu ih =>
    intro i a b c d h0 h1 h2
    show Post (F (zl4 F fu) a b c d)
    rcases hs i a b c d h0 with ⟨h3, a', b', c', d', e, h4⟩ | h3
    · rw [e]
      exact ih (i + 1) _ _ _ _ h4 (by omega) (by omega)
    · exact h3 _
theorem sp5 {α1 α2 α3 α4 α5 γ : Type} {F : (α1 → α2 → α3 → α4 → α5 → Option γ) → α1 → α2 → α3 → α4 → α5 → Option γ} (n : Nat) (Inv : Nat → α1 → α2 → α3 → α4 → α5 → Prop) (Post : Option γ → Prop)
    (hs : ∀ i a b c d e, Inv i a b c d e → (i < n ∧ ∃ a' b' c' d' e', (∀ g, F g a b c d e = g a' b' c' d' e') ∧ Inv (i + 1) a' b' c' d' e') ∨ (∀ g, Post (F g a b c d e))) : ∀ (fu i : Nat) a b c d e, Inv i a b c d e → n < fu + i → i ≤ n → Post (zl5 F fu a b c d e) := by
  intro fu
  induction fu with
  | zero => intro i a b c d e _ h1 h2; omega
  | succ fu ih =>
    intro i a b c d e h0 h1 h2
    show Post (F (zl5 F fu) a b c d e)
    rcases hs i a b c d e h0 with ⟨h3, a', b', c', d', e', e, h4⟩ | h3
    · rw [e]
      exact ih (i + 1) _ _ _ _ _ h4 (by omega) (by omega)
    · exact h3 _
theorem sim11 {α1 β1 γ δ : Type} {F : (α1 → Option γ) → α1 → Option γ} {G : (β1 → Option δ) → β1 → Option δ} (n : Nat) (Inv : Nat → α1 → β1 → Prop) (Post : Option γ → Option δ → Prop)
    (hs : ∀ i a p, Inv i a p → (i < n ∧ ∃ a' p', (∀ g, F g a = g a') ∧ (∀ g, G g p = g p') ∧ Inv (i + 1) a' p') ∨ (∀ g h, Post (F g a) (G h p))) : ∀ (fu i : Nat) a p, Inv i a p → n < fu + i → i ≤ n → Post (zl1 F fu a) (zl1 G fu p) := by
  intro fu
  induction fu with
  | zero => intro i a p _ h1 h2; omega
  | succ fu ih =>
    intro i a p h0 h1 h2
    show Post (F (zl1 F fu) a) (G (zl1 G fu) p)
    rcases hs i a p h0 with ⟨h3, a', p', e1, e2, h4⟩ | h3
    · rw [e1, e2]
      exact ih (i + 1) _ _ h4 (by omega) (by omega)
    · exact h3 _ _
theorem sim12 {α1 β1 β2 γ δ : Type} {F : (α1 → Option γ) → α1 → Option γ} {G : (β1 → β2 → Option δ) → β1 → β2 → Option δ} (n : Nat) (Inv : Nat → α1 → β1 → β2 → Prop) (Post : Option γ → Option δ → Prop)
    (hs : ∀ i a p q, Inv i a p q → (i < n ∧ ∃ a' p' q', (∀ g, F g a = g a') ∧ (∀ g, G g p q = g p' q') ∧ Inv (i + 1) a' p' q') ∨ (∀ g h, Post (F g a) (G h p q))) : ∀ (fu i : Nat) a p q, Inv i a p q → n < fu + i → i ≤ n → Post (zl1 F fu a) (zl2 G fu p q) := by
  intro fu
  induction fu with
  | zero => intro i a p q _ h1 h2; omega
  | succ fu ih =>
    intro i a p q h0 h1 h2
    show Post (F (zl1 F fu) a) (G (zl2 G fu) p q)
    rcases hs i a p q h0 with ⟨h3, a', p', q', e1, e2, h4⟩ | h3
    · rw [e1, e2]
      exact ih (i + 1) _ _ _ h4 (by omega) (by omega)
    · exact h3 _ _
theorem sim13 {α1 β1 β2 β3 γ δ : Type} {F : (α1 → Option γ) → α1 → Option γ} {G : (β1 → β2 → β3 → Option δ) → β1 → β2 → β3 → Option δ} (n : Nat) (Inv : Nat → α1 → β1 → β2 → β3 → Prop) (Post : Option γ → Option δ → Prop)
    (hs : ∀ i a p q r, Inv i a p q r → (i < n ∧ ∃ a' p' q' r', (∀ g, F g a = g a') ∧ (∀ g, G g p q r = g p' q' r') ∧ Inv (i + 1) a' p' q' r') ∨ (∀ g h, Post (F g a) (G h p q r))) : ∀ (fu i : Nat) a p q r, Inv i a p q r → n < fu + i → i ≤ n → Post (zl1 F fu a) (zl3 G fu p q r) := by
  intro fu
  induction fu with
  | zero => intro i a p q r _ h1 h2; omega
  | succ fu ih =>
    intro i a p q r h0 h1 h2
    show Post (F (zl1 F fu) a) (G (zl3 G fu) p q r)
    rcases hs i a p q r h0 with ⟨h3, a', p', q', r', e1, e2, h4⟩ | h3
    · rw [e1, e2]
      exact ih (i + 1) _ _ _ _ h4 (by omega) (by omega)
    · exact h3 _ _
theorem sim14 {α1 β1 β2 β3 β4 γ δ : Type} {F : (α1 → Option γ) → α1 → Option γ} {G : (β1 → β2 → β3 → β4 → Option δ) → β1 → β2 → β3 → β4 → Option δ} (n : Nat) (Inv : Nat → α1 → β1 → β2 → β3 → β4 → Prop) (Post : Option γ → Option δ → Prop)
    (hs : ∀ i a p q r s, Inv i a p q r s → (i < n ∧ ∃ a' p' q' r' s', (∀ g, F g a = g a') ∧ (∀ g, G g p q r s = g p' q' r' s') ∧ Inv (i + 1) a' p' q' r' s') ∨ (∀ g h, Post (F g a) (G h p q r s))) : ∀ (fu i : Nat) a p q r s, Inv i a p q r s → n < fu + i → i ≤ n → Post (zl1 F fu a) (zl4 G fu p q r s) := by
  intro fu
  induction fu with
  | zero => intro i a p q r s _ h1 h2; omega
  | succ fu ih =>
    intro i a p q r s h0 h1 h2
    show Post (F (zl1 F fu) a) (G (zl4 G fu) p q r s)
    rcases hs i a p q r s h0 with ⟨h3, a', p', q', r', s', e1, e2, h4⟩ | h3
    · rw [e1, e2]
      exact ih (i + 1) _ _ _ _ _ h4 (by omega) (by omega)
    · exact h3 _ _
theorem sim15 {α1 β1 β2 β3 β4 β5 γ δ : Type} {F : (α1 → Option γ) → α1 → Option γ} {G : (β1 → β2 → β3 → β4 → β5 → Option δ) → β1 → β2 → β3 → β4 → β5 → Option δ} (n : Nat) (Inv : Nat → α1 → β1 → β2 → β3 → β4 → β5 → Prop) (Post : Option γ → Option δ → Prop)
    (hs : ∀ i a p q r s t, Inv i a p q r s t → (i < n ∧ ∃ a' p' q' r' s' t', (∀ g, F g a = g a') ∧ (∀ g, G g p q r s t = g p' q' r' s' t') ∧ Inv (i + 1) a' p' q' r' s' t') ∨ (∀ g h, Post (F g a) (G h p q r s t))) : ∀ (fu i : Nat) a p q r s t, Inv i a p q r s t → n < fu + i → i ≤ n → Post (zl1 F fu a) (zl5 G fu p q r s t) := by
  intro fu
  induction fu with
  | zero => intro i a p q r s t _ h1 h2; omega
  | succ fu ih =>
    intro i a p q r s t h0 h1 h2
    show Post (F (zl1 F fu) a) (G (zl5 G fu) p q r s t)
    rcases hs i a p q r s t h0 with ⟨h3, a', p', q', r', s', t', e1, e2, h4⟩ | h3
    · rw [e1, e2]
      exact ih (i + 1) _ _ _ _ _ _ h4 (by omega) (by omega)
    · exact h3 _ _
theorem sim21 {α1 α2 β1 γ δ : Type} {F : (α1 → α2 → Option γ) → α1 → α2 → Option γ} {G : (β1 → Option δ) → β1 → Option δ} (n : Nat) (Inv : Nat → α1 → α2 → β1 → Prop) (Post : Option γ → Option δ → Prop)
    (hs : ∀ i a b p, Inv i a b p → (i < n ∧ ∃ a' b' p', (∀ g, F g a b = g a' b') ∧ (∀ g, G g p = g p') ∧ Inv (i + 1) a' b' p') ∨ (∀ g h, Post (F g a b) (G h p))) : ∀ (fu i : Nat) a b p, Inv i a b p → n < fu + i → i ≤ n → Post (zl2 F fu a b) (zl1 G fu p) := by
  intro fu
  induction fu with
  | zero => intro i a b p _ h1 h2; omega
  | succ fu ih =>
    intro i a b p h0 h1 h2
    show Post (F (zl2 F fu) a b) (G (zl1 G fu) p)
    rcases hs i a b p h0 with ⟨h3, a', b', p', e1, e2, h4⟩ | h3
    · rw [e1, e2]
      exact ih (i + 1) _ _ _ h4 (by omega) (by omega)
    · exact h3 _ _
theorem sim22 {α1 α2 β1 β2 γ δ : Type} {F : (α1 → α2 → Option γ) → α1 → α2 → Option γ} {G : (β1 → β2 → Option δ) → β1 → β2 → Option δ} (n : Nat) (Inv : Nat → α1 → α2 → β1 → β2 → Prop) (Post : Option γ → Option δ → Prop)
    (hs : ∀ i a b p q, Inv i a b p q → (i < n ∧ ∃ a' b' p' q', (∀ g, F g a b = g a' b') ∧ (∀ g, G g p q = g p' q') ∧ Inv (i + 1) a' b' p' q') ∨ (∀ g h, Post (F g a b) (G h p q))) : ∀ (fu i : Nat) a b p q, Inv i a b p q → n < fu + i → i ≤ n → Post (zl2 F fu a b) (zl2 G fu p q) := by
  intro fu
  induction fu with
  | zero => intro i a b p q _ h1 h2; omega
  | succ fu ih =>
    intro i a b p q h0 h1 h2
    show Post (F (zl2 F fu) a b) (G (zl2 G fu) p q)
    rcases hs i a b p q h0 with ⟨h3, a', b', p', q', e1, e2, h4⟩ | h3
    · rw [e1, e2]
      exact ih (i + 1) _ _ _ _ h4 (by omega) (by omega)
    · exact h3 _ _
theorem sim23 {α1 α2 β1 β2 β3 γ δ : Type} {F : (α1 → α2 → Option γ) → α1 → α2 → Option γ} {G : (β1 → β2 → β3 → Option δ) → β1 → β2 → β3 → Option δ} (n : Nat) (Inv : Nat → α1 → α2 → β1 → β2 → β3 → Prop) (Post : Option γ → Option δ → Prop)
    (hs : ∀ i a b p q r, Inv i a b p q r → (i < n ∧ ∃ a' b' p' q' r', (∀ g, F g a b = g a' b') ∧ (∀ g, G g p q r = g p' q' r') ∧ Inv (i + 1) a' b' p' q' r') ∨ (∀ g h, Post (F g a b) (G h p q r))) : ∀ (fu i : Nat) a b p q r, Inv i a b p q r → n < fu + i → i ≤ n → Post (zl2 F fu a b) (zl3 G fu p q r) := by
  intro fu
  induction fu with
  | zero => intro i a b p q r _ h1 h2; omega
  | succ fu ih =>
    intro i a b p q r h0 h1 h2
    show Post (F (zl2 F fu) a b) (G (zl3 G fu) p q r)
    rcases hs i a b p q r h0 with ⟨h3, a', b', p', q', r', e1, e2, h4⟩ | h3
    · rw [e1, e2]
      exact ih (i + 1) _ _ _ _ _ h4 (by omega) (by omega)
    · exact h3 _ _
theorem sim24 {α1 α2 β1 β2 β3 β4 γ δ : Type} {F : (α1 → α2 → Option γ) → α1 → α2 → Option γ} {G : (β1 → β2 → β3 → β4 → Option δ) → β1 → β2 → β3 → β4 → Option δ} (n : Nat) (Inv : Nat → α1 → α2 → β1 → β2 → β3 → β4 → Prop) (Post : Option γ → Option δ → Prop)
    (hs : ∀ i a b p q r s, Inv i a b p q r s → (i < n ∧ ∃ a' b' p' q' r' s', (∀ g, F g a b = g a' b') ∧ (∀ g, G g p q r s = g p' q' r' s') ∧ Inv (i + 1) a' b' p' q' r' s') ∨ (∀ g h, Post (F g a b) (G h p q r s))) : ∀ (fu i : Nat) a b p q r s, Inv i a b p q r s → n < fu + i → i ≤ n → Post (zl2 F fu a b) (zl4 G fu p q r s) := by
  intro fu
  induction fu with
  | zero => intro i a b p q r s _ h1 h2; omega
  | succ fu ih =>
    intro i a b p q r s h0 h1 h2
    show Post (F (zl2 F fu) a b) (G (zl4 G fu) p q r s)
    rcases hs i a b p q r s h0 with ⟨h3, a', b', p', q', r', s', e1, e2, h4⟩ | h3
    · rw [e1, e2]
      exact ih (i + 1) _ _ _ _ _ _ h4 (by omega) (by omega)
    · exact h3 _ _
theorem sim25 {α1 α2 β1 β2 β3 β4 β5 γ δ : Type} {F : (α1 → α2 → Option γ) → α1 → α2 → Option γ} {G : (β1 → β2 → β3 → β4 → β5 → Option δ) → β1 → β2 → β3 → β4 → β5 → Option δ} (n : Nat) (Inv : Nat → α1 → α2 → β1 → β2 → β3 → β4 → β5 → Prop) (Post : Option γ → Option δ → Prop)
    (hs : ∀ i a b p q r s t, Inv i a b p q r s t → (i < n ∧ ∃ a' b' p' q' r' s' t', (∀ g, F g a b = g a' b') ∧ (∀ g, G g p q r s t = g p' q' r' s' t') ∧ Inv (i + 1) a' b' p' q' r' s' t') ∨ (∀ g h, Post (F g a b) (G h p q r s t))) : ∀ (fu i : Nat) a b p q r s t, Inv i a b p q r s t → n < fu + i → i ≤ n → Post (zl2 F fu a b) (zl5 G fu p q r s t) := by
  intro fu
  induction fu with
  | zero => intro i a b p q r s t _ h1 h2; omega
  | succ fu ih =>
    intro i a b p q r s t h0 h1 h2
    show Post (F (zl2 F fu) a b) (G (zl5 G fu) p q r s t)
    rcases hs i a b p q r s t h0 with ⟨h3, a', b', p', q', r', s', t', e1, e2, h4⟩ | h3
    · rw [e1, e2]
      exact ih (i + 1) _ _ _ _ _ _ _ h4 (by omega) (by omega)
    · exact h3 _ _
theorem sim31 {α1 α2 α3 β1 γ δ : Type} {F : (α1 → α2 → α3 → Option γ) → α1 → α2 → α3 → Option γ} {G : (β1 → Option δ) → β1 → Option δ} (n : Nat) (Inv : Nat → α1 → α2 → α3 → β1 → Prop) (Post : Option γ → Option δ → Prop)
    (hs : ∀ i a b c p, Inv i a b c p → (i < n ∧ ∃ a' b' c' p', (∀ g, F g a b c = g a' b' c') ∧ (∀ g, G g p = g p') ∧ Inv (i + 1) a' b' c' p') ∨ (∀ g h, Post (F g a b c) (G h p))) : ∀ (fu i : Nat) a b c p, Inv i a b c p → n < fu + i → i ≤ n → Post (zl3 F fu a b c) (zl1 G fu p) := by
  intro fu
  induction fu with
  | zero => intro i a b c p _ h1 h2; omega
  | succ fu ih =>
    intro i a b c p h0 h1 h2
    show Post (F (zl3 F fu) a b c) (G (zl1 G fu) p)
    rcases hs i a b c p h0 with ⟨h3, a', b', c', p', e1, e2, h4⟩ | h3
    · rw [e1, e2]
      exact ih (i + 1) _ _ _ _ h4 (by omega) (by omega)
    · exact h3 _ _
theorem sim32 {α1 α2 α3 β1 β2 γ δ : Type} {F : (α1 → α2 → α3 → Option γ) → α1 → α2 → α3 → Option γ} {G : (β1 → β2 → Option δ) → β1 → β2 → Option δ} (n : Nat) (Inv : Nat → α1 → α2 → α3 → β1 → β2 → Prop) (Post : Option γ → Option δ → Prop)
    (hs : ∀ i a b c p q, Inv i a b c p q → (i < n ∧ ∃ a' b' c' p' q', (∀ g, F g a b c = g a' b' c') ∧ (∀ g, G g p q = g p' q') ∧ Inv (i + 1) a' b' c' p' q') ∨ (∀ g h, Post (F g a b c) (G h p q))) : ∀ (fu i : Nat) a b c p q, Inv i a b c p q → n < fu + i → i ≤ n → Post (zl3 F fu a b c) (zl2 G fu p q) := by
  intro fu
  induction fu with
  | zero => intro i a b c p q _ h1 h2; omega
  | succ fu ih =>
    intro i a b c p q h0 h1 h2
    show Post (F (zl3 F fu) a b c) (G (zl2 G fu) p q)
    rcases hs i a b c p q h0 with ⟨h3, a', b', c', p', q', e1, e2, h4⟩ | h3
    · rw [e1, e2]
      exact ih (i + 1) _ _ _ _ _ h4 (by omega) (by omega)
    · exact h3 _ _
theorem sim33 {α1 α2 α3 β1 β2 β3 γ δ : Type} {F : (α1 → α2 → α3 → Option γ) → α1 → α2 → α3 → Option γ} {G : (β1 → β2 → β3 → Option δ) → β1 → β2 → β3 → Option δ} (n : Nat) (Inv : Nat → α1 → α2 → α3 → β1 → β2 → β3 → Prop) (Post : Option γ → Option δ → Prop)
    (hs : ∀ i a b c p q r, Inv i a b c p q r → (i < n ∧ ∃ a' b' c' p' q' r', (∀ g, F g a b c = g a' b' c') ∧ (∀ g, G g p q r = g p' q' r') ∧ Inv (i + 1) a' b' c' p' q' r') ∨ (∀ g h, Post (F g a b c) (G h p q r))) : ∀ (fu i : Nat) a b c p q r, Inv i a b c p q r → n < fu + i → i ≤ n → Post (zl3 F fu a b c) (zl3 G fu p q r) := by
  intro fu
  induction fu with
  | zero => intro i a b c p q r _ h1 h2; omega
  | succ fu ih =>
    intro i a b c p q r h0 h1 h2
    show Post (F (zl3 F fu) a b c) (G (zl3 G fu) p q r)
    rcases hs i a b c p q r h0 with ⟨h3, a', b', c', p', q', r', e1, e2, h4⟩ | h3
    · rw [e1, e2]
      exact ih (i + 1) _ _ _ _ _ _ h4 (by omega) (by omega)
    · exact h3 _ _
theorem sim34 {α1 α2 α3 β1 β2 β3 β4 γ δ : Type} {F : (α1 → α2 → α3 → Option γ) → α1 → α2 → α3 → Option γ} {G : (β1 → β2 → β3 → β4 → Option δ) → β1 → β2 → β3 → β4 → Option δ} (n : Nat) (Inv : Nat → α1 → α2 → α3 → β1 → β2 → β3 → β4 → Prop) (Post : Option γ → Option δ → Prop)
    (hs : ∀ i a b c p q r s, Inv i a b c p q r s → (i < n ∧ ∃ a' b' c' p' q' r' s', (∀ g, F g a b c = g a' b' c') ∧ (∀ g, G g p q r s = g p' q' r' s') ∧ Inv (i + 1) a' b' c' p' q' r' s') ∨ (∀ g h, Post (F g a b c) (G h p q r s))) : ∀ (fu i : Nat) a b c p q r s, Inv i a b c p q r s → n < fu + i → i ≤ n → Post (zl3 F fu a b c) (zl4 G fu p q r s) := by
  intro fu
  induction fu with
  | zero => intro i a b c p q r s _ h1 h2; omega
  | succ fu ih =>
    intro i a b c p q r s h0 h1 h2
    show Post (F (zl3 F fu) a b c) (G (zl4 G fu) p q r s)
    rcases hs i a b c p q r s h0 with ⟨h3, a', b', c', p', q', r', s', e1, e2, h4⟩ | h3
    · rw [e1, e2]
      exact ih (i + 1) _ _ _ _ _ _ _ h4 (by omega) (by omega)
    · exact h3 _ _
theorem sim35 {α1 α2 α3 β1 β2 β3 β4 β5 γ δ : Type} {F : (α1 → α2 → α3 → Option γ) → α1 → α2 → α3 → Option γ} {G : (β1 → β2 → β3 → β4 → β5 → Option δ) → β1 → β2 → β3 → β4 → β5 → Option δ} (n : Nat) (Inv : Nat → α1 → α2 → α3 → β1 → β2 → β3 → β4 → β5 → Prop) (Post : Option γ → Option δ → Prop)
    (hs : ∀ i a b c p q r s t, Inv i a b c p q r s t → (i < n ∧ ∃ a' b' c' p' q' r' s' t', (∀ g, F g a b c = g a' b' c') ∧ (∀ g, G g p q r s t = g p' q' r' s' t') ∧ Inv (i + 1) a' b' c' p' q' r' s' t') ∨ (∀ g h, Post (F g a b c) (G h p q r s t))) : ∀ (fu i : Nat) a b c p q r s t, Inv i a b c p q r s t → n < fu + i → i ≤ n → Post (zl3 F fu a b c) (zl5 G fu p q r s t) := by
  intro fu
  induction fu with
  | zero => intro i a b c p q r s t _ h1 h2; omega
  | succ fu ih =>
    intro i a b c p q r s t h0 h1 h2
    show Post (F (zl3 F fu) a b c) (G (zl5 G fu) p q r s t)
    rcases hs i a b c p q r s t h0 with ⟨h3, a', b', c', p', q', r', s', t', e1, e2, h4⟩ | h3
    · rw [e1, e2]
      exact ih (i + 1) _ _ _ _ _ _ _ _ h4 (by omega) (by omega)
    · exact h3 _ _
theorem sim41 {α1 α2 α3 α4 β1 γ δ : Type} {F : (α1 → α2 → α3 → α4 → Option γ) → α1 → α2 → α3 → α4 → Option γ} {G : (β1 → Option δ) → β1 → Option δ} (n : Nat) (Inv : Nat → α1 → α2 → α3 → α4 → β1 → Prop) (Post : Option γ → Option δ → Prop)
    (hs : ∀ i a b c d p, Inv i a b c d p → (i < n ∧ ∃ a' b' c' d' p', (∀ g, F g a b c d = g a' b' c' d') ∧ (∀ g, G g p = g p') ∧ Inv (i + 1) a' b' c' d' p') ∨ (∀ g h, Post (F g a b c d) (G h p))) : ∀ (fu i : Nat) a b c d p, Inv i a b c d p → n < fu + i → i ≤ n → Post (zl4 F fu a b c d) (zl1 G fu p) := by
  intro fu
  induction fu with
  | zero => intro i a b c d p _ h1 h2; omega
  | succ fu ih =>
    intro i a b c d p h0 h1 h2
    show Post (F (zl4 F fu) a b c d) (G (zl1 G fu) p)
    rcases hs i a b c d p h0 with ⟨h3, a', b', c', d', p', e1, e2, h4⟩ | h3
    · rw [e1, e2]
      exact ih (i + 1) _ _ _ _ _ h4 (by omega) (by omega)
    · exact h3 _ _
theorem sim42 {α1 α2 α3 α4 β1 β2 γ δ : Type} {F : (α1 → α2 → α3 → α4 → Option γ) → α1 → α2 → α3 → α4 → Option γ} {G : (β1 → β2 → Option δ) → β1 → β2 → Option δ} (n : Nat) (Inv : Nat → α1 → α2 → α3 → α4 → β1 → β2 → Prop) (Post : Option γ → Option δ → Prop)
    (hs : ∀ i a b c d p q, Inv i a b c d p q → (i < n ∧ ∃ a' b' c' d' p' q', (∀ g, F g a b c d = g a' b' c' d') ∧ (∀ g, G g p q = g p' q') ∧ Inv (i + 1) a' b' c' d' p' q') ∨ (∀ g h, Post (F g a b c d) (G h p q))) : ∀ (fu i : Nat) a b c d p q, Inv i a b c d p q → n < fu + i → i ≤ n → Post (zl4 F fu a b c d) (zl2 G fu p q) := by
  intro fu
  induction fu with
  | zero => intro i a b c d p q _ h1 h2; omega
  | succ fu ih =>
    intro i a b c d p q h0 h1 h2
    show Post (F (zl4 F fu) a b c d) (G (zl2 G fu) p q)
    rcases hs i a b c d p q h0 with ⟨h3, a', b', c', d', p', q', e1, e2, h4⟩ | h3
    · rw [e1, e2]
      exact ih (i + 1) _ _ _ _ _ _ h4 (by omega) (by omega)
    · exact h3 _ _
theorem sim43 {α1 α2 α3 α4 β1 β2 β3 γ δ : Type} {F : (α1 → α2 → α3 → α4 → Option γ) → α1 → α2 → α3 → α4 → Option γ} {G : (β1 → β2 → β3 → Option δ) → β1 → β2 → β3 → Option δ} (n : Nat) (Inv : Nat → α1 → α2 → α3 → α4 → β1 → β2 → β3 → Prop) (Post : Option γ → Option δ → Prop)
    (hs : ∀ i a b c d p q r, Inv i a b c d p q r → (i < n ∧ ∃ a' b' c' d' p' q' r', (∀ g, F g a b c d = g a' b' c' d') ∧ (∀ g, G g p q r = g p' q' r') ∧ Inv (i + 1) a' b' c' d' p' q' r') ∨ (∀ g h, Post (F g a b c d) (G h p q r))) : ∀ (fu i : Nat) a b c d p q r, Inv i a b c d p q r → n < fu + i → i ≤ n → Post (zl4 F fu a b c d) (zl3 G fu p q r) := by
  intro fu
  induction fu with
  | zero => intro i a b c d p q r _ h1 h2; omega
  | succ fu ih =>
    intro i a b c d p q r h0 h1 h2
    show Post (F (zl4 F fu) a b c d) (G (zl3 G fu) p q r)
    rcases hs i a b c d p q r h0 with ⟨h3, a', b', c', d', p', q', r', e1, e2, h4⟩ | h3
    · rw [e1, e2]
      exact ih (i + 1) _ _ _ _ _ _ _ h4 (by omega) (by omega)
    · exact h3 _ _
theorem sim44 {α1 α2 α3 α4 β1 β2 β3 β4 γ δ : Type} {F : (α1 → α2 → α3 → α4 → Option γ) → α1 → α2 → α3 → α4 → Option γ} {G : (β1 → β2 → β3 → β4 → Option δ) → β1 → β2 → β3 → β4 → Option δ} (n : Nat) (Inv : Nat → α1 → α2 → α3 → α4 → β1 → β2 → β3 → β4 → Prop) (Post : Option γ → Option δ → Prop)
    (hs : ∀ i a b c d p q r s, Inv i a b c d p q r s → (i < n ∧ ∃ a' b' c' d' p' q' r' s', (∀ g, F g a b c d = g a' b' c' d') ∧ (∀ g, G g p q r s = g p' q' r' s') ∧ Inv (i + 1) a' b' c' d' p' q' r' s') ∨ (∀ g h, Post (F g a b c d) (G h p q r s))) : ∀ (fu i : Nat) a b c d p q r s, Inv i a b c d p q r s → n < fu + i → i ≤ n → Post (zl4 F fu a b c d) (zl4 G fu p q r s) := by
  intro fu
  induction fu with
  | zero => intro i a b c d p q r s _ h1 h2; omega
  | succ fu ih =>
    intro i a b c d p q r s h0 h1 h2
    show Post (F (zl4 F fu) a b c d) (G (zl4 G fu) p q r s)
    rcases hs i a b c d p q r s h0 with ⟨h3, a', b', c', d', p', q', r', s', e1, e2, h4⟩ | h3
    · rw [e1, e2]
      exact ih (i + 1) _ _ _ _ _ _ _ _ h4 (by omega) (by omega)
    · exact h3 _ _
theorem sim45 {α1 α2 α3 α4 β1 β2 β3 β4 β5 γ δ : Type} {F : (α1 → α2 → α3 → α4 → Option γ) → α1 → α2 → α3 → α4 → Option γ} {G : (β1 → β2 → β3 → β4 → β5 → Option δ) → β1 → β2 → β3 → β4 → β5 → Option δ} (n : Nat) (Inv : Nat → α1 → α2 → α3 → α4 → β1 → β2 → β3 → β4 → β5 → Prop) (Post : Option γ → Option δ → Prop)
    (hs : ∀ i a b c d p q r s t, Inv i a b c d p q r s t → (i < n ∧ ∃ a' b' c' d' p' q' r' s' t', (∀ g, F g a b c d = g a' b' c' d') ∧ (∀ g, G g p q r s t = g p' q' r' s' t') ∧ Inv (i + 1) a' b' c' d' p' q' r' s' t') ∨ (∀ g h, Post (F g a b c d) (G h p q r s t))) : ∀ (fu i : Nat) a b c d p q r s t, Inv i a b c d p q r s t → n < fu + i → i ≤ n → Post (zl4 F fu a b c d) (zl5 G fu p q r s t) := by
  intro fu
  induction fu with
  | zero => intro i a b c d p q r s t _ h1 h2; omega
  | succ fu ih =>
    intro i a b c d p q r s t h0 h1 h2
    show Post (F (zl4 F fu) a b c d) (G (zl5 G fu) p q r s t)
    rcases hs i a b c d p q r s t h0 with ⟨h3, a', b', c', d', p', q', r', s', t', e1, e2, h4⟩ | h3
    · rw [e1, e2]
      exact ih (i + 1) _ _ _ _ _ _ _ _ _ h4 (by omega) (by omega)
    · exact h3 _ _
theorem sim51 {α1 α2 α3 α4 α5 β1 γ δ : Type} {F : (α1 → α2 → α3 → α4 → α5 → Option γ) → α1 → α2 → α3 → α4 → α5 → Option γ} {G : (β1 → Option δ) → β1 → Option δ} (n : Nat) (Inv : Nat → α1 → α2 → α3 → α4 → α5 → β1 → Prop) (Post : Option γ → Option δ → Prop)
    (hs : ∀ i a b c d e p, Inv i a b c d e p → (i < n ∧ ∃ a' b' c' d' e' p', (∀ g, F g a b c d e = g a' b' c' d' e') ∧ (∀ g, G g p = g p') ∧ Inv (i + 1) a' b' c' d' e' p') ∨ (∀ g h, Post (F g a b c d e) (G h p))) : ∀ (fu i : Nat) a b c d e p, Inv i a b c d e p → n < fu + i → i ≤ n → Post (zl5 F fu a b c d e) (zl1 G fu p) := by
  intro fu
  induction fu with
  | zero => intro i a b c d e p _ h1 h2; omega
  | succ fu ih =>
    intro i a b c d e p h0 h1 h2
    show Post (F (zl5 F fu) a b c d e) (G (zl1 G fu) p)
    rcases hs i a b c d e p h0 with ⟨h3, a', b', c', d', e', p', e1, e2, h4⟩ | h3
    · rw [e1, e2]
      exact ih (i + 1) _ _ _ _ _ _ h4 (by omega) (by omega)
    · exact h3 _ _
theorem sim52 {α1 α2 α3 α4 α5 β1 β2 γ δ : Type} {F : (α1 → α2 → α3 → α4 → α5 → Option γ) → α1 → α2 → α3 → α4 → α5 → Option γ} {G : (β1 → β2 → Option δ) → β1 → β2 → Option δ} (n : Nat) (Inv : Nat → α1 → α2 → α3 → α4 → α5 → β1 → β2 → Prop) (Post : Option γ → Option δ → Prop)
    (hs : ∀ i a b c d e p q, Inv i a b c d e p q → (i < n ∧ ∃ a' b' c' d' e' p' q', (∀ g, F g a b c d e = g a' b' c' d' e') ∧ (∀ g, G g p q = g p' q') ∧ Inv (i + 1) a' b' c' d' e' p' q') ∨ (∀ g h, Post (F g a b c d e) (G h p q))) : ∀ (fu i : Nat) a b c d e p q, Inv i a b c d e p q → n < fu + i → i ≤ n → Post (zl5 F fu a b c d e) (zl2 G fu p q) := by
  intro fu
  induction fu with
  | zero => intro i a b c d e p q _ h1 h2; omega
  | succ fu ih =>
    intro i a b c d e p q h0 h1 h2
    show Post (F (zl5 F fu) a b c d e) (G (zl2 G fu) p q)
    rcases hs i a b c d e p q h0 with ⟨h3, a', b', c', d', e', p', q', e1, e2, h4⟩ | h3
    · rw [e1, e2]
      exact ih (i + 1) _ _ _ _ _ _ _ h4 (by omega) (by omega)
    · exact h3 _ _
theorem sim53 {α1 α2 α3 α4 α5 β1 β2 β3 γ δ : Type} {F : (α1 → α2 → α3 → α4 → α5 → Option γ) → α1 → α2 → α3 → α4 → α5 → Option γ} {G : (β1 → β2 → β3 → Option δ) → β1 → β2 → β3 → Option δ} (n : Nat) (Inv : Nat → α1 → α2 → α3 → α4 → α5 → β1 → β2 → β3 → Prop) (Post : Option γ → Option δ → Prop)
    (hs : ∀ i a b c d e p q r, Inv i a b c d e p q r → (i < n ∧ ∃ a' b' c' d' e' p' q' r', (∀ g, F g a b c d e = g a' b' c' d' e') ∧ (∀ g, G g p q r = g p' q' r') ∧ Inv (i + 1) a' b' c' d' e' p' q' r') ∨ (∀ g h, Post (F g a b c d e) (G h p q r))) : ∀ (fu i : Nat) a b c d e p q r, Inv i a b c d e p q r → n < fu + i → i ≤ n → Post (zl5 F fu a b c d e) (zl3 G fu p q r) := by
  intro fu
  induction fu with
  | zero => intro i a b c d e p q r _ h1 h2; omega
  | succ fu ih =>
    intro i a b c d e p q r h0 h1 h2
    show Post (F (zl5 F fu) a b c d e) (G (zl3 G fu) p q r)
    rcases hs i a b c d e p q r h0 with ⟨h3, a', b', c', d', e', p', q', r', e1, e2, h4⟩ | h3
    · rw [e1, e2]
      exact ih (i + 1) _ _ _ _ _ _ _ _ h4 (by omega) (by omega)
    · exact h3 _ _
theorem sim54 {α1 α2 α3 α4 α5 β1 β2 β3 β4 γ δ : Type} {F : (α1 → α2 → α3 → α4 → α5 → Option γ) → α1 → α2 → α3 → α4 → α5 → Option γ} {G : (β1 → β2 → β3 → β4 → Option δ) → β1 → β2 → β3 → β4 → Option δ} (n : Nat) (Inv : Nat → α1 → α2 → α3 → α4 → α5 → β1 → β2 → β3 → β4 → Prop) (Post : Option γ → Option δ → Prop)
    (hs : ∀ i a b c d e p q r s, Inv i a b c d e p q r s → (i < n ∧ ∃ a' b' c' d' e' p' q' r' s', (∀ g, F g a b c d e = g a' b' c' d' e') ∧ (∀ g, G g p q r s = g p' q' r' s') ∧ Inv (i + 1) a' b' c' d' e' p' q' r' s') ∨ (∀ g h, Post (F g a b c d e) (G h p q r s))) : ∀ (fu i : Nat) a b c d e p q r s, Inv i a b c d e p q r s → n < fu + i → i ≤ n → Post (zl5 F fu a b c d e) (zl4 G fu p q r s) := by
  intro fu
  induction fu with
  | zero => intro i a b c d e p q r s _ h1 h2; omega
  | succ fu ih =>
    intro i a b c d e p q r s h0 h1 h2
    show Post (F (zl5 F fu) a b c d e) (G (zl4 G fu) p q r s)
    rcases hs i a b c d e p q r s h0 with ⟨h3, a', b', c', d', e', p', q', r', s', e1, e2, h4⟩ | h3
    · rw [e1, e2]
      exact ih (i + 1) _ _ _ _ _ _ _ _ _ h4 (by omega) (by omega)
    · exact h3 _ _
theorem sim55 {α1 α2 α3 α4 α5 β1 β2 β3 β4 β5 γ δ : Type} {F : (α1 → α2 → α3 → α4 → α5 → Option γ) → α1 → α2 → α3 → α4 → α5 → Option γ} {G : (β1 → β2 → β3 → β4 → β5 → Option δ) → β1 → β2 → β3 → β4 → β5 → Option δ} (n : Nat) (Inv : Nat → α1 → α2 → α3 → α4 → α5 → β1 → β2 → β3 → β4 → β5 → Prop) (Post : Option γ → Option δ → Prop)
    (hs : ∀ i a b c d e p q r s t, Inv i a b c d e p q r s t → (i < n ∧ ∃ a' b' c' d' e' p' q' r' s' t', (∀ g, F g a b c d e = g a' b' c' d' e') ∧ (∀ g, G g p q r s t = g p' q' r' s' t') ∧ Inv (i + 1) a' b' c' d' e' p' q' r' s' t') ∨ (∀ g h, Post (F g a b c d e) (G h p q r s t))) : ∀ (fu i : Nat) a b c d e p q r s t, Inv i a b c d e p q r s t → n < fu + i → i ≤ n → Post (zl5 F fu a b c d e) (zl5 G fu p q r s t) := by
  intro fu
  induction fu with
  | zero => intro i a b c d e p q r s t _ h1 h2; omega
  | succ fu ih =>
    intro i a b c d e p q r s t h0 h1 h2
    show Post (F (zl5 F fu) a b c d e) (G (zl5 G fu) p q r s t)
    rcases hs i a b c d e p q r s t h0 with ⟨h3, a', b', c', d', e', p', q', r', s', t', e1, e2, h4⟩ | h3
    · rw [e1, e2]
      exact ih (i + 1) _ _ _ _ _ _ _ _ _ _ h4 (by omega) (by omega)
    · exact h3 _ _
theorem X7_leaves_eq {fu i : Nat} {m : Mem} {l : List Nat} (h17 : m 0 17 = nI l.length) (hl : lineIs (m 10) l) (h8 : l.length ≤ 8) (hi : i < l.length) (hfu : 8 < fu) :
    ∃ m', pX7_leaves fu m (nI i) = some m' ∧ m' 0 17 = nI (l.eraseIdx i).length ∧ lineIs (m' 10) (l.eraseIdx i) ∧ (∀ o, o ≠ 0 → o ≠ 10 → m' o = m o) ∧ (∀ k, k ≠ 17 → m' 0 k = m 0 k) := by
  unfold pX7_leaves
  rw [lt_eq, h17, show (1 : Int32) = nI 1 from rfl, pk_sub (by omega)]
  refine sp2 (l.length - 1) (fun j (x : Int32) (y : Mem) => i ≤ j ∧ j < l.length ∧ x = nI j ∧ y 0 17 = nI (l.length - 1) ∧ (∀ k, k ≠ 17 → y 0 k = m 0 k) ∧ (∀ o, o ≠ 0 → o ≠ 10 → y o = m o) ∧ ∀ k, k < 8 → y 10 k = if i ≤ k ∧ k < j then m 10 (k + 1) else m 10 k) (fun (r : Option Mem) => ∃ m', r = some m' ∧ m' 0 17 = nI (l.eraseIdx i).length ∧ lineIs (m' 10) (l.eraseIdx i) ∧ (∀ o, o ≠ 0 → o ≠ 10 → m' o = m o) ∧ (∀ k, k ≠ 17 → m' 0 k = m 0 k)) ?_ fu i _ _ ⟨Nat.le_refl _, hi, rfl, ?_, ?_, ?_, ?_⟩ (by omega) (by omega)
  · rintro j x y ⟨h1, h2, rfl, h3, h4, h5, h6⟩
    by_cases c : j < l.length - 1
    · refine Or.inl ⟨c, nI (j + 1), up2 y 10 j (y 10 (j + 1)), fun g => ?_, by omega, by omega, rfl, ?_, ?_, ?_, ?_⟩
      · rw [h3, if_neg (nI_ge c (by omega)), nI_add, ck_ok (show j + 1 < 8 by omega) (by decide), ck_ok (show j < 8 by omega) (by decide), nI_cl (by omega), nI_cl (by omega), lt_eq, lt_eq]
      · rw [up2_row (by omega)]; exact h3
      · intro k hk
        rw [up2_row (by omega)]; exact h4 k hk
      · intro o a b
        rw [up2_rw, if_neg b]; exact h5 o a b
      · intro k hk
        rw [up2_at]
        by_cases e : k = j
        · subst e
          rw [if_pos ⟨rfl, rfl⟩, if_pos ⟨h1, by omega⟩, h6 _ (by omega), if_neg (by omega)]
        · rw [if_neg (fun z => e z.2), h6 k hk]
          by_cases a : i ≤ k ∧ k < j
          · rw [if_pos a, if_pos ⟨a.1, by omega⟩]
          · rw [if_neg a, if_neg (by omega)]
    · have e : j = l.length - 1 := by omega
      refine Or.inr (fun g => ?_)
      rw [h3, if_pos (by rw [e]; exact nI_le (Nat.le_refl _) (by omega))]
      refine ⟨_, rfl, ?_, ?_, h5, h4⟩
      · rw [h3, List.length_eraseIdx_of_lt hi]
      · intro k hk
        have hk2 := hk
        rw [List.length_eraseIdx_of_lt hi] at hk2
        rw [h6 k (by omega), List.getElem_eraseIdx]
        by_cases a : k < i
        · rw [if_neg (by omega), dif_pos a]
          exact hl k (by omega)
        · rw [if_pos (by omega), dif_neg a]
          exact hl (k + 1) (by omega)
  · rw [up2_same]
  · intro k hk
    rw [up2_col hk]
  · intro o a b
    rw [up2_rw, if_neg a]
  · intro k _
    rw [up2_row (by omega), if_neg (by omega)]
/-- the line closes up: those that wait are left -/
theorem X2_closeUp_eq {fu : Nat} {d : Mem} {l : List Nat} (hL : LC d l) (h8 : l.length ≤ 8) (hj : ∀ j ∈ l, j < 8) (hfu : 8 < fu) :
    ∃ d', pX2_closeUp fu d = some d' ∧ LC d' (l.filter fun j => d (5 + j) 5 = 1) ∧ (∀ o, o ≠ 0 → o ≠ 2 → d' o = d o) ∧ (∀ k, k ≠ 5 → d' 0 k = d 0 k) := by
  obtain ⟨h5, hl⟩ := hL
  unfold pX2_closeUp
  rw [← nI_0]
  refine sp3 l.length (fun i (x z : Int32) (y : Mem) => i ≤ l.length ∧ z = nI i ∧ x = nI ((l.take i).filter fun j => d (5 + j) 5 = 1).length ∧ lineIs (y 2) ((l.take i).filter fun j => d (5 + j) 5 = 1) ∧ (∀ k, i ≤ k → y 2 k = d 2 k) ∧ ∀ o, o ≠ 2 → y o = d o) (fun (r : Option Mem) => ∃ d', r = some d' ∧ LC d' (l.filter fun j => d (5 + j) 5 = 1) ∧ (∀ o, o ≠ 0 → o ≠ 2 → d' o = d o) ∧ (∀ k, k ≠ 5 → d' 0 k = d 0 k)) ?_ fu 0 _ _ _ ⟨Nat.zero_le _, rfl, by simp, ?_, fun _ _ => rfl, fun _ _ => rfl⟩ (by omega) (by omega)
  · rintro i x z y ⟨h1, rfl, rfl, h2, h3, h4⟩
    have fl : ((l.take i).filter fun j => d (5 + j) 5 = 1).length ≤ i := Nat.le_trans (List.length_filter_le _ _) (List.length_take_le _ _)
    by_cases c : i < l.length
    · have e0 : y 2 i = nI l[i] := by rw [h3 i (Nat.le_refl _)]; exact hl i c
      have lj := hj _ (List.getElem_mem c)
      have tk : l.take (i + 1) = l.take i ++ [l[i]] := by rw [List.take_add_one]; simp [c]
      have body : ∀ g : Int32 → Int32 → Mem → Option Mem, (if y 0 5 ≤ nI i then lt' (up2 y 0 5 (nI ((l.take i).filter fun j => d (5 + j) 5 = 1).length)) fun y8 => some y8 else ck (nI i) 8 <| ck (y 2 (nI i).toNatClampNeg) 8 <| if (y (5 + (y 2 (nI i).toNatClampNeg).toNatClampNeg) 5) = 1 then ck (nI i) 8 <| ck (nI ((l.take i).filter fun j => d (5 + j) 5 = 1).length) 8 <| lt' (up2 y 2 (nI ((l.take i).filter fun j => d (5 + j) 5 = 1).length).toNatClampNeg (y 2 (nI i).toNatClampNeg)) fun y14 => lt' (nI ((l.take i).filter fun j => d (5 + j) 5 = 1).length + 1) fun x16 => lt' (nI i + 1) fun x17 => g x16 x17 y14 else lt' (nI i + 1) fun x12 => g (nI ((l.take i).filter fun j => d (5 + j) 5 = 1).length) x12 y) = if d (5 + l[i]) 5 = 1 then g (nI (((l.take i).filter fun j => d (5 + j) 5 = 1).length + 1)) (nI (i + 1)) (up2 y 2 ((l.take i).filter fun j => d (5 + j) 5 = 1).length (nI l[i])) else g (nI ((l.take i).filter fun j => d (5 + j) 5 = 1).length) (nI (i + 1)) y := by
        intro g
        rw [h4 0 (by omega), h5, if_neg (nI_ge c (by omega)), ck_ok (show i < 8 by omega) (by decide), ck_ok (show i < 8 by omega) (by decide), nI_cl (show i < 2 ^ 31 by omega), e0, ck_ok lj (by decide), nI_cl (by omega), h4 _ (by omega), ck_ok (by omega) (by decide), nI_cl (by omega)]
        simp only [lt_eq, nI_1]
      by_cases p : d (5 + l[i]) 5 = 1
      · refine Or.inl ⟨c, _, _, _, fun g => by rw [body g, if_pos p], by omega, rfl, ?_, ?_, ?_, ?_⟩
        · rw [tk, List.filter_append]
          simp [p]
        · rw [tk, List.filter_append]
          intro k hk
          simp only [List.filter_cons, p, decide_true, if_true, List.filter_nil]  at hk ⊢
          rw [up2_at]
          rw [List.length_append, List.length_singleton] at hk
          by_cases e : k = ((l.take i).filter fun j => d (5 + j) 5 = 1).length
          · subst e
            rw [if_pos ⟨rfl, rfl⟩, List.getElem_append_right (Nat.le_refl _)]
            simp
          · rw [if_neg (fun z => e z.2), List.getElem_append_left (by omega)]
            exact h2 k (by omega)
        · intro k hk
          rw [up2_col (by omega)]
          exact h3 k (by omega)
        · intro o ho
          rw [up2_rw, if_neg ho]
          exact h4 o ho
      · refine Or.inl ⟨c, _, _, _, fun g => by rw [body g, if_neg p], by omega, rfl, ?_, ?_, ?_, h4⟩
        · rw [tk, List.filter_append]
          simp [p]
        · rw [tk, List.filter_append]
          simp only [List.filter_cons, p, decide_false, Bool.false_eq_true, if_false, List.filter_nil, List.append_nil]
          exact h2
        · intro k hk
          exact h3 k (by omega)
    · have e : i = l.length := by omega
      subst e
      rw [List.take_length] at h2 ⊢
      refine Or.inr (fun g => ?_)
      rw [h4 0 (by omega), h5, if_pos (nI_le (Nat.le_refl _) (by omega)), lt_eq]
      refine ⟨_, rfl, ⟨up2_same _ _ _ _, ?_⟩, ?_, ?_⟩
      · rw [up2_rw, if_neg (by omega)]
        exact h2
      · intro o a b
        rw [up2_rw, if_neg a]
        exact h4 o b
      · intro k hk
        rw [up2_col hk, h4 0 (by omega)]
  · intro k hk
    simp at hk
