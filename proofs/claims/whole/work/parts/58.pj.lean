/-! PURE 19: loops with what comes after them; a least one kept -/
theorem csp1 {α1 γ : Type} {F : (α1 → Option γ) → α1 → Option γ} (n : Nat) (Inv : Nat → α1 → Prop) (Post : Option γ → Prop)
    (hs : ∀ i g a, i ≤ n → Inv i a → (∀ a', i < n → Inv (i + 1) a' → Post (g a')) → Post (F g a)) : ∀ (fu i : Nat) a, Inv i a → n < fu + i → i ≤ n → Post (zl1 F fu a) := by
  intro fu
  induction fu with
  | zero => intro i a _ h1 h2; omega
  | succ fu ih =>
    intro i a h0 h1 h2
    exact hs i _ a h2 h0 (fun a' h3 h4 => ih (i + 1) a' h4 (by omega) (by omega))
theorem csim11 {α1 β1 γ δ : Type} {F : (α1 → Option γ) → α1 → Option γ} {G : (β1 → Option δ) → β1 → Option δ} (n : Nat) (Inv : Nat → α1 → β1 → Prop) (Post : Option γ → Option δ → Prop)
    (hs : ∀ i g h a p, i ≤ n → Inv i a p → (∀ a' p', i < n → Inv (i + 1) a' p' → Post (g a') (h p')) → Post (F g a) (G h p)) : ∀ (fu i : Nat) a p, Inv i a p → n < fu + i → i ≤ n → Post (zl1 F fu a) (zl1 G fu p) := by
  intro fu
  induction fu with
  | zero => intro i a p _ h1 h2; omega
  | succ fu ih =>
    intro i a p h0 h1 h2
    exact hs i _ _ a p h2 h0 (fun a' p' h3 h4 => ih (i + 1) a' p' h4 (by omega) (by omega))
theorem csim12 {α1 β1 β2 γ δ : Type} {F : (α1 → Option γ) → α1 → Option γ} {G : (β1 → β2 → Option δ) → β1 → β2 → Option δ} (n : Nat) (Inv : Nat → α1 → β1 → β2 → Prop) (Post : Option γ → Option δ → Prop)
    (hs : ∀ i g h a p q, i ≤ n → Inv i a p q → (∀ a' p' q', i < n → Inv (i + 1) a' p' q' → Post (g a') (h p' q')) → Post (F g a) (G h p q)) : ∀ (fu i : Nat) a p q, Inv i a p q → n < fu + i → i ≤ n → Post (zl1 F fu a) (zl2 G fu p q) := by
  intro fu
  induction fu with
  | zero => intro i a p q _ h1 h2; omega
  | succ fu ih =>
    intro i a p q h0 h1 h2
    exact hs i _ _ a p q h2 h0 (fun a' p' q' h3 h4 => ih (i + 1) a' p' q' h4 (by omega) (by omega))
theorem csim13 {α1 β1 β2 β3 γ δ : Type} {F : (α1 → Option γ) → α1 → Option γ} {G : (β1 → β2 → β3 → Option δ) → β1 → β2 → β3 → Option δ} (n : Nat) (Inv : Nat → α1 → β1 → β2 → β3 → Prop) (Post : Option γ → Option δ → Prop)
    (hs : ∀ i g h a p q r, i ≤ n → Inv i a p q r → (∀ a' p' q' r', i < n → Inv (i + 1) a' p' q' r' → Post (g a') (h p' q' r')) → Post (F g a) (G h p q r)) : ∀ (fu i : Nat) a p q r, Inv i a p q r → n < fu + i → i ≤ n → Post (zl1 F fu a) (zl3 G fu p q r) := by
  intro fu
  induction fu with
  | zero => intro i a p q r _ h1 h2; omega
  | succ fu ih =>
    intro i a p q r h0 h1 h2
    exact hs i _ _ a p q r h2 h0 (fun a' p' q' r' h3 h4 => ih (i + 1) a' p' q' r' h4 (by omega) (by omega))
theorem csim14 {α1 β1 β2 β3 β4 γ δ : Type} {F : (α1 → Option γ) → α1 → Option γ} {G : (β1 → β2 → β3 → β4 → Option δ) → β1 → β2 → β3 → β4 → Option δ} (n : Nat) (Inv : Nat → α1 → β1 → β2 → β3 → β4 → Prop) (Post : Option γ → Option δ → Prop)
    (hs : ∀ i g h a p q r s, i ≤ n → Inv i a p q r s → (∀ a' p' q' r' s', i < n → Inv (i + 1) a' p' q' r' s' → Post (g a') (h p' q' r' s')) → Post (F g a) (G h p q r s)) : ∀ (fu i : Nat) a p q r s, Inv i a p q r s → n < fu + i → i ≤ n → Post (zl1 F fu a) (zl4 G fu p q r s) := by
  intro fu
  induction fu with
  | zero => intro i a p q r s _ h1 h2; omega
  | succ fu ih =>
    intro i a p q r s h0 h1 h2
    exact hs i _ _ a p q r s h2 h0 (fun a' p' q' r' s' h3 h4 => ih (i + 1) a' p' q' r' s' h4 (by omega) (by omega))
theorem csim15 {α1 β1 β2 β3 β4 β5 γ δ : Type} {F : (α1 → Option γ) → α1 → Option γ} {G : (β1 → β2 → β3 → β4 → β5 → Option δ) → β1 → β2 → β3 → β4 → β5 → Option δ} (n : Nat) (Inv : Nat → α1 → β1 → β2 → β3 → β4 → β5 → Prop) (Post : Option γ → Option δ → Prop)
    (hs : ∀ i g h a p q r s t, i ≤ n → Inv i a p q r s t → (∀ a' p' q' r' s' t', i < n → Inv (i + 1) a' p' q' r' s' t' → Post (g a') (h p' q' r' s' t')) → Post (F g a) (G h p q r s t)) : ∀ (fu i : Nat) a p q r s t, Inv i a p q r s t → n < fu + i → i ≤ n → Post (zl1 F fu a) (zl5 G fu p q r s t) := by
  intro fu
  induction fu with
  | zero => intro i a p q r s t _ h1 h2; omega
  | succ fu ih =>
    intro i a p q r s t h0 h1 h2
    exact hs i _ _ a p q r s t h2 h0 (fun a' p' q' r' s' t' h3 h4 => ih (i + 1) a' p' q' r' s' t' h4 (by omega) (by omega))
theorem csp2 {α1 α2 γ : Type} {F : (α1 → α2 → Option γ) → α1 → α2 → Option γ} (n : Nat) (Inv : Nat → α1 → α2 → Prop) (Post : Option γ → Prop)
    (hs : ∀ i g a b, i ≤ n → Inv i a b → (∀ a' b', i < n → Inv (i + 1) a' b' → Post (g a' b')) → Post (F g a b)) : ∀ (fu i : Nat) a b, Inv i a b → n < fu + i → i ≤ n → Post (zl2 F fu a b) := by
  intro fu
  induction fu with
  | zero => intro i a b _ h1 h2; omega
  | succ fu ih =>
    intro i a b h0 h1 h2
    exact hs i _ a b h2 h0 (fun a' b' h3 h4 => ih (i + 1) a' b' h4 (by omega) (by omega))
theorem csim21 {α1 α2 β1 γ δ : Type} {F : (α1 → α2 → Option γ) → α1 → α2 → Option γ} {G : (β1 → Option δ) → β1 → Option δ} (n : Nat) (Inv : Nat → α1 → α2 → β1 → Prop) (Post : Option γ → Option δ → Prop)
    (hs : ∀ i g h a b p, i ≤ n → Inv i a b p → (∀ a' b' p', i < n → Inv (i + 1) a' b' p' → Post (g a' b') (h p')) → Post (F g a b) (G h p)) : ∀ (fu i : Nat) a b p, Inv i a b p → n < fu + i → i ≤ n → Post (zl2 F fu a b) (zl1 G fu p) := by
  intro fu
  induction fu with
  | zero => intro i a b p _ h1 h2; omega
  | succ fu ih =>
    intro i a b p h0 h1 h2
    exact hs i _ _ a b p h2 h0 (fun a' b' p' h3 h4 => ih (i + 1) a' b' p' h4 (by omega) (by omega))
theorem csim22 {α1 α2 β1 β2 γ δ : Type} {F : (α1 → α2 → Option γ) → α1 → α2 → Option γ} {G : (β1 → β2 → Option δ) → β1 → β2 → Option δ} (n : Nat) (Inv : Nat → α1 → α2 → β1 → β2 → Prop) (Post : Option γ → Option δ → Prop)
    (hs : ∀ i g h a b p q, i ≤ n → Inv i a b p q → (∀ a' b' p' q', i < n → Inv (i + 1) a' b' p' q' → Post (g a' b') (h p' q')) → Post (F g a b) (G h p q)) : ∀ (fu i : Nat) a b p q, Inv i a b p q → n < fu + i → i ≤ n → Post (zl2 F fu a b) (zl2 G fu p q) := by
  intro fu
  induction fu with
  | zero => intro i a b p q _ h1 h2; omega
  | succ fu ih =>
    intro i a b p q h0 h1 h2
    exact hs i _ _ a b p q h2 h0 (fun a' b' p' q' h3 h4 => ih (i + 1) a' b' p' q' h4 (by omega) (by omega))
theorem csim23 {α1 α2 β1 β2 β3 γ δ : Type} {F : (α1 → α2 → Option γ) → α1 → α2 → Option γ} {G : (β1 → β2 → β3 → Option δ) → β1 → β2 → β3 → Option δ} (n : Nat) (Inv : Nat → α1 → α2 → β1 → β2 → β3 → Prop) (Post : Option γ → Option δ → Prop)
    (hs : ∀ i g h a b p q r, i ≤ n → Inv i a b p q r → (∀ a' b' p' q' r', i < n → Inv (i + 1) a' b' p' q' r' → Post (g a' b') (h p' q' r')) → Post (F g a b) (G h p q r)) : ∀ (fu i : Nat) a b p q r, Inv i a b p q r → n < fu + i → i ≤ n → Post (zl2 F fu a b) (zl3 G fu p q r) := by
  intro fu
  induction fu with
  | zero => intro i a b p q r _ h1 h2; omega
  | succ fu ih =>
    intro i a b p q r h0 h1 h2
    exact hs i _ _ a b p q r h2 h0 (fun a' b' p' q' r' h3 h4 => ih (i + 1) a' b' p' q' r' h4 (by omega) (by omega))
theorem csim24 {α1 α2 β1 β2 β3 β4 γ δ : Type} {F : (α1 → α2 → Option γ) → α1 → α2 → Option γ} {G : (β1 → β2 → β3 → β4 → Option δ) → β1 → β2 → β3 → β4 → Option δ} (n : Nat) (Inv : Nat → α1 → α2 → β1 → β2 → β3 → β4 → Prop) (Post : Option γ → Option δ → Prop)
    (hs : ∀ i g h a b p q r s, i ≤ n → Inv i a b p q r s → (∀ a' b' p' q' r' s', i < n → Inv (i + 1) a' b' p' q' r' s' → Post (g a' b') (h p' q' r' s')) → Post (F g a b) (G h p q r s)) : ∀ (fu i : Nat) a b p q r s, Inv i a b p q r s → n < fu + i → i ≤ n → Post (zl2 F fu a b) (zl4 G fu p q r s) := by
  intro fu
  induction fu with
  | zero => intro i a b p q r s _ h1 h2; omega
  | succ fu ih =>
    intro i a b p q r s h0 h1 h2
    exact hs i _ _ a b p q r s h2 h0 (fun a' b' p' q' r' s' h3 h4 => ih (i + 1) a' b' p' q' r' s' h4 (by omega) (by omega))
theorem csim25 {α1 α2 β1 β2 β3 β4 β5 γ δ : Type} {F : (α1 → α2 → Option γ) → α1 → α2 → Option γ} {G : (β1 → β2 → β3 → β4 → β5 → Option δ) → β1 → β2 → β3 → β4 → β5 → Option δ} (n : Nat) (Inv : Nat → α1 → α2 → β1 → β2 → β3 → β4 → β5 → Prop) (Post : Option γ → Option δ → Prop)
    (hs : ∀ i g h a b p q r s t, i ≤ n → Inv i a b p q r s t → (∀ a' b' p' q' r' s' t', i < n → Inv (i + 1) a' b' p' q' r' s' t' → Post (g a' b') (h p' q' r' s' t')) → Post (F g a b) (G h p q r s t)) : ∀ (fu i : Nat) a b p q r s t, Inv i a b p q r s t → n < fu + i → i ≤ n → Post (zl2 F fu a b) (zl5 G fu p q r s t) := by
  intro fu
  induction fu with
  | zero => intro i a b p q r s t _ h1 h2; omega
  | succ fu ih =>
    intro i a b p q r s t h0 h1 h2
    exact hs i _ _ a b p q r s t h2 h0 (fun a' b' p' q' r' s' t' h3 h4 => ih (i + 1) a' b' p' q' r' s' t' h4 (by omega) (by omega))
theorem csp3 {α1 α2 α3 γ : Type} {F : (α1 → α2 → α3 → Option γ) → α1 → α2 → α3 → Option γ} (n : Nat) (Inv : Nat → α1 → α2 → α3 → Prop) (Post : Option γ → Prop)
    (hs : ∀ i g a b c, i ≤ n → Inv i a b c → (∀ a' b' c', i < n → Inv (i + 1) a' b' c' → Post (g a' b' c')) → Post (F g a b c)) : ∀ (fu i : Nat) a b c, Inv i a b c → n < fu + i → i ≤ n → Post (zl3 F fu a b c) := by
  intro fu
  induction fu with
  | zero => intro i a b c _ h1 h2; omega
  | succ fu ih =>
    intro i a b c h0 h1 h2
    exact hs i _ a b c h2 h0 (fun a' b' c' h3 h4 => ih (i + 1) a' b' c' h4 (by omega) (by omega))
theorem csim31 {α1 α2 α3 β1 γ δ : Type} {F : (α1 → α2 → α3 → Option γ) → α1 → α2 → α3 → Option γ} {G : (β1 → Option δ) → β1 → Option δ} (n : Nat) (Inv : Nat → α1 → α2 → α3 → β1 → Prop) (Post : Option γ → Option δ → Prop)
    (hs : ∀ i g h a b c p, i ≤ n → Inv i a b c p → (∀ a' b' c' p', i < n → Inv (i + 1) a' b' c' p' → Post (g a' b' c') (h p')) → Post (F g a b c) (G h p)) : ∀ (fu i : Nat) a b c p, Inv i a b c p → n < fu + i → i ≤ n → Post (zl3 F fu a b c) (zl1 G fu p) := by
  intro fu
  induction fu with
  | zero => intro i a b c p _ h1 h2; omega
  | succ fu ih =>
    intro i a b c p h0 h1 h2
    exact hs i _ _ a b c p h2 h0 (fun a' b' c' p' h3 h4 => ih (i + 1) a' b' c' p' h4 (by omega) (by omega))
theorem csim32 {α1 α2 α3 β1 β2 γ δ : Type} {F : (α1 → α2 → α3 → Option γ) → α1 → α2 → α3 → Option γ} {G : (β1 → β2 → Option δ) → β1 → β2 → Option δ} (n : Nat) (Inv : Nat → α1 → α2 → α3 → β1 → β2 → Prop) (Post : Option γ → Option δ → Prop)
    (hs : ∀ i g h a b c p q, i ≤ n → Inv i a b c p q → (∀ a' b' c' p' q', i < n → Inv (i + 1) a' b' c' p' q' → Post (g a' b' c') (h p' q')) → Post (F g a b c) (G h p q)) : ∀ (fu i : Nat) a b c p q, Inv i a b c p q → n < fu + i → i ≤ n → Post (zl3 F fu a b c) (zl2 G fu p q) := by
  intro fu
  induction fu with
  | zero => intro i a b c p q _ h1 h2; omega
  | succ fu ih =>
    intro i a b c p q h0 h1 h2
    exact hs i _ _ a b c p q h2 h0 (fun a' b' c' p' q' h3 h4 => ih (i + 1) a' b' c' p' q' h4 (by omega) (by omega))
theorem csim33 {α1 α2 α3 β1 β2 β3 γ δ : Type} {F : (α1 → α2 → α3 → Option γ) → α1 → α2 → α3 → Option γ} {G : (β1 → β2 → β3 → Option δ) → β1 → β2 → β3 → Option δ} (n : Nat) (Inv : Nat → α1 → α2 → α3 → β1 → β2 → β3 → Prop) (Post : Option γ → Option δ → Prop)
    (hs : ∀ i g h a b c p q r, i ≤ n → Inv i a b c p q r → (∀ a' b' c' p' q' r', i < n → Inv (i + 1) a' b' c' p' q' r' → Post (g a' b' c') (h p' q' r')) → Post (F g a b c) (G h p q r)) : ∀ (fu i : Nat) a b c p q r, Inv i a b c p q r → n < fu + i → i ≤ n → Post (zl3 F fu a b c) (zl3 G fu p q r) := by
  intro fu
  induction fu with
  | zero => intro i a b c p q r _ h1 h2; omega
  | succ fu ih =>
    intro i a b c p q r h0 h1 h2
    exact hs i _ _ a b c p q r h2 h0 (fun a' b' c' p' q' r' h3 h4 => ih (i + 1) a' b' c' p' q' r' h4 (by omega) (by omega))
theorem csim34 {α1 α2 α3 β1 β2 β3 β4 γ δ : Type} {F : (α1 → α2 → α3 → Option γ) → α1 → α2 → α3 → Option γ} {G : (β1 → β2 → β3 → β4 → Option δ) → β1 → β2 → β3 → β4 → Option δ} (n : Nat) (Inv : Nat → α1 → α2 → α3 → β1 → β2 → β3 → β4 → Prop) (Post : Option γ → Option δ → Prop)
    (hs : ∀ i g h a b c p q r s, i ≤ n → Inv i a b c p q r s → (∀ a' b' c' p' q' r' s', i < n → Inv (i + 1) a' b' c' p' q' r' s' → Post (g a' b' c') (h p' q' r' s')) → Post (F g a b c) (G h p q r s)) : ∀ (fu i : Nat) a b c p q r s, Inv i a b c p q r s → n < fu + i → i ≤ n → Post (zl3 F fu a b c) (zl4 G fu p q r s) := by
  intro fu
  induction fu with
  | zero => intro i a b c p q r s _ h1 h2; omega
  | succ fu ih =>
    intro i a b c p q r s h0 h1 h2
    exact hs i _ _ a b c p q r s h2 h0 (fun a' b' c' p' q' r' s' h3 h4 => ih (i + 1) a' b' c' p' q' r' s' h4 (by omega) (by omega))
theorem csim35 {α1 α2 α3 β1 β2 β3 β4 β5 γ δ : Type} {F : (α1 → α2 → α3 → Option γ) → α1 → α2 → α3 → Option γ} {G : (β1 → β2 → β3 → β4 → β5 → Option δ) → β1 → β2 → β3 → β4 → β5 → Option δ} (n : Nat) (Inv : Nat → α1 → α2 → α3 → β1 → β2 → β3 → β4 → β5 → Prop) (Post : Option γ → Option δ → Prop)
    (hs : ∀ i g h a b c p q r s t, i ≤ n → Inv i a b c p q r s t → (∀ a' b' c' p' q' r' s' t', i < n → Inv (i + 1) a' b' c' p' q' r' s' t' → Post (g a' b' c') (h p' q' r' s' t')) → Post (F g a b c) (G h p q r s t)) : ∀ (fu i : Nat) a b c p q r s t, Inv i a b c p q r s t → n < fu + i → i ≤ n → Post (zl3 F fu a b c) (zl5 G fu p q r s t) := by
  intro fu
  induction fu with
  | zero => intro i a b c p q r s t _ h1 h2; omega
  | succ fu ih =>
    intro i a b c p q r s t h0 h1 h2
    exact hs i _ _ a b c p q r s t h2 h0 (fun a' b' c' p' q' r' s' t' h3 h4 => ih (i + 1) a' b' c' p' q' r' s' t' h4 (by omega) (by omega))
theorem csp4 {α1 α2 α3 α4 γ : Type} {F : (α1 → α2 → α3 → α4 → Option γ) → α1 → α2 → α3 → α4 → Option γ} (n : Nat) (Inv : Nat → α1 → α2 → α3 → α4 → Prop) (Post : Option γ → Prop)
    (hs : ∀ i g a b c d, i ≤ n → Inv i a b c d → (∀ a' b' c' d', i < n → Inv (i + 1) a' b' c' d' → Post (g a' b' c' d')) → Post (F g a b c d)) : ∀ (fu i : Nat) a b c d, Inv i a b c d → n < fu + i → i ≤ n → Post (zl4 F fu a b c d) := by
  intro fu
  induction fu with
  | zero => intro i a b c d _ h1 h2; omega
  | succ fu ih =>
    intro i a b c d h0 h1 h2
    exact hs i _ a b c d h2 h0 (fun a' b' c' d' h3 h4 => ih (i + 1) a' b' c' d' h4 (by omega) (by omega))
theorem csim41 {α1 α2 α3 α4 β1 γ δ : Type} {F : (α1 → α2 → α3 → α4 → Option γ) → α1 → α2 → α3 → α4 → Option γ} {G : (β1 → Option δ) → β1 → Option δ} (n : Nat) (Inv : Nat → α1 → α2 → α3 → α4 → β1 → Prop) (Post : Option γ → Option δ → Prop)
    (hs : ∀ i g h a b c d p, i ≤ n → Inv i a b c d p → (∀ a' b' c' d' p', i < n → Inv (i + 1) a' b' c' d' p' → Post (g a' b' c' d') (h p')) → Post (F g a b c d) (G h p)) : ∀ (fu i : Nat) a b c d p, Inv i a b c d p → n < fu + i → i ≤ n → Post (zl4 F fu a b c d) (zl1 G fu p) := by
  intro fu
  induction fu with
  | zero => intro i a b c d p _ h1 h2; omega
  | succ fu ih =>
    intro i a b c d p h0 h1 h2
    exact hs i _ _ a b c d p h2 h0 (fun a' b' c' d' p' h3 h4 => ih (i + 1) a' b' c' d' p' h4 (by omega) (by omega))
theorem csim42 {α1 α2 α3 α4 β1 β2 γ δ : Type} {F : (α1 → α2 → α3 → α4 → Option γ) → α1 → α2 → α3 → α4 → Option γ} {G : (β1 → β2 → Option δ) → β1 → β2 → Option δ} (n : Nat) (Inv : Nat → α1 → α2 → α3 → α4 → β1 → β2 → Prop) (Post : Option γ → Option δ → Prop)
    (hs : ∀ i g h a b c d p q, i ≤ n → Inv i a b c d p q → (∀ a' b' c' d' p' q', i < n → Inv (i + 1) a' b' c' d' p' q' → Post (g a' b' c' d') (h p' q')) → Post (F g a b c d) (G h p q)) : ∀ (fu i : Nat) a b c d p q, Inv i a b c d p q → n < fu + i → i ≤ n → Post (zl4 F fu a b c d) (zl2 G fu p q) := by
  intro fu
  induction fu with
  | zero => intro i a b c d p q _ h1 h2; omega
  | succ fu ih =>
    intro i a b c d p q h0 h1 h2
    exact hs i _ _ a b c d p q h2 h0 (fun a' b' c' d' p' q' h3 h4 => ih (i + 1) a' b' c' d' p' q' h4 (by omega) (by omega))
theorem csim43 {α1 α2 α3 α4 β1 β2 β3 γ δ : Type} {F : (α1 → α2 → α3 → α4 → Option γ) → α1 → α2 → α3 → α4 → Option γ} {G : (β1 → β2 → β3 → Option δ) → β1 → β2 → β3 → Option δ} (n : Nat) (Inv : Nat → α1 → α2 → α3 → α4 → β1 → β2 → β3 → Prop) (Post : Option γ → Option δ → Prop)
    (hs : ∀ i g h a b c d p q r, i ≤ n → Inv i a b c d p q r → (∀ a' b' c' d' p' q' r', i < n → Inv (i + 1) a' b' c' d' p' q' r' → Post (g a' b' c' d') (h p' q' r')) → Post (F g a b c d) (G h p q r)) : ∀ (fu i : Nat) a b c d p q r, Inv i a b c d p q r → n < fu + i → i ≤ n → Post (zl4 F fu a b c d) (zl3 G fu p q r) := by
  intro fu
  induction fu with
  | zero => intro i a b c d p q r _ h1 h2; omega
  | succ fu ih =>
    intro i a b c d p q r h0 h1 h2
    exact hs i _ _ a b c d p q r h2 h0 (fun a' b' c' d' p' q' r' h3 h4 => ih (i + 1) a' b' c' d' p' q' r' h4 (by omega) (by omega))
theorem csim44 {α1 α2 α3 α4 β1 β2 β3 β4 γ δ : Type} {F : (α1 → α2 → α3 → α4 → Option γ) → α1 → α2 → α3 → α4 → Option γ} {G : (β1 → β2 → β3 → β4 → Option δ) → β1 → β2 → β3 → β4 → Option δ} (n : Nat) (Inv : Nat → α1 → α2 → α3 → α4 → β1 → β2 → β3 → β4 → Prop) (Post : Option γ → Option δ → Prop)
    (hs : ∀ i g h a b c d p q r s, i ≤ n → Inv i a b c d p q r s → (∀ a' b' c' d' p' q' r' s', i < n → Inv (i + 1) a' b' c' d' p' q' r' s' → Post (g a' b' c' d') (h p' q' r' s')) → Post (F g a b c d) (G h p q r s)) : ∀ (fu i : Nat) a b c d p q r s, Inv i a b c d p q r s → n < fu + i → i ≤ n → Post (zl4 F fu a b c d) (zl4 G fu p q r s) := by
  intro fu
  induction fu with
  | zero => intro i a b c d p q r s _ h1 h2; omega
  | succ fu ih =>
    intro i a b c d p q r s h0 h1 h2
    exact hs i _ _ a b c d p q r s h2 h0 (fun a' b' c' d' p' q' r' s' h3 h4 => ih (i + 1) a' b' c' d' p' q' r' s' h4 (by omega) (by omega))
theorem csim45 {α1 α2 α3 α4 β1 β2 β3 β4 β5 γ δ : Type} {F : (α1 → α2 → α3 → α4 → Option γ) → α1 → α2 → α3 → α4 → Option γ} {G : (β1 → β2 → β3 → β4 → β5 → Option δ) → β1 → β2 → β3 → β4 → β5 → Option δ} (n : Nat) (Inv : Nat → α1 → α2 → α3 → α4 → β1 → β2 → β3 → β4 → β5 → Prop) (Post : Option γ → Option δ → Prop)
    (hs : ∀ i g h a b c d p q r s t, i ≤ n → Inv i a b c d p q r s t → (∀ a' b' c' d' p' q' r' s' t', i < n → Inv (i + 1) a' b' c' d' p' q' r' s' t' → Post (g a' b' c' d') (h p' q' r' s' t')) → Post (F g a b c d) (G h p q r s t)) : ∀ (fu i : Nat) a b c d p q r s t, Inv i a b c d p q r s t → n < fu + i → i ≤ n → Post (zl4 F fu a b c d) (zl5 G fu p q r s t) := by
  intro fu
  induction fu with
  | zero => intro i a b c d p q r s t _ h1 h2; omega
  | succ fu ih =>
    intro i a b c d p q r s t h0 h1 h2
    exact hs i _ _ a b c d p q r s t h2 h0 (fun a' b' c' d' p' q' r' s' t' h3 h4 => ih (i + 1) a' b' c' d' p' q' r' s' t' h4 (by omega) (by omega))
theorem csp5 {α1 α2 α3 α4 α5 γ : Type} {F : (α1 → α2 → α3 → α4 → α5 → Option γ) → α1 → α2 → α3 → α4 → α5 → Option γ} (n : Nat) (Inv : Nat → α1 → α2 → α3 → α4 → α5 → Prop) (Post : Option γ → Prop)
    (hs : ∀ i g a b c d e, i ≤ n → Inv i a b c d e → (∀ a' b' c' d' e', i < n → Inv (i + 1) a' b' c' d' e' → Post (g a' b' c' d' e')) → Post (F g a b c d e)) : ∀ (fu i : Nat) a b c d e, Inv i a b c d e → n < fu + i → i ≤ n → Post (zl5 F fu a b c d e) := by
  intro fu
  induction fu with
  | zero => intro i a b c d e _ h1 h2; omega
  | succ fu ih =>
    intro i a b c d e h0 h1 h2
    exact hs i _ a b c d e h2 h0 (fun a' b' c' d' e' h3 h4 => ih (i + 1) a' b' c' d' e' h4 (by omega) (by omega))
theorem csim51 {α1 α2 α3 α4 α5 β1 γ δ : Type} {F : (α1 → α2 → α3 → α4 → α5 → Option γ) → α1 → α2 → α3 → α4 → α5 → Option γ} {G : (β1 → Option δ) → β1 → Option δ} (n : Nat) (Inv : Nat → α1 → α2 → α3 → α4 → α5 → β1 → Prop) (Post : Option γ → Option δ → Prop)
    (hs : ∀ i g h a b c d e p, i ≤ n → Inv i a b c d e p → (∀ a' b' c' d' e' p', i < n → Inv (i + 1) a' b' c' d' e' p' → Post (g a' b' c' d' e') (h p')) → Post (F g a b c d e) (G h p)) : ∀ (fu i : Nat) a b c d e p, Inv i a b c d e p → n < fu + i → i ≤ n → Post (zl5 F fu a b c d e) (zl1 G fu p) := by
  intro fu
  induction fu with
  | zero => intro i a b c d e p _ h1 h2; omega
  | succ fu ih =>
    intro i a b c d e p h0 h1 h2
    exact hs i _ _ a b c d e p h2 h0 (fun a' b' c' d' e' p' h3 h4 => ih (i + 1) a' b' c' d' e' p' h4 (by omega) (by omega))
theorem csim52 {α1 α2 α3 α4 α5 β1 β2 γ δ : Type} {F : (α1 → α2 → α3 → α4 → α5 → Option γ) → α1 → α2 → α3 → α4 → α5 → Option γ} {G : (β1 → β2 → Option δ) → β1 → β2 → Option δ} (n : Nat) (Inv : Nat → α1 → α2 → α3 → α4 → α5 → β1 → β2 → Prop) (Post : Option γ → Option δ → Prop)
    (hs : ∀ i g h a b c d e p q, i ≤ n → Inv i a b c d e p q → (∀ a' b' c' d' e' p' q', i < n → Inv (i + 1) a' b' c' d' e' p' q' → Post (g a' b' c' d' e') (h p' q')) → Post (F g a b c d e) (G h p q)) : ∀ (fu i : Nat) a b c d e p q, Inv i a b c d e p q → n < fu + i → i ≤ n → Post (zl5 F fu a b c d e) (zl2 G fu p q) := by
  intro fu
  induction fu with
  | zero => intro i a b c d e p q _ h1 h2; omega
  | succ fu ih =>
    intro i a b c d e p q h0 h1 h2
    exact hs i _ _ a b c d e p q h2 h0 (fun a' b' c' d' e' p' q' h3 h4 => ih (i + 1) a' b' c' d' e' p' q' h4 (by omega) (by omega))
theorem csim53 {α1 α2 α3 α4 α5 β1 β2 β3 γ δ : Type} {F : (α1 → α2 → α3 → α4 → α5 → Option γ) → α1 → α2 → α3 → α4 → α5 → Option γ} {G : (β1 → β2 → β3 → Option δ) → β1 → β2 → β3 → Option δ} (n : Nat) (Inv : Nat → α1 → α2 → α3 → α4 → α5 → β1 → β2 → β3 → Prop) (Post : Option γ → Option δ → Prop)
    (hs : ∀ i g h a b c d e p q r, i ≤ n → Inv i a b c d e p q r → (∀ a' b' c' d' e' p' q' r', i < n → Inv (i + 1) a' b' c' d' e' p' q' r' → Post (g a' b' c' d' e') (h p' q' r')) → Post (F g a b c d e) (G h p q r)) : ∀ (fu i : Nat) a b c d e p q r, Inv i a b c d e p q r → n < fu + i → i ≤ n → Post (zl5 F fu a b c d e) (zl3 G fu p q r) := by
  intro fu
  induction fu with
  | zero => intro i a b c d e p q r _ h1 h2; omega
  | succ fu ih =>
    intro i a b c d e p q r h0 h1 h2
    exact hs i _ _ a b c d e p q r h2 h0 (fun a' b' c' d' e' p' q' r' h3 h4 => ih (i + 1) a' b' c' d' e' p' q' r' h4 (by omega) (by omega))
theorem csim54 {α1 α2 α3 α4 α5 β1 β2 β3 β4 γ δ : Type} {F : (α1 → α2 → α3 → α4 → α5 → Option γ) → α1 → α2 → α3 → α4 → α5 → Option γ} {G : (β1 → β2 → β3 → β4 → Option δ) → β1 → β2 → β3 → β4 → Option δ} (n : Nat) (Inv : Nat → α1 → α2 → α3 → α4 → α5 → β1 → β2 → β3 → β4 → Prop) (Post : Option γ → Option δ → Prop)
    (hs : ∀ i g h a b c d e p q r s, i ≤ n → Inv i a b c d e p q r s → (∀ a' b' c' d' e' p' q' r' s', i < n → Inv (i + 1) a' b' c' d' e' p' q' r' s' → Post (g a' b' c' d' e') (h p' q' r' s')) → Post (F g a b c d e) (G h p q r s)) : ∀ (fu i : Nat) a b c d e p q r s, Inv i a b c d e p q r s → n < fu + i → i ≤ n → Post (zl5 F fu a b c d e) (zl4 G fu p q r s) := by
  intro fu
  induction fu with
  | zero => intro i a b c d e p q r s _ h1 h2; omega
  | succ fu ih =>
    intro i a b c d e p q r s h0 h1 h2
    exact hs i _ _ a b c d e p q r s h2 h0 (fun a' b' c' d' e' p' q' r' s' h3 h4 => ih (i + 1) a' b' c' d' e' p' q' r' s' h4 (by omega) (by omega))
theorem csim55 {α1 α2 α3 α4 α5 β1 β2 β3 β4 β5 γ δ : Type} {F : (α1 → α2 → α3 → α4 → α5 → Option γ) → α1 → α2 → α3 → α4 → α5 → Option γ} {G : (β1 → β2 → β3 → β4 → β5 → Option δ) → β1 → β2 → β3 → β4 → β5 → Option δ} (n : Nat) (Inv : Nat → α1 → α2 → α3 → α4 → α5 → β1 → β2 → β3 → β4 → β5 → Prop) (Post : Option γ → Option δ → Prop)
    (hs : ∀ i g h a b c d e p q r s t, i ≤ n → Inv i a b c d e p q r s t → (∀ a' b' c' d' e' p' q' r' s' t', i < n → Inv (i + 1) a' b' c' d' e' p' q' r' s' t' → Post (g a' b' c' d' e') (h p' q' r' s' t')) → Post (F g a b c d e) (G h p q r s t)) : ∀ (fu i : Nat) a b c d e p q r s t, Inv i a b c d e p q r s t → n < fu + i → i ≤ n → Post (zl5 F fu a b c d e) (zl5 G fu p q r s t) := by
  intro fu
  induction fu with
  | zero => intro i a b c d e p q r s t _ h1 h2; omega
  | succ fu ih =>
    intro i a b c d e p q r s t h0 h1 h2
    exact hs i _ _ a b c d e p q r s t h2 h0 (fun a' b' c' d' e' p' q' r' s' t' h3 h4 => ih (i + 1) a' b' c' d' e' p' q' r' s' t' h4 (by omega) (by omega))
theorem i_nle (a b : Int32) : ¬ a ≤ b ↔ b < a := by rw [i_lt, i_le]; omega
theorem i_nlt (a b : Int32) : ¬ a < b ↔ b ≤ a := by rw [i_lt, i_le]; omega
theorem nI_max {c : Nat} (h : c ≤ 20000) : nI c < 2147483647 ∧ nI c < 1000000000 := ⟨nI_lt (b := 2147483647) (by omega) (by decide), nI_lt (b := 1000000000) (by omega) (by decide)⟩
/-- the least so far, in the class and in the model -/
def MNi (i : Nat) (x z : Int32) : Prop := (i = 0 ∧ x = 2147483647 ∧ z = 1000000000) ∨ (0 < i ∧ ∃ c, c ≤ 20000 ∧ x = nI c ∧ z = nI c)
theorem MNi.st {i v : Nat} {x z : Int32} (h : MNi i x z) (hv : v ≤ 20000) : x ≤ nI v ↔ ¬ nI v < z := by
  rcases h with ⟨-, rfl, rfl⟩ | ⟨-, c, -, rfl, rfl⟩
  · have := nI_max hv
    exact ⟨fun a => absurd a ((i_nle _ _).mpr this.1), fun a => absurd this.2 a⟩
  · rw [i_nlt]
theorem MNi.nx {i v : Nat} {x z : Int32} (h : MNi i x z) (hv : v ≤ 20000) (hx : x ≤ nI v) : MNi (i + 1) x z := by
  rcases h with ⟨-, rfl, rfl⟩ | ⟨-, c, c1, rfl, rfl⟩
  · exact absurd hx ((i_nle _ _).mpr (nI_max hv).1)
  · exact Or.inr ⟨by omega, c, c1, rfl, rfl⟩
theorem ref1 {fu : Nat} {f n k le m : Mem} (h : RR f n k le m) : ∃ f' m', pX6_refuse fu f (-1) = some (-1, f') ∧ pX7_no fu m (-1) = some (-1, m') ∧ RR f' n k le m' := refuse_R (c := 1) h (by omega) (by omega)
theorem ref2 {fu : Nat} {f n k le m : Mem} (h : RR f n k le m) : ∃ f' m', pX6_refuse fu f (-2) = some (-2, f') ∧ pX7_no fu m (-2) = some (-2, m') ∧ RR f' n k le m' := refuse_R (c := 2) h (by omega) (by omega)
theorem ref3 {fu : Nat} {f n k le m : Mem} (h : RR f n k le m) : ∃ f' m', pX6_refuse fu f (-3) = some (-3, f') ∧ pX7_no fu m (-3) = some (-3, m') ∧ RR f' n k le m' := refuse_R (c := 3) h (by omega) (by omega)
theorem ref4 {fu : Nat} {f n k le m : Mem} (h : RR f n k le m) : ∃ f' m', pX6_refuse fu f (-4) = some (-4, f') ∧ pX7_no fu m (-4) = some (-4, m') ∧ RR f' n k le m' := refuse_R (c := 4) h (by omega) (by omega)
theorem ref6 {fu : Nat} {f n k le m : Mem} (h : RR f n k le m) : ∃ f' m', pX6_refuse fu f (-6) = some (-6, f') ∧ pX7_no fu m (-6) = some (-6, m') ∧ RR f' n k le m' := refuse_R (c := 6) h (by omega) (by omega)
theorem comer_c {fu n t : Nat} {d m : Mem} {l : List Nat} (h : DAYR n t d m l) (p : Int32) : (pX2_hasComer fu d p = some 0 ∧ pX7_isComer fu m p = some 0) ∨ ∃ j, j < n ∧ p = nI j ∧ pX2_hasComer fu d p = some 1 ∧ pX7_isComer fu m p = some 1 := by
  unfold pX2_hasComer pX7_isComer
  rw [h.1.2.1, h.1.2.2.1]
  have n8 := h.1.1
  rcases pk_ix p (n := n) (by omega) with a | a | ⟨j, hj, rfl⟩
  · exact Or.inl ⟨by rw [if_pos a], by rw [if_pos a]⟩
  · by_cases c : p < 0
    · exact Or.inl ⟨by rw [if_pos c], by rw [if_pos c]⟩
    · exact Or.inl ⟨by rw [if_neg c, if_pos a], by rw [if_neg c, if_pos a]⟩
  · exact Or.inr ⟨j, hj, rfl, by rw [if_neg (nI_pos (by omega)), if_neg (nI_ge hj (by omega))], by rw [if_neg (nI_pos (by omega)), if_neg (nI_ge hj (by omega))]⟩
theorem end2 {fu n t : Nat} {d m : Mem} {l : List Nat} (h : DAYR n t d m l) (hfu : 200 < fu) : ∃ d' m' t' l', pX2_pass fu d 180 = some d' ∧ pX7_goesToEnd fu m = some m' ∧ DAYR n t' d' m' l' ∧ FD d d' ∧ FM m m' ∧ (d 0 7 = 0 → d' 0 7 = m' 0 18) := by
  have key := end_sim (fu := fu) (K := fun y4 => some y4) (H := fun y3 => some y3) (P := fun (a b : Option Mem) => ∃ d' m' t' l', a = some d' ∧ b = some m' ∧ DAYR n t' d' m' l' ∧ FD d d' ∧ FM m m' ∧ (d 0 7 = 0 → d' 0 7 = m' 0 18)) h hfu (fun d' m' t' l' h1 h2 h3 h4 => ⟨d', m', t', l', rfl, rfl, h1, h2, h3, h4⟩)
  obtain ⟨d', m', t', l', e1, e2, r⟩ := key
  refine ⟨d', m', t', l', e1, ?_, r⟩
  cases hx : pX7_goesToEnd fu m with
  | none => rw [hx] at e2; exact absurd e2 (by simp [bd])
  | some y => rw [hx] at e2; exact e2
theorem zero7 {n t : Nat} {d m : Mem} {l : List Nat} (h : DAYR n t d m l) : DAYR n t (up2 d 0 7 0) m l := by
  have ro : ∀ o, 0 < o → up2 d 0 7 0 o = d o := fun o h => by rw [up2_rw, if_neg (by omega)]
  exact h.cgd ⟨up2_col (by omega), up2_col (by omega), fun i _ => by rw [ro 1 (by omega)], fun j _ i _ => by rw [ro _ (by omega)], fun i _ => ⟨by rw [ro 3 (by omega)], by rw [ro 4 (by omega)]⟩⟩ (fun i _ => by rw [ro 2 (by omega)]) (up2_col (by omega))
theorem rest_R {fu : Nat} {f n k le m : Mem} (h : RR f n k le m) (hfu : 200 < fu) (md : Mem) (p : Int32) : ∃ r f' md' m', pX6_rest fu f n md p = some (r, f', md') ∧ pX7_rest fu m p = some (r, m') ∧ RR f' n k le m' := by
  obtain ⟨f', m', e1, e2, hr⟩ := ref2 (fu := fu) h
  unfold pX6_rest pX7_rest pX7_isIn
  by_cases a : p < 0
  · simp only [if_pos a, jn1_eq, bd_some, e1, e2, bd2_some, reduceIte]
    exact ⟨_, _, _, _, rfl, rfl, hr⟩
  · by_cases b : p ≤ 4
    · simp only [if_neg a, if_pos b, if_neg ((i_nlt 4 p).mpr b), jn1_eq, bd_some, if_neg i10]
      have hh := h
      obtain ⟨hF, ⟨nn, t, l, hD⟩, -⟩ := hh
      obtain ⟨y, m1, t1, t2, hD1, hS1⟩ := take_save (fu := fu) (z := md) hD (by omega)
      obtain ⟨d2, m2, tt, l2, g1, g2, hD2, -, hFM, hb⟩ := end2 (fu := fu) (zero7 hD1) hfu
      obtain ⟨m3, e3, hK, -⟩ := back (fu := fu) (hS1.fw hFM.fw) (by omega)
      rw [t1, t2, bd_some, bd_some]
      unfold pX5_restOfDay
      simp only [lt_eq, g1, g2, bd_some, e3]
      obtain ⟨j, j4, rfl⟩ := nI_of2 (M := 4) (n := 4) rfl a b
      have hr := h.keep hK
      obtain ⟨w, -, w1, w2⟩ := waited_eq (fu := fu) hD2.1 hD2.2.1 (by omega)
      obtain ⟨s, -, s1, s2⟩ := state_eq (fu := fu) hD2.1 hD2.2.1 (by omega) 3
      obtain ⟨c, -, c1, c2⟩ := cups_eq (fu := fu) hD2.1 hD2.2.1 (by omega)
      obtain ⟨q, -, q1, q2⟩ := cost_eq (fu := fu) hD2.1 hD2.2.1 (by omega)
      have hb := hb (by rw [up2_same])
      rcases (show j = 0 ∨ j = 1 ∨ j = 2 ∨ j = 3 ∨ j = 4 by omega) with rfl | rfl | rfl | rfl | rfl
      · simp only [show nI 0 = 0 from rfl, reduceIte, w1, w2, bd_some, bd2_some]
        exact ⟨_, _, _, _, rfl, rfl, hr⟩
      · simp only [show nI 1 = 1 from rfl, if_neg (show ¬ (1 : Int32) = 0 by decide), reduceIte, s1, s2, bd_some, bd2_some]
        exact ⟨_, _, _, _, rfl, rfl, hr⟩
      · simp only [show nI 2 = 2 from rfl, if_neg (show ¬ (2 : Int32) = 0 by decide), if_neg (show ¬ (2 : Int32) = 1 by decide), reduceIte, hb, bd2_some]
        exact ⟨_, _, _, _, rfl, rfl, hr⟩
      · simp only [show nI 3 = 3 from rfl, if_neg (show ¬ (3 : Int32) = 0 by decide), if_neg (show ¬ (3 : Int32) = 1 by decide), if_neg (show ¬ (3 : Int32) = 2 by decide), reduceIte, c1, c2, bd_some, bd2_some]
        exact ⟨_, _, _, _, rfl, rfl, hr⟩
      · simp only [show nI 4 = 4 from rfl, if_neg (show ¬ (4 : Int32) = 0 by decide), if_neg (show ¬ (4 : Int32) = 1 by decide), if_neg (show ¬ (4 : Int32) = 2 by decide), if_neg (show ¬ (4 : Int32) = 3 by decide), q1, q2, bd_some, bd2_some]
        exact ⟨_, _, _, _, rfl, rfl, hr⟩
    · simp only [if_neg a, if_neg b, if_pos ((i_nle p 4).mp b), jn1_eq, bd_some, e1, e2, bd2_some, reduceIte]
      exact ⟨_, _, _, _, rfl, rfl, hr⟩
theorem when_R {fu : Nat} {f n k le m : Mem} (h : RR f n k le m) (hfu : 200 < fu) (md : Mem) (p : Int32) : ∃ r f' md' m', pX6_when fu f n md p = some (r, f', md') ∧ pX7_when fu m p = some (r, m') ∧ RR f' n k le m' := by
  obtain ⟨f', m', e1, e2, hr⟩ := ref1 (fu := fu) h
  have hh := h
  obtain ⟨hF, ⟨nn, t, l, hD⟩, -⟩ := hh
  unfold pX6_when pX7_when
  rcases comer_c (fu := fu) hD p with ⟨a1, a2⟩ | ⟨j, hj, rfl, a1, a2⟩
  · rw [a1, a2, bd_some, bd_some, if_pos rfl, if_pos rfl, e1, e2, bd2_some, bd2_some]
    exact ⟨_, _, _, _, rfl, rfl, hr⟩
  · obtain ⟨y, m1, t1, t2, hD1, hS1⟩ := take_save (fu := fu) (z := md) hD (by omega)
    obtain ⟨d2, m2, tt, l2, g1, g2, hD2, -, hFM, hb⟩ := end2 (fu := fu) hD1 hfu
    obtain ⟨m3, e3, hK, -⟩ := back (fu := fu) (hS1.fw hFM.fw) (by omega)
    have n8 := hD2.1.1
    have hrw := hD2.1.2.2.2.2.2.1 j hj
    have hcr := hD2.2.1.2.2.2.1 j hj
    rw [a1, a2, bd_some, bd_some, if_neg i10, if_neg i10, t1, t2, bd_some, bd_some]
    unfold pX5_servedAt
    simp only [g1, g2, bd_some, ck_ok (show j < 8 by omega) (show 8 < 2 ^ 31 by decide), nI_cl (show j < 2 ^ 31 by omega), ← hrw.2.2.2.2.2.1, jn1_eq]
    by_cases s : d2 (5 + j) 5 = 2
    · obtain ⟨c, v, v1, c2, c6⟩ := hcr.2.2.2.2.2.2.2 s
      have : m2 5 j + m2 9 j = d2 (5 + j) 6 := by
        rw [hrw.2.2.2.2.2.2, ← hrw.2.2.1]
        unfold wtd
        rw [if_pos s, c2, c6, pk_sub (by omega), nI_add]
        congr 1
        omega
      simp only [if_pos s, this, e3, bd_some, bd2_some]
      exact ⟨_, _, _, _, rfl, rfl, h.keep hK⟩
    · simp only [if_neg s, e3, bd_some, bd2_some]
      exact ⟨_, _, _, _, rfl, rfl, h.keep hK⟩
