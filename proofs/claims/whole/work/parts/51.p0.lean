/-! PURE: loops by a measure, sums, small numbers -/
theorem zl1_spec {α β : Type} {F : (α → Option β) → α → Option β} (Sp : Nat → α → Prop) (res : Option β) (step : ∀ k a (g : α → Option β), Sp k a → (∀ k' a', k' < k → Sp k' a' → g a' = res) → F g a = res) : ∀ fuel k a, Sp k a → k < fuel → zl1 F fuel a = res := by
  intro fuel
  induction fuel with
  | zero => intro k a _ h; omega
  | succ fuel ih =>
    intro k a hs hk
    show F (zl1 F fuel) a = res
    exact step k a _ hs (fun k' a' hk' hs' => ih k' a' hs' (by omega))
theorem zl2_spec {α α2 β : Type} {F : (α → α2 → Option β) → α → α2 → Option β} (Sp : Nat → α → α2 → Prop) (res : Option β) (step : ∀ k a b (g : α → α2 → Option β), Sp k a b → (∀ k' a' b', k' < k → Sp k' a' b' → g a' b' = res) → F g a b = res) : ∀ fuel k a b, Sp k a b → k < fuel → zl2 F fuel a b = res := by
  intro fuel
  induction fuel with
  | zero => intro k a b _ h; omega
  | succ fuel ih =>
    intro k a b hs hk
    show F (zl2 F fuel) a b = res
    exact step k a b _ hs (fun k' a' b' hk' hs' => ih k' a' b' hs' (by omega))
theorem zl3_spec {α α2 α3 β : Type} {F : (α → α2 → α3 → Option β) → α → α2 → α3 → Option β} (Sp : Nat → α → α2 → α3 → Prop) (res : Option β) (step : ∀ k a b c (g : α → α2 → α3 → Option β), Sp k a b c → (∀ k' a' b' c', k' < k → Sp k' a' b' c' → g a' b' c' = res) → F g a b c = res) : ∀ fuel k a b c, Sp k a b c → k < fuel → zl3 F fuel a b c = res := by
  intro fuel
  induction fuel with
  | zero => intro k a b c _ h; omega
  | succ fuel ih =>
    intro k a b c hs hk
    show F (zl3 F fuel) a b c = res
    exact step k a b c _ hs (fun k' a' b' c' hk' hs' => ih k' a' b' c' hs' (by omega))
theorem zl4_spec {α α2 α3 α4 β : Type} {F : (α → α2 → α3 → α4 → Option β) → α → α2 → α3 → α4 → Option β} (Sp : Nat → α → α2 → α3 → α4 → Prop) (res : Option β) (step : ∀ k a b c d (g : α → α2 → α3 → α4 → Option β), Sp k a b c d → (∀ k' a' b' c' d', k' < k → Sp k' a' b' c' d' → g a' b' c' d' = res) → F g a b c d = res) : ∀ fuel k a b c d, Sp k a b c d → k < fuel → zl4 F fuel a b c d = res := by
  intro fuel
  induction fuel with
  | zero => intro k a b c d _ h; omega
  | succ fuel ih =>
    intro k a b c d hs hk
    show F (zl4 F fuel) a b c d = res
    exact step k a b c d _ hs (fun k' a' b' c' d' hk' hs' => ih k' a' b' c' d' hs' (by omega))
theorem zl5_spec {α α2 α3 α4 α5 β : Type} {F : (α → α2 → α3 → α4 → α5 → Option β) → α → α2 → α3 → α4 → α5 → Option β} (Sp : Nat → α → α2 → α3 → α4 → α5 → Prop) (res : Option β) (step : ∀ k a b c d e (g : α → α2 → α3 → α4 → α5 → Option β), Sp k a b c d e → (∀ k' a' b' c' d' e', k' < k → Sp k' a' b' c' d' e' → g a' b' c' d' e' = res) → F g a b c d e = res) : ∀ fuel k a b c d e, Sp k a b c d e → k < fuel → zl5 F fuel a b c d e = res := by
  intro fuel
  induction fuel with
  | zero => intro k a b c d e _ h; omega
  | succ fuel ih =>
    intro k a b c d e hs hk
    show F (zl5 F fuel) a b c d e = res
    exact step k a b c d e _ hs (fun k' a' b' c' d' e' hk' hs' => ih k' a' b' c' d' e' hs' (by omega))
theorem zl6_spec {α α2 α3 α4 α5 α6 β : Type} {F : (α → α2 → α3 → α4 → α5 → α6 → Option β) → α → α2 → α3 → α4 → α5 → α6 → Option β} (Sp : Nat → α → α2 → α3 → α4 → α5 → α6 → Prop) (res : Option β) (step : ∀ k a b c d e f (g : α → α2 → α3 → α4 → α5 → α6 → Option β), Sp k a b c d e f → (∀ k' a' b' c' d' e' f', k' < k → Sp k' a' b' c' d' e' f' → g a' b' c' d' e' f' = res) → F g a b c d e f = res) : ∀ fuel k a b c d e f, Sp k a b c d e f → k < fuel → zl6 F fuel a b c d e f = res := by
  intro fuel
  induction fuel with
  | zero => intro k a b c d e f _ h; omega
  | succ fuel ih =>
    intro k a b c d e f hs hk
    show F (zl6 F fuel) a b c d e f = res
    exact step k a b c d e f _ hs (fun k' a' b' c' d' e' f' hk' hs' => ih k' a' b' c' d' e' f' hs' (by omega))
theorem lt_eq {α β : Type} (v : α) (k : α → Option β) : lt' v k = k v := rfl
theorem bd_some {α β : Type} (a : α) (k : α → Option β) : bd (some a) k = k a := rfl
theorem bd2_some {α α2 β : Type} (a : α) (b : α2) (k : α → α2 → Option β) : bd2 (some (a, b)) k = k a b := rfl
theorem bd3_some {α α2 α3 β : Type} (a : α) (b : α2) (c : α3) (k : α → α2 → α3 → Option β) : bd3 (some (a, b, c)) k = k a b c := rfl
theorem bd4_some {α α2 α3 α4 β : Type} (a : α) (b : α2) (c : α3) (d : α4) (k : α → α2 → α3 → α4 → Option β) : bd4 (some (a, b, c, d)) k = k a b c d := rfl
theorem jn1_eq {α β : Type} (f : α → Option β) (g : (α → Option β) → Option β) : jn1 f g = g f := rfl
theorem jn2_eq {α α2 β : Type} (f : α → α2 → Option β) (g : (α → α2 → Option β) → Option β) : jn2 f g = g f := rfl
theorem jn3_eq {α α2 α3 β : Type} (f : α → α2 → α3 → Option β) (g : (α → α2 → α3 → Option β) → Option β) : jn3 f g = g f := rfl
theorem oc_none {β : Type} (a : Option β) (b : Nat → Option β) : oc none a b = a := rfl
theorem oc_some {β : Type} (i : Nat) (a : Option β) (b : Nat → Option β) : oc (some i) a b = b i := rfl
theorem ck_ok {β : Type} {i n : Nat} (h : i < n) (hn : n < 2 ^ 31) (k : Option β) : ck (nI i) n k = k := by
  unfold ck
  rw [if_neg (vp_in_nI h hn)]
theorem ckk_ok {β : Type} {i n : Nat} (h : i < n) (k : Option β) : ckk i n k = k := by
  unfold ckk
  rw [if_pos h]
theorem ckn_ok {β : Type} {y : Int32} (h : ¬ y = 0) (k : Option β) : ckn y k = k := by
  unfold ckn
  rw [if_neg h]
theorem ckz_ok {β : Type} {y : Int32} (h : y &&& 1 = y) (k : Option β) : ckz y k = k := by
  unfold ckz
  rw [if_pos h]
theorem ckz_1 {β : Type} (k : Option β) : ckz 1 k = k := rfl
theorem ckz_0 {β : Type} (k : Option β) : ckz 0 k = k := rfl
theorem nI_cl {n : Nat} (h : n < 2 ^ 31) : (nI n).toNatClampNeg = n := nI_clamp h
def sumN : Nat → (Nat → Int32) → Int32
  | 0, _ => 0
  | n + 1, f => sumN n f + f n
theorem sumN_congr {n : Nat} {f g : Nat → Int32} (h : ∀ i, i < n → f i = g i) : sumN n f = sumN n g := by
  induction n with
  | zero => rfl
  | succ n ih => rw [sumN, sumN, ih (fun i hi => h i (by omega)), h n (by omega)]
theorem up2_same (m : Mem) (o k : Nat) (v : Int32) : up2 m o k v o k = v := by simp [up2, va_up, upd]
theorem up2_row {m : Mem} {o o' k k' : Nat} {v : Int32} (h : o' ≠ o) : up2 m o k v o' k' = m o' k' := by simp [up2, va_up, h]
theorem up2_col {m : Mem} {o k k' : Nat} {v : Int32} (h : k' ≠ k) : up2 m o k v o k' = m o k' := by simp [up2, va_up, upd, h]
theorem up2_at (m : Mem) (o k o' k' : Nat) (v : Int32) : up2 m o k v o' k' = if o' = o ∧ k' = k then v else m o' k' := by
  by_cases h : o' = o
  · subst h
    by_cases h2 : k' = k
    · subst h2
      simp [up2_same]
    · rw [up2_col h2]
      simp [h2]
  · rw [up2_row h]
    simp [h]
