def jn1 {α β : Type} (f9 : α → Option β) (g9 : (α → Option β) → Option β) : Option β := g9 f9
theorem jn1_use {α β : Type} {f9 : α → Option β} {g9 : (α → Option β) → Option β} {r : β} (h9 : jn1 f9 g9 = some r) : ∃ k, k = f9 ∧ g9 k = some r := ⟨f9, rfl, h9⟩
theorem jn1_ap {α β : Type} {f9 k : α → Option β} {a : α} {r : β} (e9 : k = f9) (h9 : k a = some r) : f9 a = some r := by subst e9; exact h9
def zl1 {α β : Type} (F9 : (α → Option β) → α → Option β) : Nat → α → Option β
  | 0, _ => none
  | n9 + 1, a => F9 (zl1 F9 n9) a
theorem zl1_use {α β : Type} {F9 : (α → Option β) → α → Option β} {n9 : Nat} {a : α} {r : β} (h9 : zl1 F9 n9 a = some r) : ∃ G, G = F9 ∧ zl1 G n9 a = some r := ⟨F9, rfl, h9⟩
theorem zl1_s {α β : Type} {F9 G : (α → Option β) → α → Option β} {n9 : Nat} {a : α} {r : β} (e9 : G = F9) (h9 : zl1 G (n9 + 1) a = some r) : F9 (zl1 G n9) a = some r := by subst e9; exact h9
def jn2 {α α2 β : Type} (f9 : α → α2 → Option β) (g9 : (α → α2 → Option β) → Option β) : Option β := g9 f9
theorem jn2_use {α α2 β : Type} {f9 : α → α2 → Option β} {g9 : (α → α2 → Option β) → Option β} {r : β} (h9 : jn2 f9 g9 = some r) : ∃ k, k = f9 ∧ g9 k = some r := ⟨f9, rfl, h9⟩
theorem jn2_ap {α α2 β : Type} {f9 k : α → α2 → Option β} {a : α} {b : α2} {r : β} (e9 : k = f9) (h9 : k a b = some r) : f9 a b = some r := by subst e9; exact h9
def zl2 {α α2 β : Type} (F9 : (α → α2 → Option β) → α → α2 → Option β) : Nat → α → α2 → Option β
  | 0, _, _ => none
  | n9 + 1, a, b => F9 (zl2 F9 n9) a b
theorem zl2_use {α α2 β : Type} {F9 : (α → α2 → Option β) → α → α2 → Option β} {n9 : Nat} {a : α} {b : α2} {r : β} (h9 : zl2 F9 n9 a b = some r) : ∃ G, G = F9 ∧ zl2 G n9 a b = some r := ⟨F9, rfl, h9⟩
theorem zl2_s {α α2 β : Type} {F9 G : (α → α2 → Option β) → α → α2 → Option β} {n9 : Nat} {a : α} {b : α2} {r : β} (e9 : G = F9) (h9 : zl2 G (n9 + 1) a b = some r) : F9 (zl2 G n9) a b = some r := by subst e9; exact h9
def jn3 {α α2 α3 β : Type} (f9 : α → α2 → α3 → Option β) (g9 : (α → α2 → α3 → Option β) → Option β) : Option β := g9 f9
theorem jn3_use {α α2 α3 β : Type} {f9 : α → α2 → α3 → Option β} {g9 : (α → α2 → α3 → Option β) → Option β} {r : β} (h9 : jn3 f9 g9 = some r) : ∃ k, k = f9 ∧ g9 k = some r := ⟨f9, rfl, h9⟩
theorem jn3_ap {α α2 α3 β : Type} {f9 k : α → α2 → α3 → Option β} {a : α} {b : α2} {c : α3} {r : β} (e9 : k = f9) (h9 : k a b c = some r) : f9 a b c = some r := by subst e9; exact h9
def zl3 {α α2 α3 β : Type} (F9 : (α → α2 → α3 → Option β) → α → α2 → α3 → Option β) : Nat → α → α2 → α3 → Option β
  | 0, _, _, _ => none
  | n9 + 1, a, b, c => F9 (zl3 F9 n9) a b c
theorem zl3_use {α α2 α3 β : Type} {F9 : (α → α2 → α3 → Option β) → α → α2 → α3 → Option β} {n9 : Nat} {a : α} {b : α2} {c : α3} {r : β} (h9 : zl3 F9 n9 a b c = some r) : ∃ G, G = F9 ∧ zl3 G n9 a b c = some r := ⟨F9, rfl, h9⟩
theorem zl3_s {α α2 α3 β : Type} {F9 G : (α → α2 → α3 → Option β) → α → α2 → α3 → Option β} {n9 : Nat} {a : α} {b : α2} {c : α3} {r : β} (e9 : G = F9) (h9 : zl3 G (n9 + 1) a b c = some r) : F9 (zl3 G n9) a b c = some r := by subst e9; exact h9
def jn4 {α α2 α3 α4 β : Type} (f9 : α → α2 → α3 → α4 → Option β) (g9 : (α → α2 → α3 → α4 → Option β) → Option β) : Option β := g9 f9
theorem jn4_use {α α2 α3 α4 β : Type} {f9 : α → α2 → α3 → α4 → Option β} {g9 : (α → α2 → α3 → α4 → Option β) → Option β} {r : β} (h9 : jn4 f9 g9 = some r) : ∃ k, k = f9 ∧ g9 k = some r := ⟨f9, rfl, h9⟩
theorem jn4_ap {α α2 α3 α4 β : Type} {f9 k : α → α2 → α3 → α4 → Option β} {a : α} {b : α2} {c : α3} {d : α4} {r : β} (e9 : k = f9) (h9 : k a b c d = some r) : f9 a b c d = some r := by subst e9; exact h9
def zl4 {α α2 α3 α4 β : Type} (F9 : (α → α2 → α3 → α4 → Option β) → α → α2 → α3 → α4 → Option β) : Nat → α → α2 → α3 → α4 → Option β
  | 0, _, _, _, _ => none
  | n9 + 1, a, b, c, d => F9 (zl4 F9 n9) a b c d
theorem zl4_use {α α2 α3 α4 β : Type} {F9 : (α → α2 → α3 → α4 → Option β) → α → α2 → α3 → α4 → Option β} {n9 : Nat} {a : α} {b : α2} {c : α3} {d : α4} {r : β} (h9 : zl4 F9 n9 a b c d = some r) : ∃ G, G = F9 ∧ zl4 G n9 a b c d = some r := ⟨F9, rfl, h9⟩
theorem zl4_s {α α2 α3 α4 β : Type} {F9 G : (α → α2 → α3 → α4 → Option β) → α → α2 → α3 → α4 → Option β} {n9 : Nat} {a : α} {b : α2} {c : α3} {d : α4} {r : β} (e9 : G = F9) (h9 : zl4 G (n9 + 1) a b c d = some r) : F9 (zl4 G n9) a b c d = some r := by subst e9; exact h9
def jn5 {α α2 α3 α4 α5 β : Type} (f9 : α → α2 → α3 → α4 → α5 → Option β) (g9 : (α → α2 → α3 → α4 → α5 → Option β) → Option β) : Option β := g9 f9
theorem jn5_use {α α2 α3 α4 α5 β : Type} {f9 : α → α2 → α3 → α4 → α5 → Option β} {g9 : (α → α2 → α3 → α4 → α5 → Option β) → Option β} {r : β} (h9 : jn5 f9 g9 = some r) : ∃ k, k = f9 ∧ g9 k = some r := ⟨f9, rfl, h9⟩
theorem jn5_ap {α α2 α3 α4 α5 β : Type} {f9 k : α → α2 → α3 → α4 → α5 → Option β} {a : α} {b : α2} {c : α3} {d : α4} {e : α5} {r : β} (e9 : k = f9) (h9 : k a b c d e = some r) : f9 a b c d e = some r := by subst e9; exact h9
def zl5 {α α2 α3 α4 α5 β : Type} (F9 : (α → α2 → α3 → α4 → α5 → Option β) → α → α2 → α3 → α4 → α5 → Option β) : Nat → α → α2 → α3 → α4 → α5 → Option β
  | 0, _, _, _, _, _ => none
  | n9 + 1, a, b, c, d, e => F9 (zl5 F9 n9) a b c d e
theorem zl5_use {α α2 α3 α4 α5 β : Type} {F9 : (α → α2 → α3 → α4 → α5 → Option β) → α → α2 → α3 → α4 → α5 → Option β} {n9 : Nat} {a : α} {b : α2} {c : α3} {d : α4} {e : α5} {r : β} (h9 : zl5 F9 n9 a b c d e = some r) : ∃ G, G = F9 ∧ zl5 G n9 a b c d e = some r := ⟨F9, rfl, h9⟩
theorem zl5_s {α α2 α3 α4 α5 β : Type} {F9 G : (α → α2 → α3 → α4 → α5 → Option β) → α → α2 → α3 → α4 → α5 → Option β} {n9 : Nat} {a : α} {b : α2} {c : α3} {d : α4} {e : α5} {r : β} (e9 : G = F9) (h9 : zl5 G (n9 + 1) a b c d e = some r) : F9 (zl5 G n9) a b c d e = some r := by subst e9; exact h9
def jn6 {α α2 α3 α4 α5 α6 β : Type} (f9 : α → α2 → α3 → α4 → α5 → α6 → Option β) (g9 : (α → α2 → α3 → α4 → α5 → α6 → Option β) → Option β) : Option β := g9 f9
theorem jn6_use {α α2 α3 α4 α5 α6 β : Type} {f9 : α → α2 → α3 → α4 → α5 → α6 → Option β} {g9 : (α → α2 → α3 → α4 → α5 → α6 → Option β) → Option β} {r : β} (h9 : jn6 f9 g9 = some r) : ∃ k, k = f9 ∧ g9 k = some r := ⟨f9, rfl, h9⟩
theorem jn6_ap {α α2 α3 α4 α5 α6 β : Type} {f9 k : α → α2 → α3 → α4 → α5 → α6 → Option β} {a : α} {b : α2} {c : α3} {d : α4} {e : α5} {f : α6} {r : β} (e9 : k = f9) (h9 : k a b c d e f = some r) : f9 a b c d e f = some r := by subst e9; exact h9
def zl6 {α α2 α3 α4 α5 α6 β : Type} (F9 : (α → α2 → α3 → α4 → α5 → α6 → Option β) → α → α2 → α3 → α4 → α5 → α6 → Option β) : Nat → α → α2 → α3 → α4 → α5 → α6 → Option β
  | 0, _, _, _, _, _, _ => none
  | n9 + 1, a, b, c, d, e, f => F9 (zl6 F9 n9) a b c d e f
theorem zl6_use {α α2 α3 α4 α5 α6 β : Type} {F9 : (α → α2 → α3 → α4 → α5 → α6 → Option β) → α → α2 → α3 → α4 → α5 → α6 → Option β} {n9 : Nat} {a : α} {b : α2} {c : α3} {d : α4} {e : α5} {f : α6} {r : β} (h9 : zl6 F9 n9 a b c d e f = some r) : ∃ G, G = F9 ∧ zl6 G n9 a b c d e f = some r := ⟨F9, rfl, h9⟩
theorem zl6_s {α α2 α3 α4 α5 α6 β : Type} {F9 G : (α → α2 → α3 → α4 → α5 → α6 → Option β) → α → α2 → α3 → α4 → α5 → α6 → Option β} {n9 : Nat} {a : α} {b : α2} {c : α3} {d : α4} {e : α5} {f : α6} {r : β} (e9 : G = F9) (h9 : zl6 G (n9 + 1) a b c d e f = some r) : F9 (zl6 G n9) a b c d e f = some r := by subst e9; exact h9
def jn7 {α α2 α3 α4 α5 α6 α7 β : Type} (f9 : α → α2 → α3 → α4 → α5 → α6 → α7 → Option β) (g9 : (α → α2 → α3 → α4 → α5 → α6 → α7 → Option β) → Option β) : Option β := g9 f9
theorem jn7_use {α α2 α3 α4 α5 α6 α7 β : Type} {f9 : α → α2 → α3 → α4 → α5 → α6 → α7 → Option β} {g9 : (α → α2 → α3 → α4 → α5 → α6 → α7 → Option β) → Option β} {r : β} (h9 : jn7 f9 g9 = some r) : ∃ k, k = f9 ∧ g9 k = some r := ⟨f9, rfl, h9⟩
theorem jn7_ap {α α2 α3 α4 α5 α6 α7 β : Type} {f9 k : α → α2 → α3 → α4 → α5 → α6 → α7 → Option β} {a : α} {b : α2} {c : α3} {d : α4} {e : α5} {f : α6} {g : α7} {r : β} (e9 : k = f9) (h9 : k a b c d e f g = some r) : f9 a b c d e f g = some r := by subst e9; exact h9
def zl7 {α α2 α3 α4 α5 α6 α7 β : Type} (F9 : (α → α2 → α3 → α4 → α5 → α6 → α7 → Option β) → α → α2 → α3 → α4 → α5 → α6 → α7 → Option β) : Nat → α → α2 → α3 → α4 → α5 → α6 → α7 → Option β
  | 0, _, _, _, _, _, _, _ => none
  | n9 + 1, a, b, c, d, e, f, g => F9 (zl7 F9 n9) a b c d e f g
theorem zl7_use {α α2 α3 α4 α5 α6 α7 β : Type} {F9 : (α → α2 → α3 → α4 → α5 → α6 → α7 → Option β) → α → α2 → α3 → α4 → α5 → α6 → α7 → Option β} {n9 : Nat} {a : α} {b : α2} {c : α3} {d : α4} {e : α5} {f : α6} {g : α7} {r : β} (h9 : zl7 F9 n9 a b c d e f g = some r) : ∃ G, G = F9 ∧ zl7 G n9 a b c d e f g = some r := ⟨F9, rfl, h9⟩
theorem zl7_s {α α2 α3 α4 α5 α6 α7 β : Type} {F9 G : (α → α2 → α3 → α4 → α5 → α6 → α7 → Option β) → α → α2 → α3 → α4 → α5 → α6 → α7 → Option β} {n9 : Nat} {a : α} {b : α2} {c : α3} {d : α4} {e : α5} {f : α6} {g : α7} {r : β} (e9 : G = F9) (h9 : zl7 G (n9 + 1) a b c d e f g = some r) : F9 (zl7 G n9) a b c d e f g = some r := by subst e9; exact h9
def jn8 {α α2 α3 α4 α5 α6 α7 α8 β : Type} (f9 : α → α2 → α3 → α4 → α5 → α6 → α7 → α8 → Option β) (g9 : (α → α2 → α3 → α4 → α5 → α6 → α7 → α8 → Option β) → Option β) : Option β := g9 f9
theorem jn8_use {α α2 α3 α4 α5 α6 α7 α8 β : Type} {f9 : α → α2 → α3 → α4 → α5 → α6 → α7 → α8 → Option β} {g9 : (α → α2 → α3 → α4 → α5 → α6 → α7 → α8 → Option β) → Option β} {r : β} (h9 : jn8 f9 g9 = some r) : ∃ k, k = f9 ∧ g9 k = some r := ⟨f9, rfl, h9⟩
theorem jn8_ap {α α2 α3 α4 α5 α6 α7 α8 β : Type} {f9 k : α → α2 → α3 → α4 → α5 → α6 → α7 → α8 → Option β} {a : α} {b : α2} {c : α3} {d : α4} {e : α5} {f : α6} {g : α7} {h : α8} {r : β} (e9 : k = f9) (h9 : k a b c d e f g h = some r) : f9 a b c d e f g h = some r := by subst e9; exact h9
def zl8 {α α2 α3 α4 α5 α6 α7 α8 β : Type} (F9 : (α → α2 → α3 → α4 → α5 → α6 → α7 → α8 → Option β) → α → α2 → α3 → α4 → α5 → α6 → α7 → α8 → Option β) : Nat → α → α2 → α3 → α4 → α5 → α6 → α7 → α8 → Option β
  | 0, _, _, _, _, _, _, _, _ => none
  | n9 + 1, a, b, c, d, e, f, g, h => F9 (zl8 F9 n9) a b c d e f g h
theorem zl8_use {α α2 α3 α4 α5 α6 α7 α8 β : Type} {F9 : (α → α2 → α3 → α4 → α5 → α6 → α7 → α8 → Option β) → α → α2 → α3 → α4 → α5 → α6 → α7 → α8 → Option β} {n9 : Nat} {a : α} {b : α2} {c : α3} {d : α4} {e : α5} {f : α6} {g : α7} {h : α8} {r : β} (h9 : zl8 F9 n9 a b c d e f g h = some r) : ∃ G, G = F9 ∧ zl8 G n9 a b c d e f g h = some r := ⟨F9, rfl, h9⟩
theorem zl8_s {α α2 α3 α4 α5 α6 α7 α8 β : Type} {F9 G : (α → α2 → α3 → α4 → α5 → α6 → α7 → α8 → Option β) → α → α2 → α3 → α4 → α5 → α6 → α7 → α8 → Option β} {n9 : Nat} {a : α} {b : α2} {c : α3} {d : α4} {e : α5} {f : α6} {g : α7} {h : α8} {r : β} (e9 : G = F9) (h9 : zl8 G (n9 + 1) a b c d e f g h = some r) : F9 (zl8 G n9) a b c d e f g h = some r := by subst e9; exact h9
def ckk {β : Type} (i n : Nat) (k : Option β) : Option β := if i < n then k else none
theorem ckk_use {β : Type} {i n : Nat} {k : Option β} {r : β} (h : ckk i n k = some r) : i < n ∧ k = some r := by
  unfold ckk at h
  split at h
  · exact ⟨by assumption, h⟩
  · cases h
def oc {β : Type} (r : Option Nat) (a : Option β) (b : Nat → Option β) : Option β := match r with | none => a | some i => b i
theorem oc_use {β : Type} {r : Option Nat} {a : Option β} {b : Nat → Option β} {x : β} (h : oc r a b = some x) : (r = none ∧ a = some x) ∨ ∃ i, r = some i ∧ b i = some x := by
  cases r with
  | none => exact Or.inl ⟨rfl, h⟩
  | some i => exact Or.inr ⟨i, rfl, h⟩
def imax (x y : Int32) : Int32 := if x < y then y else x
def imin (x y : Int32) : Int32 := if y < x then y else x
theorem fit_z {v : Int32} (h : v &&& 1 = v) : fits .boolean (.int v) = true := by
  obtain ⟨j, hj, e⟩ := pk_andE v (m := 1) 1 (by decide)
  rw [h] at e
  rcases (show j = 0 ∨ j = 1 by omega) with rfl | rfl <;> subst e <;> rfl
theorem w_beg {Y Z : va_W} {k : Nat} {e : Nat × va_E} (h : Y[k]? = some e) : (Y ++ Z)[k]? = some e := by
  rw [List.getElem?_append_left (List.getElem?_eq_some_iff.mp h).1]; exact h
theorem w_skip {X Z : va_W} {n k : Nat} {e : Nat × va_E} (hX : X.length = n) (h : Z[k]? = some e) : (X ++ Z)[n + k]? = some e := by
  rw [List.getElem?_append_right (by omega), show n + k - X.length = k by omega]; exact h
theorem s_beg {Y Y' Z : va_W} {k : Nat} {e0 e : Nat × va_E} (h : Y[k]? = some e0) (hs : Y.set k e = Y') : (Y ++ Z).set k e = Y' ++ Z := by
  rw [List.set_append_left _ _ (List.getElem?_eq_some_iff.mp h).1, hs]
theorem s_skip {X Z Z' : va_W} {n k : Nat} {e : Nat × va_E} (hX : X.length = n) (hs : Z.set k e = Z') : (X ++ Z).set (n + k) e = X ++ Z' := by
  rw [List.set_append_right _ _ (by omega), show n + k - X.length = k by omega, hs]
-- the cells
abbrev obC (r : Rw) : va_E := .inr (1, [.int (r 0), .int (r 1), .int (r 2), .int (r 3), .int (r 4), .int (r 5), .int (r 6)])
abbrev obK (r : Rw) : va_E := .inr (3, [.int (r 0), .int (r 1), .int (r 2), .int (r 3), .int (r 4)])
def WCom (h : Nat) (r : Rw) : va_W := [(h, obC r)]
def WKet (h : Nat) (r : Rw) : va_W := [(h, obK r)]
def WRow (z : Nat → ClassId) (h n : Nat) (r : Rw) : va_W := [(h, .inl (z 0, n, .inl r))]
def WMin (h d : Nat) (m : Mem) : va_W := [(h, .inr (5, [.ref d, .int (m 0 1)]))]
def WArr (z : Nat → ClassId) (a : Nat → Nat) (m : Mem) : va_W := [(a 0, .inr (0, [.ref (a 1), .ref (a 2), .int (m 0 2)])), (a 1, .inl (z 0, 8, .inl (m 1))), (a 2, .inl (z 0, 8, .inl (m 2)))]
def WLet (z : Nat → ClassId) (a : Nat → Nat) (m : Mem) : va_W := [(a 0, .inr (4, [.ref (a 1), .int (m 0 1), .int (m 0 2)])), (a 1, .inl (z 0, 96, .inl (m 1)))]
def WFac (z : Nat → ClassId) (a : Nat → Nat) (bn bk bm ba bl : Nat) (m : Mem) : va_W := [(a 0, .inr (6, [.ref bn, .ref bk, .ref bm, .ref ba, .ref bl, .ref (a 1), .ref (a 2), .int (m 0 7), .int (m 0 8)])), (a 1, .inl (z 0, 12, .inl (m 1))), (a 2, .inl (z 0, 7, .inl (m 2)))]
def WDay (z : Nat → ClassId) (a : Nat → Nat) (m : Mem) : va_W := [(a 0, .inr (2, [.ref (a 1), .ref (a 13), .ref (a 14), .ref (a 2), .int (m 0 4), .int (m 0 5), .int (m 0 6), .int (m 0 7)])), (a 1, .inl (z 0, 8, .inl (m 1))), (a 2, .inl (z 0, 8, .inl (m 2))),
  (a 3, obK (m 3)), (a 4, obK (m 4)), (a 5, obC (m 5)), (a 6, obC (m 6)), (a 7, obC (m 7)), (a 8, obC (m 8)), (a 9, obC (m 9)), (a 10, obC (m 10)), (a 11, obC (m 11)), (a 12, obC (m 12)),
  (a 13, .inl (z 1, 8, .inr (.inr (.inr (.inr (fun j => some (a (5 + j)))))))), (a 14, .inl (z 2, 2, .inr (.inr (.inr (.inr (fun j => some (a (3 + j))))))))]
def WMod (z : Nat → ClassId) (a : Nat → Nat) (m : Mem) : va_W := [(a 0, .inr (7, [.ref (a 1), .ref (a 2), .ref (a 3), .ref (a 4), .ref (a 5), .ref (a 6), .ref (a 7), .ref (a 8), .ref (a 9), .ref (a 10), .ref (a 11), .ref (a 12), .ref (a 13), .ref (a 14), .ref (a 15), .int (m 0 15), .int (m 0 16), .int (m 0 17), .int (m 0 18), .ref (a 16), .ref (a 17), .ref (a 18), .ref (a 19), .int (m 0 23), .int (m 0 24), .int (m 0 25), .ref (a 20), .int (m 0 27), .int (m 0 28), .int (m 0 29), .ref (a 21), .ref (a 22), .int (m 0 32)])),
  (a 1, .inl (z 0, 7, .inl (m 1))),
  (a 2, .inl (z 0, 8, .inl (m 2))),
  (a 3, .inl (z 0, 8, .inl (m 3))),
  (a 4, .inl (z 0, 8, .inl (m 4))),
  (a 5, .inl (z 0, 8, .inl (m 5))),
  (a 6, .inl (z 0, 8, .inl (m 6))),
  (a 7, .inl (z 0, 8, .inl (m 7))),
  (a 8, .inl (z 0, 8, .inl (m 8))),
  (a 9, .inl (z 0, 8, .inl (m 9))),
  (a 10, .inl (z 0, 8, .inl (m 10))),
  (a 11, .inl (z 0, 2, .inl (m 11))),
  (a 12, .inl (z 0, 2, .inl (m 12))),
  (a 13, .inl (z 0, 2, .inl (m 13))),
  (a 14, .inl (z 0, 2, .inl (m 14))),
  (a 15, .inl (z 0, 2, .inl (m 15))),
  (a 16, .inl (z 0, 96, .inl (m 16))),
  (a 17, .inl (z 0, 48, .inl (m 17))),
  (a 18, .inl (z 0, 48, .inl (m 18))),
  (a 19, .inl (z 0, 240, .inl (m 19))),
  (a 20, .inl (z 0, 300, .inl (m 20))),
  (a 21, .inl (z 0, 8, .inl (m 21))),
  (a 22, .inl (z 0, 12, .inl (m 22)))]
theorem WDay_c (z : Nat → ClassId) (a : Nat → Nat) (m : Mem) {i : Nat} (h : i < 8) : (WDay z a m)[5 + i]? = some (a (5 + i), obC (m (5 + i))) := by
  rcases (show i = 0 ∨ i = 1 ∨ i = 2 ∨ i = 3 ∨ i = 4 ∨ i = 5 ∨ i = 6 ∨ i = 7 by omega) with rfl | rfl | rfl | rfl | rfl | rfl | rfl | rfl <;> rfl
theorem WDay_k (z : Nat → ClassId) (a : Nat → Nat) (m : Mem) {i : Nat} (h : i < 2) : (WDay z a m)[3 + i]? = some (a (3 + i), obK (m (3 + i))) := by
  rcases (show i = 0 ∨ i = 1 by omega) with rfl | rfl <;> rfl
theorem WDay_sc (z : Nat → ClassId) (a : Nat → Nat) (m : Mem) (r : Rw) {i : Nat} (h : i < 8) : (WDay z a m).set (5 + i) (a (5 + i), obC r) = WDay z a (va_up m (5 + i) r) := by
  rcases (show i = 0 ∨ i = 1 ∨ i = 2 ∨ i = 3 ∨ i = 4 ∨ i = 5 ∨ i = 6 ∨ i = 7 by omega) with rfl | rfl | rfl | rfl | rfl | rfl | rfl | rfl <;> rfl
theorem WDay_sk (z : Nat → ClassId) (a : Nat → Nat) (m : Mem) (r : Rw) {i : Nat} (h : i < 2) : (WDay z a m).set (3 + i) (a (3 + i), obK r) = WDay z a (va_up m (3 + i) r) := by
  rcases (show i = 0 ∨ i = 1 by omega) with rfl | rfl <;> rfl
section ZE2
variable {p : Program} {l : Launch} {e : Env} {R : Room} {s : State} {m : MethodId} {args : Array Value} {below : List Frame} {meth : Method} {c : Code} {H : Heap} {locs : List Loc} {cells slots : Nat} {Q : State → Prop}
variable {cc : ByteArray} {pc : Nat} {ls : Array Slot} {rest st0 : List Value} {D : va_G} {z tt : Nat → Nat} {A : Nat → Prop} {a : Nat} {ws wc w1 ws1 : va_W}
theorem vp_in_c {i : Int32} {n k : Nat} (hk : i.toNatClampNeg = k) (h0 : ¬ i < 0) (hn : k < n) : vp_in i n := fun q => q.elim h0 (fun q => by omega)
theorem z_ialdc (hexec : p.tables.exec = Jvm.exec) (hb : c.code = cc) (hK : zK D z s) (hP : va_P D vwCl ws H) (q0 : Nat) {n : Nat} {f : Nat → Int32} (ha : ws[q0]? = some (a, .inl (z 0, n, .inl f))) {i : Int32} {k : Nat} (hk : i.toNatClampNeg = k ∧ ¬ i < 0) (hn : k < n) (hdg : decode cc pc = .ok (.iaload, 1))
    (kk : W p l e R s m args below meth c H locs cells slots Q (F0 m (pc + 1) ls (.int (f k) :: rest))) : W p l e R s m args below meth c H locs cells slots Q (F0 m pc ls (.int i :: .ref a :: rest)) := by
  refine va_iald hexec hb hK hP q0 0 ha rfl (vp_in_c hk.1 hk.2 hn) hdg ?_
  rw [hk.1]
  exact kk
theorem z_aldc (hexec : p.tables.exec = Jvm.exec) (hb : c.code = cc) (hK : zK D z s) (hP : va_P D vwCl ws H) (q0 t0 : Nat) {cA : ClassId} {C : String} {n : Nat} {g : Nat → Nat} (ha : ws[q0]? = some (a, .inl (cA, n, .inr (.inr (.inr (.inr (fun j => some (g j)))))))) (ht : [(z 0, FieldType.int), (z 1, .object "FilledForOne$Comer"), (z 2, .object "FilledForOne$Kettle")][t0]? = some (cA, .object C)) {i : Int32} {k : Nat} (hk : i.toNatClampNeg = k ∧ ¬ i < 0) (hn : k < n) (hdg : decode cc pc = .ok (.aaload, 1))
    (kk : W p l e R s m args below meth c H locs cells slots Q (F0 m (pc + 1) ls (.ref (g k) :: rest))) : W p l e R s m args below meth c H locs cells slots Q (F0 m pc ls (.int i :: .ref a :: rest)) := by
  refine z_ald hexec hb hK hP q0 t0 ha ht (vp_in_c hk.1 hk.2 hn) hdg ?_
  rw [hk.1]
  exact kk
theorem z_iastc {σ : Type} (hexec : p.tables.exec = Jvm.exec) (hb : c.code = cc) (hK : zK D z s) (hP : va_P D vwCl ws H) (hD : va_D A ws) (hS : va_S A s.heap H locs) (q0 : Nat) {n : Nat} {f : Nat → Int32} (ha : ws[q0]? = some (a, .inl (z 0, n, .inl f))) {i : Int32} {x : Int32} {k : Nat} (hk : i.toNatClampNeg = k ∧ ¬ i < 0) (hn : k < n) (hdg : decode cc pc = .ok (.iastore, 1))
    (Wf : σ → va_W) (x1 : σ) (hset : ws.set q0 (a, .inl (z 0, n, .inl (upd f k x))) = Wf x1)
    (kk : ∀ (x2 : σ), x2 = x1 → ∀ (H1 : Heap) (locs1 : List Loc), va_P D vwCl (Wf x2) H1 → va_D A (Wf x2) → va_S A s.heap H1 locs1 → W p l e R s m args below meth c H1 locs1 cells slots Q (F0 m (pc + 1) ls rest)) : W p l e R s m args below meth c H locs cells slots Q (F0 m pc ls (.int x :: .int i :: .ref a :: rest)) :=
  z_iast hexec hb hK hP hD hS q0 ha (vp_in_c hk.1 hk.2 hn) hdg Wf x1 (by rw [hk.1]; exact hset) kk
theorem z_max (hexec : p.tables.exec = Jvm.exec) (hb : c.code = cc) (hml : c.maxLocals = ls.size) {own : String} {index : Nat} (hown : s.vm.findClass own = some m.cls) (hlink : (Cond.methodLink own index Lib.Math.max.name).before args s = true) (hstat : (Cond.static Lib.Math.max.name).before args s = true) (hini : (Cond.initialized "java/lang/Math").before args s = true) (hcode : (Cond.code Lib.Math.max.name Lib.Math.max.code 2 (some .int)).before args s = true)
    (hframes : 1 ≤ R.frames) (hlocals : (rest.map fun v => v.category).sum + 13 ≤ R.locals) {x y : Int32} (hdg : decode cc pc = .ok (.invokestatic index, 3)) (hc : cells ≤ R.cells) (hs : slots ≤ R.slots)
    (kk : W p l e R s m args below meth c H locs cells slots Q (F0 m (pc + 3) ls (.int (imax x y) :: rest))) : W p l e R s m args below meth c H locs cells slots Q (F0 m pc ls (.int y :: .int x :: rest)) :=
  va_mmax hexec hb hml hown hlink hstat hini hcode hframes hlocals hc hs hdg kk
theorem z_min (hexec : p.tables.exec = Jvm.exec) (hb : c.code = cc) (hml : c.maxLocals = ls.size) {own : String} {index : Nat} (hown : s.vm.findClass own = some m.cls) (hlink : (Cond.methodLink own index Lib.Math.min.name).before args s = true) (hstat : (Cond.static Lib.Math.min.name).before args s = true) (hini : (Cond.initialized "java/lang/Math").before args s = true) (hcode : (Cond.code Lib.Math.min.name Lib.Math.min.code 2 (some .int)).before args s = true)
    (hframes : 1 ≤ R.frames) (hlocals : (rest.map fun v => v.category).sum + 13 ≤ R.locals) {x y : Int32} (hdg : decode cc pc = .ok (.invokestatic index, 3)) (hc : cells ≤ R.cells) (hs : slots ≤ R.slots)
    (kk : W p l e R s m args below meth c H locs cells slots Q (F0 m (pc + 3) ls (.int (imin x y) :: rest))) : W p l e R s m args below meth c H locs cells slots Q (F0 m pc ls (.int y :: .int x :: rest)) :=
  va_mmin hexec hb hml hown hlink hstat hini hcode hframes hlocals hc hs hdg kk
theorem z_copy {σ : Type} (hexec : p.tables.exec = Jvm.exec) (hb : c.code = cc) (hml : c.maxLocals = ls.size) {own : String} {index : Nat} (hown : s.vm.findClass own = some m.cls) (hlink : (Cond.methodLink own index arraycopyName).before args s = true) (hnat : (Cond.native arraycopyName).before args s = true) (hstat : (Cond.static arraycopyName).before args s = true) (hini : (Cond.initialized "java/lang/System").before args s = true)
    (hK : zK D z s) (hP : va_P D vwCl ws H) (hD : va_D A ws) (hS : va_S A s.heap H locs) (q0 q1 : Nat) {a0 : Nat} {n0 n1 : Nat} {f g : Nat → Int32} (ha0 : ws[q0]? = some (a0, .inl (z 0, n0, .inl f))) (ha1 : ws[q1]? = some (a, .inl (z 0, n1, .inl g)))
    {n : Int32} {nn : Nat} (h3 : ¬ n < 0) (hnn : n.toNatClampNeg = nn) (h4 : nn ≤ n0) (h5 : nn ≤ n1) (hframes : 1 ≤ R.frames) (hlocals : (rest.map fun v => v.category).sum + (nativeFrameWords "java/lang/System" "arraycopy" 5 + 11) ≤ R.locals) (hdg : decode cc pc = .ok (.invokestatic index, 3))
    (Wf : σ → va_W) (x1 : σ) (hset : ws.set q1 (a, .inl (z 0, n1, .inl (va_cpy f g 0 0 nn))) = Wf x1)
    (kk : ∀ (x2 : σ), x2 = x1 → ∀ (H1 : Heap) (locs1 : List Loc), va_P D vwCl (Wf x2) H1 → va_D A (Wf x2) → va_S A s.heap H1 locs1 → W p l e R s m args below meth c H1 locs1 cells slots Q (F0 m (pc + 3) ls rest)) : W p l e R s m args below meth c H locs cells slots Q (F0 m pc ls (.int n :: .int 0 :: .ref a :: .int 0 :: .ref a0 :: rest)) := by
  have e0 : (0 : Int32).toNatClampNeg = 0 := by decide
  refine va_copyi hexec hb hml hown hlink hnat hstat hini hK hP hD hS q0 q1 0 0 ha0 ha1 rfl rfl rfl (by decide) (by decide) h3 (by rw [hnn, e0]; omega) (by rw [hnn, e0]; omega) (fun _ _ => rfl) hframes hlocals hdg (fun H1 locs1 a b c => ?_)
  rw [hnn, e0, hset] at a b
  exact kk x1 rfl H1 locs1 a b c
theorem z_tin (hexec : p.tables.exec = Jvm.exec) (hb : c.code = cc) {x K : Int32} (hc : x = K) {dflt lo hi : Int} {offs : Array Int} {len : Nat} {off : Int} {tgt : Nat} (hdg : decode cc pc = .ok (.tableswitch dflt lo hi offs, len)) (h : offs[(K.toInt - lo).toNat]? = some off ∧ ¬ K.toInt < lo ∧ ¬ hi < K.toInt) (ht : (pc : Int) + off = (tgt : Int))
    (k : W p l e R s m args below meth c H locs cells slots Q (F0 m tgt ls rest)) : W p l e R s m args below meth c H locs cells slots Q (F0 m pc ls (.int x :: rest)) := by
  subst hc
  exact lv_tableIn hexec hb hdg h.2.1 h.2.2 h.1 ht k
end ZE2
abbrev GI (p : Program) (l : Launch) (e : Env) (R : Room) (s : State) (m : MethodId) (args : Array Value) (below : List Frame) (meth : Method) (c : Code) (A : Nat → Prop) (D : va_G) (z : Nat → ClassId) (r : Int32) (ws' : va_W) (H : Heap) (locs : List Loc) (g : JFrame) : Prop := W p l e R s m args below meth c H locs 0 0 (MQ below (va_Qi (fun (r' : Int32) (_ : Unit) => r' = r) (fun _ t => zAt D z A ws' t) A) args s 0 0 A) g
abbrev GV (p : Program) (l : Launch) (e : Env) (R : Room) (s : State) (m : MethodId) (args : Array Value) (below : List Frame) (meth : Method) (c : Code) (A : Nat → Prop) (D : va_G) (z : Nat → ClassId) (ws' : va_W) (H : Heap) (locs : List Loc) (g : JFrame) : Prop := W p l e R s m args below meth c H locs 0 0 (MQ below (va_Qv (fun (_ : Unit) => True) (fun _ t => zAt D z A ws' t) A) args s 0 0 A) g
abbrev GQ (p : Program) (l : Launch) (e : Env) (R : Room) (s : State) (m : MethodId) (args : Array Value) (below : List Frame) (meth : Method) (c : Code) (A : Nat → Prop) (D : va_G) (z : Nat → ClassId) (r : Option Nat) (ws' : va_W) (H : Heap) (locs : List Loc) (g : JFrame) : Prop := W p l e R s m args below meth c H locs 0 0 (MQ below (va_Qq (fun (r' : Option Nat) (_ : Unit) => r' = r) (fun _ t => zAt D z A ws' t) A) args s 0 0 A) g
