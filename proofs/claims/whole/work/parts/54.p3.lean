/-! PURE 3: the day and the model's day side by side -/
def rng (x : Int32) (lo hi : Nat) : Prop := ∃ k : Nat, lo ≤ k ∧ k ≤ hi ∧ x = nI k
def SRg (s : Rw) : Prop := rng (s 0) 2 11 ∧ rng (s 1) 0 9 ∧ rng (s 2) 1 20 ∧ rng (s 3) 1 9 ∧ rng (s 4) 0 9 ∧ rng (s 5) 0 9 ∧ rng (s 6) 0 11 ∧ kts s
def CRg (t : Nat) (r : Rw) : Prop := rng (r 0) 0 6 ∧ rng (r 1) 0 9 ∧ rng (r 2) 0 119 ∧ rng (r 3) 1 3 ∧ rng (r 4) 0 30 ∧ (r 5 = 0 ∨ r 5 = 1 ∨ r 5 = 2 ∨ r 5 = 3) ∧ (r 5 = 1 → ∃ c : Nat, c ≤ t ∧ r 2 = nI c) ∧ (r 5 = 2 → ∃ c v : Nat, v ≤ 180 ∧ r 2 = nI c ∧ r 6 = nI (c + v))
def KRg (r : Rw) : Prop := rng (r 0) 0 11 ∧ rng (r 1) 0 10 ∧ rng (r 3) 0 300
/-- a day as it may be: its numbers in their ranges -/
def DOK (n t : Nat) (d : Mem) : Prop := d 0 6 = nI t ∧ t ≤ 180 ∧ SRg (d 1) ∧ (∀ j, j < n → CRg t (d (5 + j))) ∧ KRg (d 3) ∧ KRg (d 4) ∧ (d 1 7 = 1 → d 4 0 = 0 ∧ d 4 1 = 0 ∧ d 4 2 = 0 ∧ d 4 3 = 0)
/-- at minute 0 the kettles are as they were at first -/
def D00 (t : Nat) (d : Mem) : Prop := t = 0 → d 3 0 = 0 ∧ d 3 1 = 0 ∧ d 3 2 = 0 ∧ d 3 3 = 0 ∧ d 4 0 = 0 ∧ d 4 1 = 0 ∧ d 4 2 = 0 ∧ d 4 3 = 0
/-- the class's day d, the model's rows m, n comers: all but the line -/
def DCr (n : Nat) (d m : Mem) : Prop := ∀ j, j < n → d (5 + j) 0 = m 3 j ∧ d (5 + j) 1 = m 4 j ∧ d (5 + j) 2 = m 5 j ∧ d (5 + j) 3 = m 6 j ∧ d (5 + j) 4 = m 7 j ∧ d (5 + j) 5 = m 8 j ∧ m 9 j = wtd (d (5 + j))
def DKr (d m : Mem) (k : Nat) : Prop := d (3 + k) 0 = m 11 k ∧ d (3 + k) 1 = m 12 k ∧ d (3 + k) 2 = m 13 k ∧ d (3 + k) 3 = m 14 k ∧ (d 0 6 < d (3 + k) 3 → d (3 + k) 4 = m 15 k)
def DQ (n : Nat) (d m : Mem) : Prop := n ≤ 8 ∧ d 0 4 = nI n ∧ m 0 15 = nI n ∧ d 0 6 = m 0 16 ∧ (∀ k, k < 8 → d 1 k = m 2 k) ∧ DCr n d m ∧ DKr d m 0 ∧ DKr d m 1
/-- the line, as a list, in the model's rows; it's those whose state is 1 -/
def LM (n : Nat) (d m : Mem) (l : List Nat) : Prop := m 0 17 = nI l.length ∧ lineIs (m 10) l ∧ l.Nodup ∧ (∀ j, j ∈ l ↔ j < n ∧ d (5 + j) 5 = 1)
/-- and in the class's -/
def LC (d : Mem) (l : List Nat) : Prop := d 0 5 = nI l.length ∧ lineIs (d 2) l
theorem nd_len : ∀ (n : Nat) (l : List Nat), l.Nodup → (∀ j ∈ l, j < n) → l.length ≤ n
  | 0, [], _, _ => Nat.le_refl 0
  | 0, a :: l, _, h => absurd (h a List.mem_cons_self) (Nat.not_lt_zero a)
  | n + 1, l, hn, h => by
    by_cases e : n ∈ l
    · have h1 := nd_len n (l.erase n) (hn.erase n) (fun j hj => by
        have h2 := (hn.mem_erase_iff).mp hj
        have := h j h2.2
        have := h2.1
        omega)
      rw [List.length_erase_of_mem e] at h1
      omega
    · have h1 := nd_len n l hn (fun j hj => by
        have := h j hj
        have : j ≠ n := fun q => e (q ▸ hj)
        omega)
      omega
theorem LM.len {n : Nat} {d m : Mem} {l : List Nat} (h : LM n d m l) : l.length ≤ n := nd_len n l h.2.2.1 (fun j hj => ((h.2.2.2 j).mp hj).1)
theorem X7_isFree_t {fu : Nat} {d m : Mem} {k : Nat} (hk : k < 2) (hQ : DKr d m k) (ht : d 0 6 = m 0 16) (h : fre (d (3 + k)) (d 0 6)) : pX7_isFree fu m (nI k) = some 1 := by
  unfold pX7_isFree
  rw [ck_ok hk (by decide), nI_cl (by omega), ← ht, ← hQ.2.2.2.1, if_neg h]
theorem X7_isFree_f {fu : Nat} {d m : Mem} {k : Nat} (hk : k < 2) (hQ : DKr d m k) (ht : d 0 6 = m 0 16) (h : ¬ fre (d (3 + k)) (d 0 6)) : pX7_isFree fu m (nI k) = some 0 := by
  unfold pX7_isFree
  rw [ck_ok hk (by decide), nI_cl (by omega), ← ht, ← hQ.2.2.2.1, if_pos (Decidable.not_not.mp h)]
theorem nI1 : nI 1 = 1 := rfl
theorem nI2 : nI 2 = 2 := rfl
theorem zl1_succ {α β : Type} (F : (α → Option β) → α → Option β) (n : Nat) (a : α) : zl1 F (n + 1) a = F (zl1 F n) a := rfl
theorem kt_loop {β : Type} {F : (Int32 → Option β) → Int32 → Option β} {P : Nat → Prop} {v : Nat → Option β} {e : Option β} {u : Int32} (hu : u = 1 ∨ u = 2) {fu : Nat} (hfu : 3 ≤ fu)
    (hs : ∀ (g : Int32 → Option β) (k : Nat), k < 2 → ¬ u ≤ nI k → (P k → F g (nI k) = v k) ∧ (¬ P k → F g (nI k) = g (nI (k + 1))))
    (he : ∀ (g : Int32 → Option β) (k : Nat), k ≤ 2 → u ≤ nI k → F g (nI k) = e) :
    (P 0 → zl1 F fu (nI 0) = v 0) ∧ (¬ P 0 → u = 2 → P 1 → zl1 F fu (nI 0) = v 1) ∧ (¬ P 0 → ¬ (u = 2 ∧ P 1) → zl1 F fu (nI 0) = e) := by
  obtain ⟨f, rfl⟩ : ∃ f, fu = f + 3 := ⟨fu - 3, by omega⟩
  have l0 : ¬ u ≤ nI 0 := by rcases hu with h | h <;> subst h <;> decide
  refine ⟨fun a => ?_, fun a b c => ?_, fun a b => ?_⟩
  · rw [zl1_succ]
    exact (hs _ 0 (by omega) l0).1 a
  · rw [zl1_succ, (hs _ 0 (by omega) l0).2 a, zl1_succ]
    exact (hs _ 1 (by omega) (by subst b; decide)).1 c
  · rw [zl1_succ, (hs _ 0 (by omega) l0).2 a, zl1_succ]
    rcases hu with h | h
    · exact he _ 1 (by omega) (by subst h; decide)
    · rw [(hs _ 1 (by omega) (by subst h; decide)).2 (fun q => b ⟨h, q⟩), zl1_succ]
      exact he _ 2 (by omega) (by subst h; decide)
theorem X7_hotFor_eq {fu n c : Nat} {d m : Mem} (hQ : DQ n d m) (hu : kts (d 1)) (hc : c < n) (hfu : 3 ≤ fu) :
    (rdy (d 3) (d 0 6) (d (5 + c) 3) → pX7_hotFor fu m (nI c) = some (nI 0)) ∧ (¬ rdy (d 3) (d 0 6) (d (5 + c) 3) → d 1 7 = 2 → rdy (d 4) (d 0 6) (d (5 + c) 3) → pX7_hotFor fu m (nI c) = some (nI 1)) ∧ (¬ rdy (d 3) (d 0 6) (d (5 + c) 3) → ¬ (d 1 7 = 2 ∧ rdy (d 4) (d 0 6) (d (5 + c) 3)) → pX7_hotFor fu m (nI c) = some (-9)) := by
  obtain ⟨h8, hk, hk2, ht, hs, hC, hK0, hK1⟩ := hQ
  have hw := (hC c hc).2.2.2.1
  have hs7 := hs 7 (by omega)
  have hK : ∀ k, k < 2 → DKr d m k := fun k hk => by rcases (show k = 0 ∨ k = 1 by omega) with rfl | rfl <;> assumption
  unfold pX7_hotFor
  refine kt_loop (P := fun k => rdy (d (3 + k)) (d 0 6) (d (5 + c) 3)) (v := fun k => some (nI k)) (u := d 1 7) hu hfu (fun g k h2 hn => ?_) (fun g k h2 hn => ?_)
  · simp only [← hs7, if_neg hn]
    constructor
    · intro q
      rw [X7_isFree_t h2 (hK k h2) ht q.1, bd_some, if_neg i10, ck_ok h2 (by decide), nI_cl (by omega), ← (hK k h2).2.1, if_neg q.2.1, ck_ok h2 (by decide), ck_ok (by omega) (by decide), nI_cl (by omega), ← (hK k h2).1, ← hw, if_neg q.2.2]
    · intro q
      by_cases a : fre (d (3 + k)) (d 0 6)
      · rw [X7_isFree_t h2 (hK k h2) ht a, bd_some, if_neg i10, ck_ok h2 (by decide), nI_cl (by omega), ← (hK k h2).2.1]
        by_cases b : d (3 + k) 1 < 8
        · rw [if_pos b, lt_eq, nI_1]
        · rw [if_neg b, ck_ok h2 (by decide), ck_ok (by omega) (by decide), nI_cl (by omega), ← (hK k h2).1, ← hw, if_pos (Decidable.not_not.mp fun x => q ⟨a, b, x⟩), lt_eq, nI_1]
      · rw [X7_isFree_f h2 (hK k h2) ht a, bd_some, if_pos rfl, lt_eq, nI_1]
  · simp only [← hs7, if_pos hn]
/-- the model's own kettle: as the class's first free one, unless one is busy with what c put on -/
theorem X7_freeFor_eq {fu n c : Nat} {d m : Mem} (hQ : DQ n d m) (hu : kts (d 1)) (hfu : 3 ≤ fu) :
    (own d (nI c) → pX7_freeFor fu m (nI c) = some (-9)) ∧ (¬ own d (nI c) → (fre (d 3) (d 0 6) → pX7_freeFor fu m (nI c) = some (nI 0)) ∧ (¬ fre (d 3) (d 0 6) → d 1 7 = 2 → fre (d 4) (d 0 6) → pX7_freeFor fu m (nI c) = some (nI 1)) ∧ (¬ fre (d 3) (d 0 6) → ¬ (d 1 7 = 2 ∧ fre (d 4) (d 0 6)) → pX7_freeFor fu m (nI c) = some (-9))) := by
  obtain ⟨h8, hk, hk2, ht, hs, hC, hK0, hK1⟩ := hQ
  have hs7 := hs 7 (by omega)
  have step : ∀ (k : Nat) (g : Int32 → Int32 → Option Int32) (x : Int32), k < 2 → DKr d m k → ¬ d 1 7 ≤ nI k →
      ((¬ fre (d (3 + k)) (d 0 6) ∧ d (3 + k) 4 = nI c → (if m 2 7 ≤ nI k then some x else bd (pX7_isFree fu m (nI k)) fun r7 => jn1 (fun (u0 : Unit) => bd (pX7_isFree fu m (nI k)) fun r10 => if r10 = 0 then lt' (nI k + 1) fun x13 => g x x13 else if 0 ≤ x then lt' (nI k + 1) fun x15 => g x x15 else lt' (nI k + 1) fun x16 => g (nI k) x16) fun k9 => if r7 = 0 then ck (nI k) 2 <| if m 15 (nI k).toNatClampNeg = nI c then some (-9) else k9 () else k9 ()) = some (-9)) ∧
      (¬ (¬ fre (d (3 + k)) (d 0 6) ∧ d (3 + k) 4 = nI c) → (if m 2 7 ≤ nI k then some x else bd (pX7_isFree fu m (nI k)) fun r7 => jn1 (fun (u0 : Unit) => bd (pX7_isFree fu m (nI k)) fun r10 => if r10 = 0 then lt' (nI k + 1) fun x13 => g x x13 else if 0 ≤ x then lt' (nI k + 1) fun x15 => g x x15 else lt' (nI k + 1) fun x16 => g (nI k) x16) fun k9 => if r7 = 0 then ck (nI k) 2 <| if m 15 (nI k).toNatClampNeg = nI c then some (-9) else k9 () else k9 ()) = if (¬ d 0 6 < d (3 + k) 3) ∧ ¬ 0 ≤ x then g (nI k) (nI (k + 1)) else g x (nI (k + 1)))) := by
    intro k g x h2 hK hn
    rw [← hs7, if_neg hn]
    simp only [jn1_eq, lt_eq, nI_1]
    by_cases a : fre (d (3 + k)) (d 0 6)
    · rw [X7_isFree_t h2 hK ht a]
      refine ⟨fun q => absurd a q.1, fun _ => ?_⟩
      simp only [bd_some, if_neg i10]
      by_cases b : 0 ≤ x
      · rw [if_pos b, if_neg (fun q => q.2 b)]
      · rw [if_neg b, if_pos ⟨a, b⟩]
    · rw [X7_isFree_f h2 hK ht a]
      simp only [bd_some, if_true]
      rw [ck_ok h2 (by decide), nI_cl (by omega), ← hK.2.2.2.2 (Decidable.not_not.mp a)]
      refine ⟨fun q => by rw [if_pos q.2], fun q => ?_⟩
      rw [if_neg (fun z => q ⟨a, z⟩), if_neg (fun q => a q.1)]
  have fin : ∀ (k : Nat) (x : Int32) (N : Option Int32), d 1 7 ≤ nI k → (if m 2 7 ≤ nI k then some x else N) = some x := fun k x N hn => by rw [← hs7, if_pos hn]
  obtain ⟨f, rfl⟩ : ∃ f, fu = f + 3 := ⟨fu - 3, by omega⟩
  have z2 : ∀ (F : (Int32 → Int32 → Option Int32) → Int32 → Int32 → Option Int32) (n : Nat) (a b : Int32), zl2 F (n + 1) a b = F (zl2 F n) a b := fun _ _ _ _ => rfl
  have l0 : ¬ d 1 7 ≤ nI 0 := by rcases hu with h | h <;> rw [h] <;> decide
  have n9 : ¬ (0 : Int32) ≤ -9 := by decide
  have n0 : (0 : Int32) ≤ nI 0 := by decide
  have n1 : ¬ ¬ (0 : Int32) ≤ nI 0 := by decide
  have u0 : pX7_freeFor (f + 3) m (nI c) = pX7_freeFor (f + 3) m (nI c) := rfl
  unfold own
  constructor
  · rintro (q | q)
    · unfold pX7_freeFor
      rw [← nI_0, z2]
      exact (step 0 _ (-9) (by omega) hK0 l0).1 ⟨q.2, q.1⟩
    · by_cases q0 : ¬ fre (d 3) (d 0 6) ∧ d 3 4 = nI c
      · unfold pX7_freeFor
        rw [← nI_0, z2]
        exact (step 0 _ (-9) (by omega) hK0 l0).1 q0
      · have l1 : ¬ d 1 7 ≤ nI 1 := by rw [q.1]; decide
        unfold pX7_freeFor
        rw [← nI_0, z2]
        refine ((step 0 _ (-9) (by omega) hK0 l0).2 q0).trans ?_
        split
        · rw [z2]
          exact (step 1 _ _ (by omega) hK1 l1).1 ⟨q.2.2, q.2.1⟩
        · rw [z2]
          exact (step 1 _ _ (by omega) hK1 l1).1 ⟨q.2.2, q.2.1⟩
  · intro hown
    have q0 : ¬ (¬ fre (d 3) (d 0 6) ∧ d 3 4 = nI c) := fun q => hown (Or.inl ⟨q.2, q.1⟩)
    have first : ∀ (R : Option Int32), (if (¬ d 0 6 < d 3 3) ∧ ¬ (0 : Int32) ≤ -9 then zl2 (fun g4 (x1 : Int32) (x2 : Int32) => if m 2 7 ≤ x2 then some x1 else bd (pX7_isFree (f + 3) m x2) fun r7 => jn1 (fun (u0 : Unit) => bd (pX7_isFree (f + 3) m x2) fun r10 => if r10 = 0 then lt' (x2 + 1) fun x13 => g4 x1 x13 else if 0 ≤ x1 then lt' (x2 + 1) fun x15 => g4 x1 x15 else lt' (x2 + 1) fun x16 => g4 x2 x16) fun k9 => if r7 = 0 then ck x2 2 <| if m 15 x2.toNatClampNeg = nI c then some (-9) else k9 () else k9 ()) (f + 2) (nI 0) (nI 1) else zl2 (fun g4 (x1 : Int32) (x2 : Int32) => if m 2 7 ≤ x2 then some x1 else bd (pX7_isFree (f + 3) m x2) fun r7 => jn1 (fun (u0 : Unit) => bd (pX7_isFree (f + 3) m x2) fun r10 => if r10 = 0 then lt' (x2 + 1) fun x13 => g4 x1 x13 else if 0 ≤ x1 then lt' (x2 + 1) fun x15 => g4 x1 x15 else lt' (x2 + 1) fun x16 => g4 x2 x16) fun k9 => if r7 = 0 then ck x2 2 <| if m 15 x2.toNatClampNeg = nI c then some (-9) else k9 () else k9 ()) (f + 2) (-9) (nI 1)) = R → pX7_freeFor (f + 3) m (nI c) = R := by
      intro R hR
      unfold pX7_freeFor
      rw [← nI_0, z2]
      exact ((step 0 _ (-9) (by omega) hK0 l0).2 q0).trans hR
    have q1 : d 1 7 = 2 → ¬ (¬ fre (d 4) (d 0 6) ∧ d 4 4 = nI c) := fun h q => hown (Or.inr ⟨h, q.2, q.1⟩)
    refine ⟨fun a => ?_, fun a b e => ?_, fun a b => ?_⟩
    · apply first
      rw [if_pos ⟨a, n9⟩, z2]
      rcases hu with h | h
      · exact fin 1 _ _ (by rw [h]; decide)
      · refine ((step 1 _ (nI 0) (by omega) hK1 (by rw [h]; decide)).2 (q1 h)).trans ?_
        rw [if_neg (fun z => z.2 n0), z2]
        exact fin 2 _ _ (by rw [h]; decide)
    · apply first
      rw [if_neg (fun z => a z.1), z2]
      refine ((step 1 _ (-9) (by omega) hK1 (by rw [b]; decide)).2 (q1 b)).trans ?_
      rw [if_pos ⟨e, n9⟩, z2]
      exact fin 2 _ _ (by rw [b]; decide)
    · apply first
      rw [if_neg (fun z => a z.1), z2]
      rcases hu with h | h
      · exact fin 1 _ _ (by rw [h]; decide)
      · refine ((step 1 _ (-9) (by omega) hK1 (by rw [h]; decide)).2 (q1 h)).trans ?_
        rw [if_neg (fun z => b ⟨h, z.1⟩), z2]
        exact fin 2 _ _ (by rw [h]; decide)
