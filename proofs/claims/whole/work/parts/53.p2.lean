/-! PURE 2: kettles -/
theorem sumN_shift (f : Nat → Int32) : ∀ n, sumN (n + 1) f = f 0 + sumN n (fun k => f (k + 1))
  | 0 => by simp [sumN]
  | n + 1 => by rw [sumN, sumN_shift f n, sumN, Int32.add_assoc]
def sumL (w : Nat → Int32) : List Nat → Int32
  | [] => 0
  | a :: l => w a + sumL w l
theorem sumN_getD (w : Nat → Int32) : ∀ l : List Nat, sumN l.length (fun k => w (l.getD k 0)) = sumL w l
  | [] => rfl
  | a :: l => by
    rw [List.length_cons, sumN_shift]
    simp only [List.getD_cons_zero, List.getD_cons_succ]
    rw [sumN_getD w l, sumL]
theorem sumN_add (f g : Nat → Int32) : ∀ n, sumN n (fun j => f j + g j) = sumN n f + sumN n g
  | 0 => rfl
  | n + 1 => by
    rw [sumN, sumN_add f g n, sumN, sumN]
    rw [Int32.add_assoc, Int32.add_assoc]
    congr 1
    rw [← Int32.add_assoc, ← Int32.add_assoc, Int32.add_comm (sumN n g) (f n)]
theorem sumN_zero : ∀ n, sumN n (fun _ => 0) = 0
  | 0 => rfl
  | n + 1 => by rw [sumN, sumN_zero n]; rfl
theorem sumN_one (a : Nat) (v : Int32) : ∀ n, a < n → sumN n (fun j => if j = a then v else 0) = v
  | 0, h => absurd h (Nat.not_lt_zero a)
  | n + 1, h => by
    rw [sumN]
    by_cases e : n = a
    · subst e
      rw [if_pos rfl, sumN_congr (g := fun _ => 0) (fun i hi => if_neg (by omega)), sumN_zero, Int32.zero_add]
    · rw [if_neg e, sumN_one a v n (by omega), Int32.add_zero]
theorem sum_line {n : Nat} (w : Nat → Int32) : ∀ l : List Nat, l.Nodup → (∀ j ∈ l, j < n) → sumL w l = sumN n (fun j => if j ∈ l then w j else 0)
  | [], _, _ => by simp [sumL, sumN_zero]
  | a :: l, hn, hl => by
    rw [sumL, sum_line w l (List.nodup_cons.mp hn).2 (fun j hj => hl j (List.mem_cons_of_mem _ hj))]
    rw [← sumN_one a (w a) n (hl a List.mem_cons_self), ← sumN_add]
    refine sumN_congr (fun j hj => ?_)
    by_cases e : j = a
    · subst e
      have := (List.nodup_cons.mp hn).1
      simp [this, Int32.add_zero]
    · simp [e, Int32.zero_add]
theorem ck_0_2 {β : Type} (k : Option β) : ck 0 2 k = k := rfl
theorem ck_1_2 {β : Type} (k : Option β) : ck 1 2 k = k := rfl
theorem i01 : (0 : Int32) + 1 = 1 := rfl
theorem i11 : (1 : Int32) + 1 = 2 := rfl
theorem cl0 : (0 : Int32).toNatClampNeg = 0 := rfl
theorem cl1 : (1 : Int32).toNatClampNeg = 1 := rfl
def fre (r : Rw) (t : Int32) : Prop := ¬ t < r 3
def rdy (r : Rw) (t w : Int32) : Prop := ¬ t < r 3 ∧ ¬ r 1 < 8 ∧ ¬ r 0 < w
theorem X3_isFree_t {fu : Nat} {r : Rw} {t : Int32} (h : fre r t) : pX3_isFree fu r t = some 1 := by
  unfold pX3_isFree
  rw [if_neg h]
theorem X3_isFree_f {fu : Nat} {r : Rw} {t : Int32} (h : ¬ fre r t) : pX3_isFree fu r t = some 0 := by
  unfold pX3_isFree
  rw [if_pos (Decidable.not_not.mp h)]
theorem X3_isReady_t {fu : Nat} {r : Rw} {t w : Int32} (h : rdy r t w) : pX3_isReady fu r t w = some 1 := by
  unfold pX3_isReady
  rw [if_neg h.1, if_neg h.2.1, if_neg h.2.2]
theorem X3_isReady_f {fu : Nat} {r : Rw} {t w : Int32} (h : ¬ rdy r t w) : pX3_isReady fu r t w = some 0 := by
  unfold pX3_isReady
  by_cases a : t < r 3
  · rw [if_pos a]
  · by_cases b : r 1 < 8
    · rw [if_neg a, if_pos b]
    · by_cases c : r 0 < w
      · rw [if_neg a, if_neg b, if_pos c]
      · exact absurd ⟨a, b, c⟩ h
/-- how many kettles -/
def kts (s : Rw) : Prop := s 7 = 1 ∨ s 7 = 2
theorem le_k1 : ¬ (1 : Int32) ≤ 0 := by decide
theorem le_k2 : ¬ (2 : Int32) ≤ 0 := by decide
theorem le_k3 : ¬ (2 : Int32) ≤ 1 := by decide
theorem le_k4 : (1 : Int32) ≤ 1 := by decide
theorem le_k5 : (2 : Int32) ≤ 2 := by decide
theorem i10 : ¬ (1 : Int32) = 0 := by decide
theorem i20 : ¬ (2 : Int32) = 0 := by decide
theorem X2_firstReady_eq {fu : Nat} {d : Mem} (hu : kts (d 1)) (hfu : 3 ≤ fu) (w : Int32) :
    (rdy (d 3) (d 0 6) w → pX2_firstReady fu d w = some (some 0)) ∧ (¬ rdy (d 3) (d 0 6) w → d 1 7 = 2 → rdy (d 4) (d 0 6) w → pX2_firstReady fu d w = some (some 1)) ∧ (¬ rdy (d 3) (d 0 6) w → ¬ (d 1 7 = 2 ∧ rdy (d 4) (d 0 6) w) → pX2_firstReady fu d w = some none) := by
  obtain ⟨f, rfl⟩ : ∃ f, fu = f + 3 := ⟨fu - 3, by omega⟩
  unfold pX2_firstReady
  simp only [zl1, pX2_kettlesInUse, bd_some, ck_0_2, ck_1_2, i01, i11, cl0, cl1, lt_eq, Nat.add_zero]
  rcases hu with h | h <;> simp only [h, le_k1, le_k2, le_k3, le_k4, le_k5, if_true, if_false, if_pos, if_neg, not_false_eq_true]
  · refine ⟨fun a => ?_, fun _ b => absurd b (by decide), fun a _ => ?_⟩
    · rw [X3_isReady_t a, bd_some, if_neg i10]
    · rw [X3_isReady_f a, bd_some, if_pos rfl]
  · refine ⟨fun a => ?_, fun a _ b => ?_, fun a b => ?_⟩
    · rw [X3_isReady_t a, bd_some, if_neg i10]
    · rw [X3_isReady_f a, bd_some, if_pos rfl, X3_isReady_t b, bd_some, if_neg i10]
    · rw [X3_isReady_f a, bd_some, if_pos rfl, X3_isReady_f (fun c => b ⟨trivial, c⟩), bd_some, if_pos rfl]
theorem X2_firstFree_eq {fu : Nat} {d : Mem} (hu : kts (d 1)) (hfu : 3 ≤ fu) :
    (fre (d 3) (d 0 6) → pX2_firstFree fu d = some (some 0)) ∧ (¬ fre (d 3) (d 0 6) → d 1 7 = 2 → fre (d 4) (d 0 6) → pX2_firstFree fu d = some (some 1)) ∧ (¬ fre (d 3) (d 0 6) → ¬ (d 1 7 = 2 ∧ fre (d 4) (d 0 6)) → pX2_firstFree fu d = some none) := by
  obtain ⟨f, rfl⟩ : ∃ f, fu = f + 3 := ⟨fu - 3, by omega⟩
  unfold pX2_firstFree
  simp only [zl1, pX2_kettlesInUse, bd_some, ck_0_2, ck_1_2, i01, i11, cl0, cl1, lt_eq, Nat.add_zero]
  rcases hu with h | h <;> simp only [h, le_k1, le_k2, le_k3, le_k4, le_k5, if_true, if_false, if_pos, if_neg, not_false_eq_true]
  · refine ⟨fun a => ?_, fun _ b => absurd b (by decide), fun a _ => ?_⟩
    · rw [X3_isFree_t a, bd_some, if_neg i10]
    · rw [X3_isFree_f a, bd_some, if_pos rfl]
  · refine ⟨fun a => ?_, fun a _ b => ?_, fun a b => ?_⟩
    · rw [X3_isFree_t a, bd_some, if_neg i10]
    · rw [X3_isFree_f a, bd_some, if_pos rfl, X3_isFree_t b, bd_some, if_neg i10]
    · rw [X3_isFree_f a, bd_some, if_pos rfl, X3_isFree_f (fun c => b ⟨trivial, c⟩), bd_some, if_pos rfl]
/-- one of the kettles is busy with what c put on -/
def own (d : Mem) (c : Int32) : Prop := (d 3 4 = c ∧ ¬ fre (d 3) (d 0 6)) ∨ (d 1 7 = 2 ∧ d 4 4 = c ∧ ¬ fre (d 4) (d 0 6))
theorem X2_waitsForOwn_eq {fu : Nat} {d : Mem} (hu : kts (d 1)) (hfu : 3 ≤ fu) (c : Int32) : (own d c → pX2_waitsForOwn fu d c = some 1) ∧ (¬ own d c → pX2_waitsForOwn fu d c = some 0) := by
  obtain ⟨f, rfl⟩ : ∃ f, fu = f + 3 := ⟨fu - 3, by omega⟩
  unfold pX2_waitsForOwn own
  simp only [zl1, pX2_kettlesInUse, bd_some, ck_0_2, ck_1_2, i01, i11, cl0, cl1, lt_eq, Nat.add_zero]
  by_cases a : d 3 4 = c <;> by_cases b : fre (d 3) (d 0 6) <;> by_cases a2 : d 4 4 = c <;> by_cases b2 : fre (d 4) (d 0 6) <;> rcases hu with h | h <;>
    simp [h, a, b, a2, b2, le_k1, le_k2, le_k3, le_k4, le_k5, X3_isFree_t, X3_isFree_f, bd_some, i10]
