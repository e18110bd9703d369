/-! PURE 18: the relation of the class's memories and the model's; a day in mind -/
theorem X1_copy_eq {fu : Nat} {a b : Rw} : ∃ y, pX1_copy fu a b = some y ∧ ∀ i, i < 7 → y i = b i := by
  unfold pX1_copy pX1_become
  simp only [lt_eq, bd_some]
  refine ⟨_, rfl, fun i hi => ?_⟩
  rcases (show i = 0 ∨ i = 1 ∨ i = 2 ∨ i = 3 ∨ i = 4 ∨ i = 5 ∨ i = 6 by omega) with rfl | rfl | rfl | rfl | rfl | rfl | rfl <;> simp [upd]
theorem X3_copy_eq {fu : Nat} {a b : Rw} : ∃ y, pX3_copy fu a b = some y ∧ ∀ i, i < 5 → y i = b i := by
  unfold pX3_copy
  simp only [lt_eq]
  refine ⟨_, rfl, fun i hi => ?_⟩
  rcases (show i = 0 ∨ i = 1 ∨ i = 2 ∨ i = 3 ∨ i = 4 by omega) with rfl | rfl | rfl | rfl | rfl <;> simp [upd]
theorem X2_copy_eq {fu n : Nat} {z d : Mem} (hk : d 0 4 = nI n) (hn : n ≤ 8) (hfu : 8 < fu) : ∃ y, pX2_copy fu z d = some y ∧ EQD n d y ∧ (∀ i, i < 8 → y 2 i = d 2 i) ∧ y 0 5 = d 0 5 := by
  unfold pX2_copy
  simp only [lt_eq]
  refine sp2 n (fun i (x : Int32) (y : Mem) => i ≤ n ∧ x = nI i ∧ y 0 4 = d 0 4 ∧ y 0 5 = d 0 5 ∧ y 0 6 = d 0 6 ∧ (∀ k, k < 8 → y 1 k = d 1 k) ∧ (∀ k, k < 8 → y 2 k = d 2 k) ∧ ∀ j, j < i → ∀ k, k < 7 → y (5 + j) k = d (5 + j) k) (fun (r : Option Mem) => ∃ y, r = some y ∧ EQD n d y ∧ (∀ i, i < 8 → y 2 i = d 2 i) ∧ y 0 5 = d 0 5) ?_ fu 0 _ _ ⟨by omega, rfl, ?_, ?_, ?_, ?_, ?_, fun j h => absurd h (by omega)⟩ (by omega) (by omega)
  · rintro i x y ⟨i1, rfl, y4, y5, y6, y1, y2, yj⟩
    by_cases c : i < n
    · obtain ⟨r, e, er⟩ := X1_copy_eq (fu := fu) (a := y (5 + i)) (b := d (5 + i))
      refine Or.inl ⟨c, nI (i + 1), va_up y (5 + i) r, fun g => ?_, by omega, rfl, ?_, ?_, ?_, ?_, ?_, ?_⟩
      · rw [y4, hk, if_neg (nI_ge c (by omega))]
        simp only [ck_ok (show i < 8 by omega) (show 8 < 2 ^ 31 by decide), nI_cl (show i < 2 ^ 31 by omega), e, bd_some, nI_1]
      · rw [vu_rw, if_neg (by omega)]; exact y4
      · rw [vu_rw, if_neg (by omega)]; exact y5
      · rw [vu_rw, if_neg (by omega)]; exact y6
      · rw [vu_rw, if_neg (by omega)]; exact y1
      · rw [vu_rw, if_neg (by omega)]; exact y2
      · intro j hj k hk
        rw [vu_rw]
        by_cases w : j = i
        · subst w
          rw [if_pos rfl]
          exact er k hk
        · rw [if_neg (by omega)]
          exact yj j (by omega) k hk
    · have e : i = n := by omega
      subst e
      refine Or.inr (fun g => ?_)
      rw [y4, hk, if_pos (nI_le (Nat.le_refl _) (by omega))]
      refine sp2 2 (fun c (x : Int32) (z : Mem) => c ≤ 2 ∧ x = nI c ∧ z 0 = y 0 ∧ z 1 = y 1 ∧ z 2 = y 2 ∧ (∀ j, z (5 + j) = y (5 + j)) ∧ ∀ k', k' < c → ∀ k, k < 5 → z (3 + k') k = d (3 + k') k) (fun (r : Option Mem) => ∃ y, r = some y ∧ EQD i d y ∧ (∀ i, i < 8 → y 2 i = d 2 i) ∧ y 0 5 = d 0 5) ?_ fu 0 _ _ ⟨by omega, rfl, rfl, rfl, rfl, fun _ => rfl, fun k' h => absurd h (by omega)⟩ (by omega) (by omega)
      rintro k x z ⟨k1, rfl, z0, z1, z2, z5, z3⟩
      by_cases c : k < 2
      · obtain ⟨r, e, er⟩ := X3_copy_eq (fu := fu) (a := z (3 + k)) (b := d (3 + k))
        refine Or.inl ⟨c, nI (k + 1), va_up z (3 + k) r, fun g => ?_, by omega, rfl, ?_, ?_, ?_, ?_, ?_⟩
        · rw [if_neg (show ¬ (2 : Int32) ≤ nI k from nI_ge c (by decide))]
          simp only [ck_ok c (show 2 < 2 ^ 31 by decide), nI_cl (show k < 2 ^ 31 by omega), e, bd_some, nI_1]
        · rw [vu_rw, if_neg (by omega)]; exact z0
        · rw [vu_rw, if_neg (by omega)]; exact z1
        · rw [vu_rw, if_neg (by omega)]; exact z2
        · intro j
          rw [vu_rw, if_neg (by omega)]
          exact z5 j
        · intro k' hk' k'' hk''
          rw [vu_rw]
          by_cases w : k' = k
          · subst w
            rw [if_pos rfl]
            exact er k'' hk''
          · rw [if_neg (by omega)]
            exact z3 k' (by omega) k'' hk''
      · have e : k = 2 := by omega
        subst e
        refine Or.inr (fun g => ?_)
        rw [if_pos (by decide)]
        exact ⟨z, rfl, ⟨by rw [z0]; exact y4, by rw [z0]; exact y6, fun k hk => by rw [z1]; exact y1 k hk, fun j hj k hk => by rw [z5]; exact yj j hj k hk, fun k hk => ⟨z3 0 (by omega) k hk, z3 1 (by omega) k hk⟩⟩, fun k hk => by rw [z2]; exact y2 k hk, by rw [z0]; exact y5⟩
  · rw [up2_col (by omega), up2_col (by omega), up2_same]
  · rw [up2_col (by omega), up2_same]
  · rw [up2_same]
  · intro k hk
    simp only [up2_rw, vu_rw]
    simp
    rw [pk_cpy_in (by omega) (by omega)]
    simp
  · intro k hk
    simp only [up2_rw, vu_rw]
    simp
    rw [pk_cpy_in (by omega) (by omega)]
    simp
theorem LM.cg {n : Nat} {d d' m m' : Mem} {l : List Nat} (h : LM n d m l) (n8 : n ≤ 8) (e : ∀ j, j < n → d' (5 + j) 5 = d (5 + j) 5) (e17 : m' 0 17 = m 0 17) (e10 : ∀ k, k < 8 → m' 10 k = m 10 k) : LM n d' m' l := by
  have hl := h.len
  refine ⟨e17.trans h.1, fun k hk => by rw [e10 k (by omega)]; exact h.2.1 k hk, h.2.2.1, fun j => (h.2.2.2 j).trans ⟨fun w => ⟨w.1, by rw [e j w.1]; exact w.2⟩, fun w => ⟨w.1, by rw [← e j w.1]; exact w.2⟩⟩⟩
theorem DAYR.cgd {n t : Nat} {d d' m : Mem} {l : List Nat} (h : DAYR n t d m l) (e : EQD n d d') (e2 : ∀ i, i < 8 → d' 2 i = d 2 i) (e5 : d' 0 5 = d 0 5) : DAYR n t d' m l := by
  obtain ⟨hQ, hO, h0, hL, hC⟩ := h
  have hl := hL.len
  have n8 := hQ.1
  refine ⟨hQ.cg e EQM.rf, hO.cg e, fun z => ?_, hL.cg n8 (fun j hj => e.2.2.2.1 j hj 5 (by omega)) rfl (fun _ _ => rfl), e5.trans hC.1, fun k hk => by rw [e2 k (by omega)]; exact hC.2 k hk⟩
  rw [(e.2.2.2.2 0 (by omega)).1, (e.2.2.2.2 1 (by omega)).1, (e.2.2.2.2 2 (by omega)).1, (e.2.2.2.2 3 (by omega)).1, (e.2.2.2.2 0 (by omega)).2, (e.2.2.2.2 1 (by omega)).2, (e.2.2.2.2 2 (by omega)).2, (e.2.2.2.2 3 (by omega)).2]
  exact h0 z
theorem DAYR.cgm {n t : Nat} {d m m' : Mem} {l : List Nat} (h : DAYR n t d m l) (e : EQM m m') (e10 : ∀ k, k < 8 → m' 10 k = m 10 k) (e17 : m' 0 17 = m 0 17) : DAYR n t d m' l :=
  ⟨h.1.cg EQD.rf e, h.2.1, h.2.2.1, h.2.2.2.1.cg h.1.1 (fun _ _ => rfl) e17 e10, h.2.2.2.2⟩
theorem copy_day {fu n t : Nat} {z d m : Mem} {l : List Nat} (h : DAYR n t d m l) (hfu : 8 < fu) : ∃ y, pX2_copy fu z d = some y ∧ DAYR n t y m l := by
  obtain ⟨y, e, e1, e2, e3⟩ := X2_copy_eq (fu := fu) (z := z) h.1.2.1 h.1.1 hfu
  exact ⟨y, e, h.cgd e1 e2 e3⟩
/-- what a call of the model that changes no day keeps -/
def KEEP (m m' : Mem) : Prop := EQM m m' ∧ (∀ k, k < 8 → m' 10 k = m 10 k) ∧ m' 0 17 = m 0 17 ∧ m' 1 = m 1 ∧ m' 16 = m 16 ∧ m' 22 = m 22 ∧ (∀ k, k < 100 → m' 20 k = m 20 k) ∧ m' 0 23 = m 0 23 ∧ m' 0 27 = m 0 27 ∧ m' 0 32 = m 0 32
/-- what a day's run leaves -/
def FW (m m' : Mem) : Prop := m' 1 = m 1 ∧ (∀ o, 16 ≤ o → m' o = m o) ∧ ∀ k, k ≠ 16 → k ≠ 17 → k ≠ 18 → m' 0 k = m 0 k
theorem FW.rf {m : Mem} : FW m m := ⟨rfl, fun _ _ => rfl, fun _ _ _ _ => rfl⟩
theorem FW.tr {a b c : Mem} (h : FW a b) (g : FW b c) : FW a c := ⟨g.1.trans h.1, fun o h1 => (g.2.1 o h1).trans (h.2.1 o h1), fun k h1 h2 h3 => (g.2.2 k h1 h2 h3).trans (h.2.2 k h1 h2 h3)⟩
theorem FM.fw {m m' : Mem} (h : FM m m') : FW m m' := ⟨h.1 1 (by omega) (by omega), h.2.1, h.2.2⟩
theorem FW.up {m : Mem} {o k : Nat} {v : Int32} (h1 : 2 ≤ o) (h2 : o < 16) : FW m (up2 m o k v) :=
  ⟨by rw [up2_rw, if_neg (by omega)], fun x hx => by rw [up2_rw, if_neg (by omega)], fun k' _ _ _ => by rw [up2_row (by omega)]⟩
/-- m1 has the day of m kept -/
def SVD (m m1 : Mem) : Prop := KP 82 1 m1 m ∧ m1 20 182 = m 0 15 ∧ m1 20 183 = m 0 16 ∧ m1 20 184 = m 0 17 ∧ m1 1 = m 1 ∧ m1 16 = m 16 ∧ m1 22 = m 22 ∧ (∀ k, k < 100 → m1 20 k = m 20 k) ∧ m1 0 23 = m 0 23 ∧ m1 0 27 = m 0 27 ∧ m1 0 32 = m 0 32
theorem SVD.fw {m m1 m2 : Mem} (h : SVD m m1) (g : FW m1 m2) : SVD m m2 := by
  obtain ⟨h1, h2, h3, h4, h5, h6, h7, h8, h9, h10, h11⟩ := h
  have e := g.2.1 20 (by omega)
  refine ⟨fun k hk => by rw [e]; exact h1 k hk, by rw [e]; exact h2, by rw [e]; exact h3, by rw [e]; exact h4, g.1.trans h5, (g.2.1 16 (by omega)).trans h6, (g.2.1 22 (by omega)).trans h7, fun k hk => by rw [e]; exact h8 k hk, (g.2.2 23 (by omega) (by omega) (by omega)).trans h9, (g.2.2 27 (by omega) (by omega) (by omega)).trans h10, (g.2.2 32 (by omega) (by omega) (by omega)).trans h11⟩
theorem take_save {fu n t : Nat} {z d m : Mem} {l : List Nat} (h : DAYR n t d m l) (hfu : 8 < fu) : ∃ y m1, pX5_take fu z d = some y ∧ pX7_passesAll fu m 1 1 = some m1 ∧ DAYR n t y m1 l ∧ SVD m m1 := by
  obtain ⟨y, e, hD⟩ := copy_day (fu := fu) (z := z) h hfu
  obtain ⟨m1, e1, k1, k2, k3, k4, k5, k6, k7⟩ := save_all (fu := fu) (p := 1) (m := m) (by omega) hfu
  refine ⟨y, m1, by unfold pX5_take; rw [e, bd_some], e1, ?_, k1, k2, k3, k4, k5 1 (by omega) (by omega), k5 16 (by omega) (by omega), k5 22 (by omega) (by omega), fun k hk => k7 k (by omega), k6 23 (by omega) (by omega), k6 27 (by omega) (by omega), k6 32 (by omega) (by omega)⟩
  exact hD.cgm ⟨k6 15 (by omega) (by omega), k6 16 (by omega) (by omega), fun o i _ _ _ => by rw [k5 o (by omega) (by omega)], fun o i _ _ _ => by rw [k5 o (by omega) (by omega)]⟩ (fun k _ => by rw [k5 10 (by omega) (by omega)]) (k6 17 (by omega) (by omega))
theorem back {fu : Nat} {m m2 : Mem} (h : SVD m m2) (hfu : 8 < fu) : ∃ m3, pX7_passesAll fu m2 1 0 = some m3 ∧ KEEP m m3 ∧ SVD m m3 := by
  obtain ⟨h1, h2, h3, h4, h5, h6, h7, h8, h9, h10, h11⟩ := h
  obtain ⟨m3, e, k1, k2, k3, k4, k5⟩ := load_all (fu := fu) (p := 1) h1 h2 h3 h4 (by omega) hfu
  have e20 := k4 20 (Or.inr (by omega))
  refine ⟨m3, e, ⟨k1, k2, k3, (k4 1 (Or.inl rfl)).trans h5, (k4 16 (Or.inr (by omega))).trans h6, (k4 22 (Or.inr (by omega))).trans h7, fun k hk => by rw [e20]; exact h8 k hk, (k5 23 (by omega) (by omega) (by omega) (by omega) (by omega)).trans h9, (k5 27 (by omega) (by omega) (by omega) (by omega) (by omega)).trans h10, (k5 32 (by omega) (by omega) (by omega) (by omega) (by omega)).trans h11⟩, ?_⟩
  exact ⟨fun k hk => by rw [e20]; exact h1 k hk, by rw [e20]; exact h2, by rw [e20]; exact h3, by rw [e20]; exact h4, (k4 1 (Or.inl rfl)).trans h5, (k4 16 (Or.inr (by omega))).trans h6, (k4 22 (Or.inr (by omega))).trans h7, fun k hk => by rw [e20]; exact h8 k hk, (k5 23 (by omega) (by omega) (by omega) (by omega) (by omega)).trans h9, (k5 27 (by omega) (by omega) (by omega) (by omega) (by omega)).trans h10, (k5 32 (by omega) (by omega) (by omega) (by omega) (by omega)).trans h11⟩
/-- the class's face, day, image, letters; the model -/
def RF (f m : Mem) : Prop := (∃ r, r ≤ 12 ∧ f 0 7 = nI r ∧ m 0 32 = nI r ∧ ∀ i, i < r → f 1 i = m 22 i) ∧ (∀ i, 1 ≤ i → i < 7 → f 2 i = m 1 i) ∧ f 0 8 = m 0 27
def RD (n m : Mem) : Prop := ∃ nn t l, DAYR nn t n m l
def RI (k m : Mem) : Prop := m 0 27 = 0 ∨ (m 0 27 = 1 ∧ ∃ nn t l s, DAYR nn t k s l ∧ KP 82 0 m s ∧ m 20 82 = s 0 15 ∧ m 20 83 = s 0 16 ∧ m 20 84 = s 0 17)
def RLt (le m : Mem) : Prop := ∃ c, c ≤ 96 ∧ le 0 1 = nI c ∧ m 0 23 = nI c ∧ ∀ i, i < c → le 1 i = m 16 i ∧ rng (m 16 i) 0 255
def RR (f n k le m : Mem) : Prop := RF f m ∧ RD n m ∧ RI k m ∧ RLt le m
theorem RR.keep {f n k le m m' : Mem} (h : RR f n k le m) (g : KEEP m m') : RR f n k le m' := by
  obtain ⟨⟨⟨r, r1, r2, r3, r4⟩, f2, f8⟩, ⟨nn, t, l, hD⟩, hI, ⟨c, c1, c2, c3, c4⟩⟩ := h
  obtain ⟨g1, g2, g3, g4, g5, g6, g7, g8, g9, g10⟩ := g
  refine ⟨⟨⟨r, r1, r2, g10.trans r3, fun i hi => by rw [g6]; exact r4 i hi⟩, by rw [g4]; exact f2, by rw [g9]; exact f8⟩, ⟨nn, t, l, hD.cgm g1 g2 g3⟩, ?_, ⟨c, c1, c2, g8.trans c3, by rw [g5]; exact c4⟩⟩
  rcases hI with a | ⟨a, nn', t', l', s, hs, k1, k2, k3, k4⟩
  · exact Or.inl (g9.trans a)
  · exact Or.inr ⟨g9.trans a, nn', t', l', s, hs, fun i hi => by rw [g7 _ (by omega)]; exact k1 i hi, by rw [g7 _ (by omega)]; exact k2, by rw [g7 _ (by omega)]; exact k3, by rw [g7 _ (by omega)]; exact k4⟩
theorem refuse_R {fu c : Nat} {f n k le m : Mem} (h : RR f n k le m) (h1 : 1 ≤ c) (h7 : c < 7) : ∃ f' m', pX6_refuse fu f (-(nI c)) = some (-(nI c), f') ∧ pX7_no fu m (-(nI c)) = some (-(nI c), m') ∧ RR f' n k le m' := by
  obtain ⟨⟨⟨r, r1, r2, r3, r4⟩, f2, f8⟩, ⟨nn, t, l, hD⟩, hI, ⟨cc, c1, c2, c3, c4⟩⟩ := h
  have ro : ∀ (x : Mem) (a b : Nat) (v : Int32) (o : Nat), o ≠ a → up2 x a b v o = x o := fun x a b v o h => by rw [up2_rw, if_neg h]
  refine ⟨up2 f 2 c (f 2 c + 1), up2 m 1 c (m 1 c + 1), ?_, ?_, ⟨⟨r, r1, ?_, ?_, ?_⟩, ?_, ?_⟩, ⟨nn, t, l, hD.cgm ⟨?_, ?_, ?_, ?_⟩ ?_ ?_⟩, ?_, ⟨cc, c1, c2, ?_, ?_⟩⟩
  · unfold pX6_refuse
    rw [Int32.neg_neg, if_neg (nI_nle (by omega) (by omega)), if_neg (show ¬ (7 : Int32) ≤ nI c from nI_ge h7 (by decide))]
    simp only [ck_ok h7 (show 7 < 2 ^ 31 by decide), nI_cl (show c < 2 ^ 31 by omega), lt_eq]
  · unfold pX7_no
    rw [Int32.neg_neg]
    simp only [ck_ok h7 (show 7 < 2 ^ 31 by decide), nI_cl (show c < 2 ^ 31 by omega), lt_eq]
  · rw [up2_row (by omega)]; exact r2
  · rw [up2_row (by omega)]; exact r3
  · intro i hi
    rw [up2_row (by omega), up2_row (by omega)]
    exact r4 i hi
  · intro i hi hi2
    rw [up2_at, up2_at]
    by_cases e : i = c
    · subst e
      simp [f2 i hi hi2]
    · simp [e, f2 i hi hi2]
  · rw [up2_row (by omega), up2_row (by omega)]; exact f8
  · rw [up2_row (by omega)]
  · rw [up2_row (by omega)]
  · intro o i a b _
    rw [up2_row (by omega)]
  · intro o i a b _
    rw [up2_row (by omega)]
  · intro i _
    rw [up2_row (by omega)]
  · rw [up2_row (by omega)]
  · unfold RI KP
    rw [ro m 1 _ _ 0 (by omega), ro m 1 _ _ 20 (by omega)]
    exact hI
  · rw [up2_row (by omega)]; exact c3
  · rw [ro m 1 _ _ 16 (by omega)]; exact c4
