/-! PURE 30: a statement carried out, in the class and in the model -/
def FW2 (m m' : Mem) : Prop := m' 1 = m 1 ∧ (∀ o, 16 ≤ o → m' o = m o) ∧ m' 0 23 = m 0 23 ∧ m' 0 25 = m 0 25 ∧ m' 0 27 = m 0 27 ∧ m' 0 32 = m 0 32
theorem FW2.rf {m : Mem} : FW2 m m := ⟨rfl, fun _ _ => rfl, rfl, rfl, rfl, rfl⟩
theorem FW2.tr {a b d : Mem} (h : FW2 a b) (g : FW2 b d) : FW2 a d := ⟨g.1.trans h.1, fun o ho => (g.2.1 o ho).trans (h.2.1 o ho), g.2.2.1.trans h.2.2.1, g.2.2.2.1.trans h.2.2.2.1, g.2.2.2.2.1.trans h.2.2.2.2.1, g.2.2.2.2.2.trans h.2.2.2.2.2⟩
theorem SVD.fw2 {m m1 m2 : Mem} (h : SVD m m1) (g : FW2 m1 m2) : SVD m m2 := by
  obtain ⟨h1, h2, h3, h4, h5, h6, h7, h8, h9, h10, h11⟩ := h
  have e := g.2.1 20 (by omega)
  refine ⟨fun k hk => by rw [e]; exact h1 k hk, by rw [e]; exact h2, by rw [e]; exact h3, by rw [e]; exact h4, g.1.trans h5, (g.2.1 16 (by omega)).trans h6, (g.2.1 22 (by omega)).trans h7, fun k hk => by rw [e]; exact h8 k hk, g.2.2.1.trans h9, g.2.2.2.2.1.trans h10, g.2.2.2.2.2.trans h11⟩
theorem SI.fw2 {m m' : Mem} {c k p : Nat} {T : Nat → Int32} (h : SI m c T k p) (g : FW2 m m') : SI m' c T k p := by
  unfold SI
  rw [g.2.1 17 (by omega), g.2.1 18 (by omega), g.2.1 19 (by omega)]
  exact h
theorem DAYR.add {n t : Nat} {d m d' m' : Mem} {l : List Nat} {a b e w p : Int32} (h : DAYR n t d m l) (n7 : n < 8) (ha : rng a 0 6) (hb : rng b 0 9) (he : rng e 0 119) (hw : rng w 1 3) (hp : rng p 0 30)
    (d0 : ∀ k, k ≠ 4 → d' 0 k = d 0 k) (d4 : d' 0 4 = nI (n + 1)) (dr : ∀ o, 0 < o → o < 5 → d' o = d o) (dj : ∀ j, j < n → d' (5 + j) = d (5 + j))
    (dn : d' (5 + n) 0 = a ∧ d' (5 + n) 1 = b ∧ d' (5 + n) 2 = e ∧ d' (5 + n) 3 = w ∧ d' (5 + n) 4 = p ∧ d' (5 + n) 5 = 0)
    (m0 : ∀ k, k ≠ 15 → m' 0 k = m 0 k) (m15 : m' 0 15 = nI (n + 1)) (m2 : m' 2 = m 2) (mr : ∀ o, 10 ≤ o → m' o = m o) (mj : ∀ o, 3 ≤ o → o < 10 → ∀ j, j < n → m' o j = m o j)
    (mn : m' 3 n = a ∧ m' 4 n = b ∧ m' 5 n = e ∧ m' 6 n = w ∧ m' 7 n = p ∧ m' 8 n = 0 ∧ m' 9 n = 0) : DAYR (n + 1) t d' m' l := by
  obtain ⟨⟨n8, q1, q2, q3, q4, q5, q6, q7⟩, ⟨o1, o2, o3, o4, o5, o6, o7⟩, h0, hL, hC⟩ := h
  obtain ⟨n0, n1, n2, n3, n4, n5⟩ := dn
  obtain ⟨k3, k4, k5, k6, k7, k8, k9⟩ := mn
  refine ⟨⟨by omega, d4, m15, by rw [d0 6 (by omega), m0 16 (by omega)]; exact q3, by rw [dr 1 (by omega) (by omega), m2]; exact q4, fun i hi => ?_, ?_, ?_⟩, ⟨by rw [d0 6 (by omega)]; exact o1, o2, by rw [dr 1 (by omega) (by omega)]; exact o3, fun i hi => ?_, by rw [dr 3 (by omega) (by omega)]; exact o5, by rw [dr 4 (by omega) (by omega)]; exact o6, by rw [dr 1 (by omega) (by omega), dr 4 (by omega) (by omega)]; exact o7⟩, fun z => ?_, ⟨by rw [m0 17 (by omega)]; exact hL.1, by rw [mr 10 (by omega)]; exact hL.2.1, hL.2.2.1, fun i => ?_⟩, ⟨by rw [d0 5 (by omega)]; exact hC.1, by rw [dr 2 (by omega) (by omega)]; exact hC.2⟩⟩
  · by_cases c : i < n
    · rw [dj i c, mj 3 (by omega) (by omega) i c, mj 4 (by omega) (by omega) i c, mj 5 (by omega) (by omega) i c, mj 6 (by omega) (by omega) i c, mj 7 (by omega) (by omega) i c, mj 8 (by omega) (by omega) i c, mj 9 (by omega) (by omega) i c]
      exact q5 i c
    · have : i = n := by omega
      subst this
      unfold wtd
      rw [n0, n1, n2, n3, n4, n5, k3, k4, k5, k6, k7, k8, k9]
      exact ⟨rfl, rfl, rfl, rfl, rfl, rfl, by rw [if_neg (by decide), if_neg (by decide)]⟩
  · unfold DKr
    rw [dr (3 + 0) (by omega) (by omega), d0 6 (by omega), mr 11 (by omega), mr 12 (by omega), mr 13 (by omega), mr 14 (by omega), mr 15 (by omega)]
    exact q6
  · unfold DKr
    rw [dr (3 + 1) (by omega) (by omega), d0 6 (by omega), mr 11 (by omega), mr 12 (by omega), mr 13 (by omega), mr 14 (by omega), mr 15 (by omega)]
    exact q7
  · by_cases c : i < n
    · rw [dj i c]
      exact o4 i c
    · have : i = n := by omega
      subst this
      unfold CRg
      rw [n0, n1, n2, n3, n4, n5]
      exact ⟨ha, hb, he, hw, hp, Or.inl rfl, fun z => absurd z (by decide), fun z => absurd z (by decide)⟩
  · rw [dr 3 (by omega) (by omega), dr 4 (by omega) (by omega)]
    exact h0 z
  · refine (hL.2.2.2 i).trans ⟨fun z => ⟨by omega, by rw [dj i z.1]; exact z.2⟩, fun z => ?_⟩
    by_cases c : i < n
    · exact ⟨c, by rw [← dj i c]; exact z.2⟩
    · have : i = n := by omega
      subst this
      rw [n5] at z
      exact absurd z.2 (by decide)
theorem add_sim {fu n t a b e w p q : Nat} {d z : Mem} {l : List Nat} (h : DAYR n t d z l) (hq : q + 4 < 240) (t1 : z 19 q = nI a) (t2 : z 19 (q + 1) = nI b) (t3 : z 19 (q + 2) = nI e) (t4 : z 19 (q + 3) = nI w) (t5 : z 19 (q + 4) = nI p) (a1 : a < 1000) (b1 : b ≤ 9) (e1 : e < 1000) (w1 : w < 1000) (p1 : p < 1000) :
    ∃ r d' z', pX2_add fu d (nI a) (nI b) (nI e) (nI w) (nI p) = some (r, d') ∧ pX7_comesOne fu z (nI q) = some (r, z') ∧ ((r = 0 ∧ z' = z) ∨ (r = 1 ∧ DAYR (n + 1) t d' z' l ∧ FW2 z z')) := by
  have n8 := h.1.1
  have k4 : d 0 4 = nI n := h.1.2.1
  have k15 : z 0 15 = nI n := h.1.2.2.1
  have k6 : d 0 6 = nI t := h.2.1.1
  have k16 : z 0 16 = nI t := by rw [← h.1.2.2.2.1]; exact k6
  have t180 := h.2.1.2.1
  have one : (1 : Int32) = nI 1 := rfl
  have two : (2 : Int32) = nI 2 := rfl
  have three : (3 : Int32) = nI 3 := rfl
  have four : (4 : Int32) = nI 4 := rfl
  have lt_c : ∀ x y : Nat, x < 2000 → y < 2000 → ((nI x < nI y) ↔ x < y) := fun x y hx hy => nI_ltI (by omega) (by omega)
  have le_c : ∀ x y : Nat, x < 2000 → y < 2000 → ((nI x ≤ nI y) ↔ x ≤ y) := fun x y hx hy => nI_leI (by omega) (by omega)
  by_cases good : n < 8 ∧ a ≤ 6 ∧ e ≤ 119 ∧ t ≤ e ∧ 1 ≤ w ∧ w ≤ 3 ∧ p ≤ 30
  · obtain ⟨g1, g2, g3, g4, g5, g6, g7⟩ := good
    have n88 : ¬ nI n = 8 := nI_ne (b := 8) (by omega) (by omega) (by omega)
    have hc : pX2_add fu d (nI a) (nI b) (nI e) (nI w) (nI p) = some (1, up2 (up2 (up2 (up2 (up2 (va_up d (5 + n) (upd (upd (d (5 + n)) 0 (nI a)) 1 (nI b))) (5 + n) 2 (nI e)) (5 + n) 3 (nI w)) (5 + n) 4 (nI p)) (5 + n) 5 0) 0 4 (nI (n + 1))) := by
      unfold pX2_add
      simp only [jn1_eq, k4, k6]
      rw [if_neg (show ¬ 8 ≤ nI n from nI_ge (b := 8) (by omega) (by decide)), if_neg (show ¬ 7 ≤ nI a from nI_ge (b := 7) (by omega) (by decide)), if_neg (show ¬ 120 ≤ nI e from nI_ge (b := 120) (by omega) (by decide)), if_neg (nI_nlt g4 (by omega)), if_neg (show ¬ nI w < 1 from nI_nlt (b := 1) (by omega) (by omega)), if_neg (show ¬ 3 < nI w from nI_nlt (a := 3) (by omega) (by decide)), if_neg (show ¬ 30 < nI p from nI_nlt (a := 30) (by omega) (by decide)), if_neg i10, ck_ok g1 (by decide), nI_cl (by omega), become_eq, bd_some]
      simp only [lt_eq, ckz_1]
      rw [up2_row (o' := 0) (by omega), up2_row (o' := 0) (by omega), up2_row (o' := 0) (by omega), up2_row (o' := 0) (by omega), vu_rw, if_neg (by omega), k4, nI_1]
    have hm : pX7_comesOne fu z (nI q) = some (1, up2 (up2 (up2 (up2 (up2 (up2 (up2 (up2 z 3 n (nI a)) 4 n (nI b)) 5 n (nI e)) 6 n (nI w)) 7 n (nI p)) 8 n 0) 9 n 0) 0 15 (nI (n + 1))) := by
      unfold pX7_comesOne pX7_isIn
      simp only [one, two, three, four, nI_add, lt_eq, ck_ok (show q < 240 by omega) (show 240 < 2 ^ 31 by decide), ck_ok (show q + 1 < 240 by omega) (show 240 < 2 ^ 31 by decide), ck_ok (show q + 2 < 240 by omega) (show 240 < 2 ^ 31 by decide), ck_ok (show q + 3 < 240 by omega) (show 240 < 2 ^ 31 by decide), ck_ok (show q + 4 < 240 by omega) (show 240 < 2 ^ 31 by decide), nI_cl (show q < 2 ^ 31 by omega), nI_cl (show q + 1 < 2 ^ 31 by omega), nI_cl (show q + 2 < 2 ^ 31 by omega), nI_cl (show q + 3 < 2 ^ 31 by omega), nI_cl (show q + 4 < 2 ^ 31 by omega), t1, t2, t3, t4, t5, k15, k16,
        show ∀ (x : Mem) (b : Nat) (v : Int32) (k : Nat), up2 x 3 b v 0 k = x 0 k from fun x b v k => up2_row (by omega), show ∀ (x : Mem) (b : Nat) (v : Int32) (k : Nat), up2 x 4 b v 0 k = x 0 k from fun x b v k => up2_row (by omega), show ∀ (x : Mem) (b : Nat) (v : Int32) (k : Nat), up2 x 5 b v 0 k = x 0 k from fun x b v k => up2_row (by omega), show ∀ (x : Mem) (b : Nat) (v : Int32) (k : Nat), up2 x 6 b v 0 k = x 0 k from fun x b v k => up2_row (by omega), show ∀ (x : Mem) (b : Nat) (v : Int32) (k : Nat), up2 x 7 b v 0 k = x 0 k from fun x b v k => up2_row (by omega), show ∀ (x : Mem) (b : Nat) (v : Int32) (k : Nat), up2 x 8 b v 0 k = x 0 k from fun x b v k => up2_row (by omega), show ∀ (x : Mem) (b : Nat) (v : Int32) (k : Nat), up2 x 9 b v 0 k = x 0 k from fun x b v k => up2_row (by omega),
        show ∀ (x : Mem) (b : Nat) (v : Int32) (k : Nat), up2 x 3 b v 19 k = x 19 k from fun x b v k => up2_row (by omega), show ∀ (x : Mem) (b : Nat) (v : Int32) (k : Nat), up2 x 4 b v 19 k = x 19 k from fun x b v k => up2_row (by omega), show ∀ (x : Mem) (b : Nat) (v : Int32) (k : Nat), up2 x 5 b v 19 k = x 19 k from fun x b v k => up2_row (by omega), show ∀ (x : Mem) (b : Nat) (v : Int32) (k : Nat), up2 x 6 b v 19 k = x 19 k from fun x b v k => up2_row (by omega), ck_ok g1 (show 8 < 2 ^ 31 by decide), nI_cl (show n < 2 ^ 31 by omega)]
      rw [if_neg (show ¬ 6 < nI a from nI_nlt (a := 6) (by omega) (by decide)), if_neg (show ¬ 119 < nI e from nI_nlt (a := 119) (by omega) (by decide)), if_neg (nI_nlt g4 (by omega)), if_neg (nI_nlt g5 (by omega)), if_neg (nI_nlt g6 (by omega)), bd_some, if_neg (by decide), if_neg (show ¬ 30 < nI p from nI_nlt (a := 30) (by omega) (by decide)), if_neg n88]
    refine ⟨_, _, _, hc, hm, Or.inr ⟨rfl, ?_, ?_⟩⟩
    · refine h.add (a := nI a) (b := nI b) (e := nI e) (w := nI w) (p := nI p) g1 ⟨a, by omega, g2, rfl⟩ ⟨b, by omega, b1, rfl⟩ ⟨e, by omega, g3, rfl⟩ ⟨w, g5, g6, rfl⟩ ⟨p, by omega, g7, rfl⟩ (fun k hk => ?_) (up2_same _ _ _ _) (fun o h1 h2 => ?_) (fun j hj => ?_) ?_ (fun k hk => ?_) (up2_same _ _ _ _) ?_ (fun o h1 => ?_) (fun o h1 h2 j hj => ?_) ?_
      · rw [up2_col hk, up2_row (by omega), up2_row (by omega), up2_row (by omega), up2_row (by omega), vu_rw, if_neg (by omega)]
      · rw [up_row0 _ _ _ _ (by omega), up_rowo _ _ _ _ _ (by omega), up_rowo _ _ _ _ _ (by omega), up_rowo _ _ _ _ _ (by omega), up_rowo _ _ _ _ _ (by omega), vu_rw, if_neg (by omega)]
      · rw [up_row0 _ _ _ _ (by omega), up_rowo _ _ _ _ _ (by omega), up_rowo _ _ _ _ _ (by omega), up_rowo _ _ _ _ _ (by omega), up_rowo _ _ _ _ _ (by omega), vu_rw, if_neg (by omega)]
      · refine ⟨?_, ?_, ?_, ?_, ?_, ?_⟩
        · rw [up2_row (by omega), up2_col (by omega), up2_col (by omega), up2_col (by omega), up2_col (by omega), vu_rw, if_pos rfl, pk_un (by omega), pk_us]
        · rw [up2_row (by omega), up2_col (by omega), up2_col (by omega), up2_col (by omega), up2_col (by omega), vu_rw, if_pos rfl, pk_us]
        · rw [up2_row (by omega), up2_col (by omega), up2_col (by omega), up2_col (by omega), up2_same]
        · rw [up2_row (by omega), up2_col (by omega), up2_col (by omega), up2_same]
        · rw [up2_row (by omega), up2_col (by omega), up2_same]
        · rw [up2_row (by omega), up2_same]
      · rw [up2_col hk, up2_row (by omega), up2_row (by omega), up2_row (by omega), up2_row (by omega), up2_row (by omega), up2_row (by omega), up2_row (by omega)]
      · rw [up_row0 _ _ _ _ (by omega), up_rowo _ _ _ _ _ (by omega), up_rowo _ _ _ _ _ (by omega), up_rowo _ _ _ _ _ (by omega), up_rowo _ _ _ _ _ (by omega), up_rowo _ _ _ _ _ (by omega), up_rowo _ _ _ _ _ (by omega), up_rowo _ _ _ _ _ (by omega)]
      · rw [up_row0 _ _ _ _ (by omega), up_rowo _ _ _ _ _ (by omega), up_rowo _ _ _ _ _ (by omega), up_rowo _ _ _ _ _ (by omega), up_rowo _ _ _ _ _ (by omega), up_rowo _ _ _ _ _ (by omega), up_rowo _ _ _ _ _ (by omega), up_rowo _ _ _ _ _ (by omega)]
      · have nj : ¬ j = n := by omega
        rw [up2_row (by omega), up2_at, up2_at, up2_at, up2_at, up2_at, up2_at, up2_at]
        simp [nj]
      · refine ⟨?_, ?_, ?_, ?_, ?_, ?_, ?_⟩ <;> rw [up2_row (by omega), up2_at, up2_at, up2_at, up2_at, up2_at, up2_at, up2_at] <;> simp
    · refine ⟨?_, fun o ho => ?_, ?_, ?_, ?_, ?_⟩
      · rw [up_row0 _ _ _ _ (by omega), up_rowo _ _ _ _ _ (by omega), up_rowo _ _ _ _ _ (by omega), up_rowo _ _ _ _ _ (by omega), up_rowo _ _ _ _ _ (by omega), up_rowo _ _ _ _ _ (by omega), up_rowo _ _ _ _ _ (by omega), up_rowo _ _ _ _ _ (by omega)]
      · rw [up_row0 _ _ _ _ (by omega), up_rowo _ _ _ _ _ (by omega), up_rowo _ _ _ _ _ (by omega), up_rowo _ _ _ _ _ (by omega), up_rowo _ _ _ _ _ (by omega), up_rowo _ _ _ _ _ (by omega), up_rowo _ _ _ _ _ (by omega), up_rowo _ _ _ _ _ (by omega)]
      · rw [up2_col (by omega), up2_row (by omega), up2_row (by omega), up2_row (by omega), up2_row (by omega), up2_row (by omega), up2_row (by omega), up2_row (by omega)]
      · rw [up2_col (by omega), up2_row (by omega), up2_row (by omega), up2_row (by omega), up2_row (by omega), up2_row (by omega), up2_row (by omega), up2_row (by omega)]
      · rw [up2_col (by omega), up2_row (by omega), up2_row (by omega), up2_row (by omega), up2_row (by omega), up2_row (by omega), up2_row (by omega), up2_row (by omega)]
      · rw [up2_col (by omega), up2_row (by omega), up2_row (by omega), up2_row (by omega), up2_row (by omega), up2_row (by omega), up2_row (by omega), up2_row (by omega)]
  · refine ⟨0, d, z, ?_, ?_, Or.inl ⟨rfl, rfl⟩⟩
    · unfold pX2_add
      simp only [jn1_eq, k4, k6, reduceIte, ckz_0]
      by_cases g1 : 8 ≤ nI n
      · rw [if_pos g1]
      by_cases g2 : 7 ≤ nI a
      · rw [if_neg g1, if_pos g2]
      by_cases g3 : 120 ≤ nI e
      · rw [if_neg g1, if_neg g2, if_pos g3]
      by_cases g4 : nI e < nI t
      · rw [if_neg g1, if_neg g2, if_neg g3, if_pos g4]
      by_cases g5 : nI w < 1
      · rw [if_neg g1, if_neg g2, if_neg g3, if_neg g4, if_pos g5]
      by_cases g6 : 3 < nI w
      · rw [if_neg g1, if_neg g2, if_neg g3, if_neg g4, if_neg g5, if_pos g6]
      by_cases g7 : 30 < nI p
      · rw [if_neg g1, if_neg g2, if_neg g3, if_neg g4, if_neg g5, if_neg g6, if_pos g7]
      · exfalso
        have f1 : ¬ 8 ≤ n := fun x => g1 (nI_le (a := 8) x (by omega))
        have f2 : ¬ 7 ≤ a := fun x => g2 (nI_le (a := 7) x (by omega))
        have f3 : ¬ 120 ≤ e := fun x => g3 (nI_le (a := 120) x (by omega))
        have f4 : ¬ e < t := fun x => g4 (nI_lt x (by omega))
        have f5 : ¬ w < 1 := fun x => g5 (nI_lt (b := 1) x (by omega))
        have f6 : ¬ 3 < w := fun x => g6 (nI_lt (a := 3) x (by omega))
        have f7 : ¬ 30 < p := fun x => g7 (nI_lt (a := 30) x (by omega))
        exact good ⟨by omega, by omega, by omega, by omega, by omega, by omega, by omega⟩
    · unfold pX7_comesOne pX7_isIn
      simp only [one, two, three, four, nI_add, ck_ok (show q < 240 by omega) (show 240 < 2 ^ 31 by decide), ck_ok (show q + 2 < 240 by omega) (show 240 < 2 ^ 31 by decide), ck_ok (show q + 3 < 240 by omega) (show 240 < 2 ^ 31 by decide), ck_ok (show q + 4 < 240 by omega) (show 240 < 2 ^ 31 by decide), nI_cl (show q < 2 ^ 31 by omega), nI_cl (show q + 2 < 2 ^ 31 by omega), nI_cl (show q + 3 < 2 ^ 31 by omega), nI_cl (show q + 4 < 2 ^ 31 by omega), t1, t3, t4, t5, k15, k16]
      by_cases g2 : 6 < nI a
      · rw [if_pos g2]
      by_cases g3 : 119 < nI e
      · rw [if_neg g2, if_pos g3]
      by_cases g4 : nI e < nI t
      · rw [if_neg g2, if_neg g3, if_pos g4]
      by_cases g5 : nI w < nI 1
      · rw [if_neg g2, if_neg g3, if_neg g4, if_pos g5, bd_some, if_pos rfl]
      by_cases g6 : nI 3 < nI w
      · rw [if_neg g2, if_neg g3, if_neg g4, if_neg g5, if_pos g6, bd_some, if_pos rfl]
      by_cases g7 : 30 < nI p
      · rw [if_neg g2, if_neg g3, if_neg g4, if_neg g5, if_neg g6, bd_some, if_neg (by decide), if_pos g7]
      by_cases g1 : nI n = 8
      · rw [if_neg g2, if_neg g3, if_neg g4, if_neg g5, if_neg g6, bd_some, if_neg (by decide), if_neg g7, if_pos g1]
      · exfalso
        have f1 : ¬ n = 8 := fun x => g1 (by rw [x]; rfl)
        have f2 : ¬ 6 < a := fun x => g2 (nI_lt (a := 6) x (by omega))
        have f3 : ¬ 119 < e := fun x => g3 (nI_lt (a := 119) x (by omega))
        have f4 : ¬ e < t := fun x => g4 (nI_lt x (by omega))
        have f5 : ¬ w < 1 := fun x => g5 (nI_lt (b := 1) x (by omega))
        have f6 : ¬ 3 < w := fun x => g6 (nI_lt (a := 3) x (by omega))
        have f7 : ¬ 30 < p := fun x => g7 (nI_lt (a := 30) x (by omega))
        exact good ⟨by omega, by omega, by omega, by omega, by omega, by omega, by omega⟩
theorem sk_inv {c p : Nat} {T : Nat → Int32} (h : (sk c T p).1 = 1) : p < c ∧ (sk c T p).2 ≤ c ∧ p + 5 ≤ (sk c T p).2 ∧ ((T p = 115 ∧ nd c T 1 (p + 1) = 1 ∧ 0 < nd c T 2 (p + 3) ∧ (sk c T p).2 = p + 4 + nd c T 2 (p + 3)) ∨ (T p = 99 ∧ nd c T 8 (p + 1) = 8 ∧ (sk c T p).2 = p + 10) ∨ (T p = 107 ∧ nd c T 3 (p + 1) = 3 ∧ (sk c T p).2 = p + 5)) := by
  unfold sk at h ⊢
  by_cases b1 : sgn c T p 115 = true
  · have s1 := sgn_iff.mp b1
    rw [if_pos b1] at h ⊢
    by_cases b2 : nd c T 1 (p + 1) = 1
    · rw [if_pos b2] at h ⊢
      by_cases b3 : sgn c T (p + 2) 61 = true
      · rw [if_pos b3] at h ⊢
        by_cases b4 : nd c T 2 (p + 3) = 0
        · rw [if_pos b4] at h
          exact absurd (show (0 : Int32) = 1 from h) (by decide)
        · rw [if_neg b4] at h ⊢
          by_cases b5 : sgn c T (p + 3 + nd c T 2 (p + 3)) 59 = true
          · have s5 := sgn_iff.mp b5
            rw [if_pos b5]
            exact ⟨s1.1, (show p + 4 + nd c T 2 (p + 3) ≤ c by omega), (show p + 5 ≤ p + 4 + nd c T 2 (p + 3) by omega), Or.inl ⟨s1.2, b2, by omega, rfl⟩⟩
          · rw [if_neg b5] at h
            exact absurd (show (0 : Int32) = 1 from h) (by decide)
      · rw [if_neg b3] at h
        exact absurd (show (0 : Int32) = 1 from h) (by decide)
    · rw [if_neg b2] at h
      exact absurd (show (0 : Int32) = 1 from h) (by decide)
  · rw [if_neg b1] at h ⊢
    by_cases b2 : sgn c T p 99 = true
    · have s1 := sgn_iff.mp b2
      rw [if_pos b2] at h ⊢
      by_cases b3 : nd c T 8 (p + 1) = 8
      · rw [if_pos b3] at h ⊢
        by_cases b5 : sgn c T (p + 9) 59 = true
        · have s5 := sgn_iff.mp b5
          rw [if_pos b5]
          exact ⟨s1.1, (show p + 10 ≤ c by omega), (show p + 5 ≤ p + 10 by omega), Or.inr (Or.inl ⟨s1.2, b3, rfl⟩)⟩
        · rw [if_neg b5] at h
          exact absurd (show (0 : Int32) = 1 from h) (by decide)
      · rw [if_neg b3] at h
        exact absurd (show (0 : Int32) = 1 from h) (by decide)
    · rw [if_neg b2] at h ⊢
      by_cases b4 : sgn c T p 107 = true
      · have s1 := sgn_iff.mp b4
        rw [if_pos b4] at h ⊢
        by_cases b3 : nd c T 3 (p + 1) = 3
        · rw [if_pos b3] at h ⊢
          by_cases b5 : sgn c T (p + 4) 59 = true
          · have s5 := sgn_iff.mp b5
            rw [if_pos b5]
            exact ⟨s1.1, (show p + 5 ≤ c by omega), (show p + 5 ≤ p + 5 by omega), Or.inr (Or.inr ⟨s1.2, b3, rfl⟩)⟩
          · rw [if_neg b5] at h
            exact absurd (show (0 : Int32) = 1 from h) (by decide)
        · rw [if_neg b3] at h
          exact absurd (show (0 : Int32) = 1 from h) (by decide)
      · rw [if_neg b4] at h
        exact absurd (show (0 : Int32) = 1 from h) (by decide)
theorem sk_01 (c : Nat) (T : Nat → Int32) (p : Nat) : ((sk c T p).1 = 0 ∨ (sk c T p).1 = 1) ∧ (sk c T p).2 ≤ p + 10 := by
  have l1 := nd_le c T 2 (p + 3)
  have l2 := nd_le c T 8 (p + 1)
  have l3 := nd_le c T 3 (p + 1)
  unfold sk
  repeat' split
  all_goals first
    | exact ⟨Or.inl rfl, by simp only []; omega⟩
    | exact ⟨Or.inr rfl, by simp only []; omega⟩
theorem carry_sim {fu n t c k p : Nat} {T : Nat → Int32} {d y z : Mem} {l : List Nat} (h : DAYR n t d z l) (hy : LE y c T (sk c T p).2) (hok : (sk c T p).1 = 1) (hI : SI z c T k p) (hk : k ≤ 40) (hc : c ≤ 96) (hfu : 20 < fu) :
    ∃ r d' z', pX4_carryOut fu y d (nI p) = some (r, d') ∧ pX7_comesAs fu z (nI k) = some (r, z') ∧ ((r = 0 ∧ z' = z) ∨ (r = 1 ∧ (∃ n', DAYR n' t d' z' l) ∧ FW2 z z')) := by
  obtain ⟨i1, i2, i3, i4, i5⟩ := hI
  obtain ⟨pc, -, -, hs⟩ := sk_inv hok
  have one : (1 : Int32) = nI 1 := rfl
  have two : (2 : Int32) = nI 2 := rfl
  have three : (3 : Int32) = nI 3 := rfl
  unfold pX4_carryOut pX7_comesAs
  rw [X4_letterAt_eq hy hc (by omega), bd_some, bd_some, if_pos pc]
  simp only [lt_eq, ck_ok (show k < 48 by omega) (show 48 < 2 ^ 31 by decide), nI_cl (show k < 2 ^ 31 by omega), i2, show (5 : Int32) = nI 5 from rfl, pk_mul]
  rcases hs with ⟨eT, d1, d2, e2⟩ | ⟨eT, d1, e2⟩ | ⟨eT, d1, e2⟩
  · obtain ⟨t1, t2⟩ := i3 eT
    have l2 := nd_le c T 2 (p + 3)
    have g1 : ∀ i, i < 1 → dgt c T (p + 1 + i) = true := fun i hi => nd_dgt c T 1 (p + 1) i (by omega)
    have g2 : ∀ i, i < nd c T 2 (p + 3) → dgt c T (p + 3 + i) = true := fun i hi => nd_dgt c T 2 (p + 3) i hi
    have N1 := X4_number_eq (fu := fu) (q := p + 1) (k := 1) hy hc g1 (by omega) hfu
    have N2 := X4_number_eq (fu := fu) (q := p + 3) (k := nd c T 2 (p + 3)) hy hc g2 (by omega) hfu
    have N1 : pX4_number fu y (nI p + 1) 1 = some (nI (numN T (p + 1) 1)) := by rw [nI_1]; exact N1
    have N2 : pX4_number fu y (nI p + 3) (y 0 2 - nI p - 4) = some (nI (numN T (p + 3) (nd c T 2 (p + 3)))) := by
      rw [hy.2.1, e2, pk_sub (by omega), show (4 : Int32) = nI 4 from rfl, pk_sub (by omega), three, nI_add, show p + 4 + nd c T 2 (p + 3) - p - 4 = nd c T 2 (p + 3) by omega]
      exact N2
    obtain ⟨r, r1, r2, r3⟩ := notSet_eq (fu := fu) h (by omega) (nI (numN T (p + 1) 1)) (nI (numN T (p + 3) (nd c T 2 (p + 3))))
    rw [eT, if_pos rfl, if_neg (by decide), if_pos rfl, N1, bd_some, N2, bd_some, r1, bd_some]
    simp only [jn1_eq, one, nI_add, ck_ok (show 5 * k < 240 by omega) (show 240 < 2 ^ 31 by decide), ck_ok (show 5 * k + 1 < 240 by omega) (show 240 < 2 ^ 31 by decide), nI_cl (show 5 * k < 2 ^ 31 by omega), nI_cl (show 5 * k + 1 < 2 ^ 31 by omega), t1, t2]
    rw [r2, bd_some]
    rcases r3 with rfl | rfl | rfl | rfl | ⟨rfl, i, v, i8, ei, ev, v1, v2, v3⟩
    · rw [if_neg (show ¬ (-1 : Int32) = 0 by decide), if_neg (show ¬ (-1 : Int32) = 0 by decide), if_pos trivial, ckz_0]
      exact ⟨0, d, z, rfl, rfl, Or.inl ⟨rfl, rfl⟩⟩
    · rw [if_neg (show ¬ (-3 : Int32) = 0 by decide), if_neg (show ¬ (-3 : Int32) = 0 by decide), if_pos trivial, ckz_0]
      exact ⟨0, d, z, rfl, rfl, Or.inl ⟨rfl, rfl⟩⟩
    · rw [if_neg (show ¬ (-4 : Int32) = 0 by decide), if_neg (show ¬ (-4 : Int32) = 0 by decide), if_pos trivial, ckz_0]
      exact ⟨0, d, z, rfl, rfl, Or.inl ⟨rfl, rfl⟩⟩
    · rw [if_neg (show ¬ (-6 : Int32) = 0 by decide), if_neg (show ¬ (-6 : Int32) = 0 by decide), if_pos trivial, ckz_0]
      exact ⟨0, d, z, rfl, rfl, Or.inl ⟨rfl, rfl⟩⟩
    · rw [if_pos rfl, if_pos rfl, if_neg (by decide), ei, ev]
      rw [ev] at v3
      unfold pX2_change
      simp only [ck_ok i8 (show 8 < 2 ^ 31 by decide), lt_eq, nI_cl (show i < 2 ^ 31 by omega), bd2_some]
      refine ⟨1, _, _, rfl, rfl, Or.inr ⟨rfl, ⟨n, h.set i8 v1 v2 v3⟩, ?_⟩⟩
      exact ⟨up_rowo _ _ _ _ _ (by omega), fun o ho => up_rowo _ _ _ _ _ (by omega), up2_row (by omega), up2_row (by omega), up2_row (by omega), up2_row (by omega)⟩
  · obtain ⟨t1, t2, t3, t4, t5⟩ := i4 eT
    have g : ∀ i, i < 8 → dgt c T (p + 1 + i) = true := fun i hi => nd_dgt c T 8 (p + 1) i (by omega)
    have num : ∀ o kk, o + kk ≤ 8 → (∀ i, i < kk → dgt c T (p + 1 + o + i) = true) := fun o kk ho i hi => by
      rw [show p + 1 + o + i = p + 1 + (o + i) by omega]
      exact g (o + i) (by omega)
    have G1 := num 0 1 (by omega)
    have G2 := num 1 1 (by omega)
    have G3 := num 2 3 (by omega)
    have G4 := num 5 1 (by omega)
    have G5 := num 6 2 (by omega)
    have N1 : pX4_number fu y (nI p + 1) 1 = some (nI (numN T (p + 1) 1)) := by rw [nI_1]; exact X4_number_eq (fu := fu) (q := p + 1) (k := 1) hy hc G1 (by omega) hfu
    have N2 : pX4_number fu y (nI p + 2) 1 = some (nI (numN T (p + 2) 1)) := by rw [two, nI_add]; exact X4_number_eq (fu := fu) (q := p + 2) (k := 1) hy hc G2 (by omega) hfu
    have N3 : pX4_number fu y (nI p + 3) 3 = some (nI (numN T (p + 3) 3)) := by rw [three, nI_add]; exact X4_number_eq (fu := fu) (q := p + 3) (k := 3) hy hc G3 (by omega) hfu
    have N4 : pX4_number fu y (nI p + 6) 1 = some (nI (numN T (p + 6) 1)) := by rw [show (6 : Int32) = nI 6 from rfl, nI_add]; exact X4_number_eq (fu := fu) (q := p + 6) (k := 1) hy hc G4 (by omega) hfu
    have N5 : pX4_number fu y (nI p + 7) 2 = some (nI (numN T (p + 7) 2)) := by rw [show (7 : Int32) = nI 7 from rfl, nI_add]; exact X4_number_eq (fu := fu) (q := p + 7) (k := 2) hy hc G5 (by omega) hfu
    have B1 := numN_lt 1 G1
    have B2 := numN_lt 1 G2
    have B3 := numN_lt 3 G3
    have B4 := numN_lt 1 G4
    have B5 := numN_lt 2 G5
    have B2 : numN T (p + 2) 1 < 10 := B2
    have B3 : numN T (p + 3) 3 < 1000 := B3
    have B4 : numN T (p + 6) 1 < 10 := B4
    have B5 : numN T (p + 7) 2 < 100 := B5
    have B1 : numN T (p + 1) 1 < 10 := B1
    obtain ⟨r, d', z', a1, a2, a3⟩ := add_sim (fu := fu) (q := 5 * k) h (by omega) t1 t2 t3 t4 t5 (by omega) (by omega) (by omega) (by omega) (by omega)
    rw [eT, if_neg (by decide), if_pos rfl, if_pos rfl, N1, bd_some, N2, bd_some, N3, bd_some, N4, bd_some, N5, bd_some, a1, a2, bd2_some, bd2_some]
    rcases a3 with ⟨rfl, e⟩ | ⟨rfl, e, f⟩
    · rw [ckz_0, ckz_0]
      exact ⟨_, _, _, rfl, rfl, Or.inl ⟨rfl, e⟩⟩
    · rw [ckz_1, ckz_1]
      exact ⟨_, _, _, rfl, rfl, Or.inr ⟨rfl, ⟨_, e⟩, f⟩⟩
  · obtain ⟨t1, t2, t3⟩ := i5 eT
    have g : ∀ i, i < 3 → dgt c T (p + 1 + i) = true := fun i hi => nd_dgt c T 3 (p + 1) i (by omega)
    have num : ∀ o kk, o + kk ≤ 3 → (∀ i, i < kk → dgt c T (p + 1 + o + i) = true) := fun o kk ho i hi => by
      rw [show p + 1 + o + i = p + 1 + (o + i) by omega]
      exact g (o + i) (by omega)
    have G1 := num 0 1 (by omega)
    have G2 := num 1 1 (by omega)
    have G3 := num 2 1 (by omega)
    have N1 : pX4_number fu y (nI p + 1) 1 = some (nI (numN T (p + 1) 1)) := by rw [nI_1]; exact X4_number_eq (fu := fu) (q := p + 1) (k := 1) hy hc G1 (by omega) hfu
    have N2 : pX4_number fu y (nI p + 2) 1 = some (nI (numN T (p + 2) 1)) := by rw [two, nI_add]; exact X4_number_eq (fu := fu) (q := p + 2) (k := 1) hy hc G2 (by omega) hfu
    have N3 : pX4_number fu y (nI p + 3) 1 = some (nI (numN T (p + 3) 1)) := by rw [three, nI_add]; exact X4_number_eq (fu := fu) (q := p + 3) (k := 1) hy hc G3 (by omega) hfu
    have B1 : numN T (p + 1) 1 < 10 := numN_lt 1 G1
    have B2 : numN T (p + 2) 1 < 10 := numN_lt 1 G2
    have B3 : numN T (p + 3) 1 < 10 := numN_lt 1 G3
    rw [eT, if_neg (by decide), if_neg (by decide), if_neg (by decide), if_neg (by decide), N1, bd_some, N2, bd_some]
    simp only [jn1_eq, one, two, nI_add, ck_ok (show 5 * k < 240 by omega) (show 240 < 2 ^ 31 by decide), ck_ok (show 5 * k + 1 < 240 by omega) (show 240 < 2 ^ 31 by decide), ck_ok (show 5 * k + 2 < 240 by omega) (show 240 < 2 ^ 31 by decide), nI_cl (show 5 * k < 2 ^ 31 by omega), nI_cl (show 5 * k + 1 < 2 ^ 31 by omega), nI_cl (show 5 * k + 2 < 2 ^ 31 by omega), t1, t2, lt_eq, show ∀ (x : Mem) (b : Nat) (v : Int32) (k : Nat), up2 x 3 b v 19 k = x 19 k from fun x b v k => up2_row (by omega), t3]
    generalize hA : numN T (p + 1) 1 = A at B1 N1
    generalize hB : numN T (p + 2) 1 = B at B2 N2
    generalize hE : numN T (p + 3) 1 = E at B3 N3
    rcases comer_c (fu := fu) h (nI A) with ⟨a1, a2⟩ | ⟨j, hj, ej, a1, a2⟩
    · rw [a1, a2, bd_some, bd_some, if_pos rfl, if_pos rfl, if_pos trivial, ckz_0]
      exact ⟨_, _, _, rfl, rfl, Or.inl ⟨rfl, rfl⟩⟩
    · have n8 := h.1.1
      rw [a1, a2, bd_some, bd_some, if_neg i10, if_neg i10]
      by_cases w : B ≤ 6
      · rw [if_neg (show ¬ 7 ≤ nI B from nI_ge (b := 7) (by omega) (by decide)), if_pos (show nI B ≤ 6 from nI_le (b := 6) w (by decide)), if_neg (show ¬ nI 1 = 0 by decide), ej, ck_ok (show j < 8 by omega) (by decide), ck_ok (show j < 8 by omega) (by decide), ck_ok (show j < 8 by omega) (by decide), nI_cl (show j < 2 ^ 31 by omega)]
        have N3' : pX4_number fu y (nI p + 3) (nI 1) = some (nI E) := N3
        rw [N3', bd_some, become_eq, bd_some]
        refine ⟨1, _, _, rfl, rfl, Or.inr ⟨rfl, ⟨n, h.kind hj ⟨B, by omega, w, rfl⟩ ⟨E, by omega, by omega, rfl⟩⟩, ?_⟩⟩
        refine ⟨?_, fun o ho => ?_, ?_, ?_, ?_, ?_⟩
        · rw [up_rowo _ _ _ _ _ (by omega), up_rowo _ _ _ _ _ (by omega)]
        · rw [up_rowo _ _ _ _ _ (by omega), up_rowo _ _ _ _ _ (by omega)]
        · rw [up2_row (by omega), up2_row (by omega)]
        · rw [up2_row (by omega), up2_row (by omega)]
        · rw [up2_row (by omega), up2_row (by omega)]
        · rw [up2_row (by omega), up2_row (by omega)]
      · rw [if_pos (show 7 ≤ nI B from nI_le (a := 7) (by omega) (by omega)), if_neg (show ¬ nI B ≤ 6 from nI_ge (a := 6) (by omega) (by omega)), if_pos trivial, ckz_0]
        exact ⟨_, _, _, rfl, rfl, Or.inl ⟨rfl, rfl⟩⟩
