/-! PURE 31: an office read -/
theorem amode {β1 β2 δ : Type} {γ : Type} {G : (β1 → β2 → Option δ) → β1 → β2 → Option δ} (n : Nat) (Inv2 : Nat → Option γ → β1 → β2 → Prop) (Post : Option γ → Option δ → Prop)
    (h2 : ∀ i h u p q, i ≤ n → Inv2 i u p q → (∀ p' q', i < n → Inv2 (i + 1) u p' q' → Post u (h p' q')) → Post u (G h p q)) : ∀ (fu i : Nat) u p q, Inv2 i u p q → n < fu + i → i ≤ n → Post u (zl2 G fu p q) := by
  intro fu
  induction fu with
  | zero => intro i u p q _ h1 h2; omega
  | succ fu ih =>
    intro i u p q h0 h1 h3
    exact h2 i _ u p q h3 h0 (fun p' q' h4 h5 => ih (i + 1) u p' q' h5 (by omega) (by omega))
theorem asim22 {α1 α2 β1 β2 γ δ : Type} {F : (α1 → α2 → Option γ) → α1 → α2 → Option γ} {G : (β1 → β2 → Option δ) → β1 → β2 → Option δ} (n : Nat) (Inv : Nat → α1 → α2 → β1 → β2 → Prop) (Inv2 : Nat → Option γ → β1 → β2 → Prop) (Post : Option γ → Option δ → Prop)
    (hs : ∀ i g h a b p q, i ≤ n → Inv i a b p q → (∀ a' b' p' q', i < n → Inv (i + 1) a' b' p' q' → Post (g a' b') (h p' q')) → (∀ u p' q', i < n → Inv2 (i + 1) u p' q' → Post u (h p' q')) → Post (F g a b) (G h p q))
    (h2 : ∀ i h u p q, i ≤ n → Inv2 i u p q → (∀ p' q', i < n → Inv2 (i + 1) u p' q' → Post u (h p' q')) → Post u (G h p q)) : ∀ (fu i : Nat) a b p q, Inv i a b p q → n < fu + i → i ≤ n → Post (zl2 F fu a b) (zl2 G fu p q) := by
  intro fu
  induction fu with
  | zero => intro i a b p q _ h1 h2; omega
  | succ fu ih =>
    intro i a b p q h0 h1 h3
    exact hs i _ _ a b p q h3 h0 (fun a' b' p' q' h4 h5 => ih (i + 1) a' b' p' q' h5 (by omega) (by omega)) (fun u p' q' h4 h5 => amode n Inv2 Post h2 fu (i + 1) u p' q' h5 (by omega) (by omega))
def PP (c : Nat) (T : Nat → Int32) : Nat → Nat
  | 0 => 0
  | k + 1 => (sk c T (PP c T k)).2
def KX (m m' : Mem) : Prop := m' 1 = m 1 ∧ m' 22 = m 22 ∧ (∀ k, k < 100 → m' 20 k = m 20 k) ∧ m' 0 27 = m 0 27 ∧ m' 0 32 = m 0 32
def OF (m q : Mem) : Prop := (∀ k, k ≠ 23 → k ≠ 24 → k ≠ 25 → q 0 k = m 0 k) ∧ ∀ o, o ≠ 0 → o ≠ 17 → o ≠ 18 → o ≠ 19 → q o = m o
theorem OF.kx {m q : Mem} (h : OF m q) : KX m q := ⟨h.2 1 (by omega) (by omega) (by omega) (by omega), h.2 22 (by omega) (by omega) (by omega) (by omega), fun k _ => by rw [h.2 20 (by omega) (by omega) (by omega) (by omega)], h.1 27 (by omega) (by omega) (by omega), h.1 32 (by omega) (by omega) (by omega)⟩
theorem OF.kd {m q : Mem} (h : OF m q) : KD m q := KD.of (fun k hk => h.1 k (by omega) (by omega) (by omega)) (fun o h1 h2 => h.2 o (by omega) (by omega) (by omega) (by omega))
theorem KX.tr {a b d : Mem} (h : KX a b) (g : KX b d) : KX a d := ⟨g.1.trans h.1, g.2.1.trans h.2.1, fun k hk => (g.2.2.1 k hk).trans (h.2.2.1 k hk), g.2.2.2.1.trans h.2.2.2.1, g.2.2.2.2.trans h.2.2.2.2⟩
theorem KEEP.kx {m m' : Mem} (h : KEEP m m') : KX m m' := ⟨h.2.2.2.1, h.2.2.2.2.2.1, h.2.2.2.2.2.2.1, h.2.2.2.2.2.2.2.2.1, h.2.2.2.2.2.2.2.2.2⟩
theorem SVD.kx {m m' : Mem} (h : SVD m m') : KX m m' := ⟨h.2.2.2.2.1, h.2.2.2.2.2.2.1, h.2.2.2.2.2.2.2.1, h.2.2.2.2.2.2.2.2.2.1, h.2.2.2.2.2.2.2.2.2.2⟩
theorem KEEP.kd {m m' : Mem} (h : KEEP m m') : KD m m' := ⟨h.1, h.2.1, h.2.2.1⟩
theorem KD.tr {a b d : Mem} (h : KD a b) (g : KD b d) : KD a d := by
  obtain ⟨⟨h1, h2, h3, h4⟩, h5, h6⟩ := h
  obtain ⟨⟨g1, g2, g3, g4⟩, g5, g6⟩ := g
  exact ⟨⟨g1.trans h1, g2.trans h2, fun o i a b c => (g3 o i a b c).trans (h3 o i a b c), fun o i a b c => (g4 o i a b c).trans (h4 o i a b c)⟩, fun k hk => (g5 k hk).trans (h5 k hk), g6.trans h6⟩
theorem SI.rs {z z' : Mem} {c k s p : Nat} {T : Nat → Int32} (h : SI z c T k p) (g : RS z z' s) (hk : k < s) : SI z' c T k p := by
  unfold SI
  rw [(g.2.2.1 k (by omega)).1, (g.2.2.1 k (by omega)).2, g.2.2.2 (5 * k) (by omega), g.2.2.2 (5 * k + 1) (by omega), g.2.2.2 (5 * k + 2) (by omega), g.2.2.2 (5 * k + 3) (by omega), g.2.2.2 (5 * k + 4) (by omega)]
  exact h
theorem SI.row0 {z : Mem} {c k p j : Nat} {v : Int32} {T : Nat → Int32} (h : SI z c T k p) : SI (up2 z 0 j v) c T k p := by
  unfold SI
  rw [up_row0 z j v 17 (by omega), up_row0 z j v 18 (by omega), up_row0 z j v 19 (by omega)]
  exact h
theorem neg1 : ∀ p, p < 300 → (-1000 - nI p : Int32) ≤ 0 := by decide +kernel
theorem neg2 : ∀ p, p < 300 → (-2000 - nI p : Int32) ≤ 0 := by decide +kernel
theorem office_sim {fu nn t c : Nat} {n md le d m : Mem} {l : List Nat} (hD : DAYR nn t n m l) (hdT : pX5_take fu md n = some d) (hd : DAYR nn t d m l) (hc : c ≤ 96) (l1 : le 0 1 = nI c) (m23 : m 0 23 = nI c) (hl : ∀ i, i < c → le 1 i = m 16 i) (hfu : 200 < fu) :
    ∃ r yl yd m', pX4_read fu le d = some (r, yl, yd) ∧ pX7_office fu m = some (r, m') ∧ m' 0 23 = 0 ∧ KX m m' ∧ ((r ≤ 0 ∧ KD m m') ∨ (¬ r ≤ 0 ∧ ∃ n', DAYR n' t yd m' l)) := by
  obtain ⟨T, hT⟩ : ∃ T, T = le 1 := ⟨_, rfl⟩
  unfold pX4_read pX7_office
  simp only [lt_eq, jn1_eq]
  refine asim22 40 (fun i (a : Int32) (b : Mem) (p : Int32) (q : Mem) => a = nI i ∧ p = 1 ∧ LE b c T (PP c T i) ∧ ME q c T (PP c T i) ∧ q 0 25 = nI i ∧ OF m q ∧ (∀ k, k < i → (sk c T (PP c T k)).1 = 1 ∧ SI q c T k (PP c T k)) ∧ 5 * i ≤ PP c T i ∧ PP c T i ≤ c)
    (fun i u (p : Int32) (q : Mem) => p = 0 ∧ ∃ pos yl yd, u = some (-1000 - nI pos, yl, yd) ∧ q 0 24 = nI pos ∧ pos < 300 ∧ OF m q)
    (fun (u : Option (Int32 × Mem × Mem)) (v : Option (Int32 × Mem)) => ∃ r yl yd m', u = some (r, yl, yd) ∧ v = some (r, m') ∧ m' 0 23 = 0 ∧ KX m m' ∧ ((r ≤ 0 ∧ KD m m') ∨ (¬ r ≤ 0 ∧ ∃ n', DAYR n' t yd m' l))) ?_ ?_ fu 0 _ _ _ _ ⟨rfl, rfl, ?_, ?_, up2_same _ _ _ _, ?_, fun k hk => absurd hk (by omega), Nat.le_refl _, Nat.zero_le _⟩ (by omega) (by omega)
  · rintro i g hh a b p q i40 ⟨rfl, rfl, hL, hM, h25, hOF, hA, h5, hcc⟩ hc1 hc2
    have p90 : PP c T i < 97 := by omega
    by_cases w : i = 0 ∨ PP c T i < c
    · obtain ⟨y', e1, hL2⟩ := X4_skipStatement_eq (fu := fu) hL hc (by omega) (by omega)
      obtain ⟨z', e2, hM2, hRS, hSI⟩ := X7_statement_eq (fu := fu) (s := i) hM h25 (by omega) hc (by omega) (by omega)
      have pos := (sk_01 c T (PP c T i)).2
      have E1 : ∀ (X Y : Option (Int32 × Mem × Mem)), (if nI i = 0 then X else if b 0 1 ≤ b 0 2 then Y else X) = X := fun X Y => by
        by_cases i0 : i = 0
        · rw [i0, if_pos (show nI 0 = 0 from rfl)]
        · rw [if_neg (nI_ne0 (by omega) (by omega)), hL.1, hL.2.1, if_neg (nI_ge (by omega) (by omega))]
      have E2 : ∀ (X Y : Option (Int32 × Mem)), (if q 0 24 < q 0 23 then X else if q 0 25 = 0 then X else Y) = X := fun X Y => by
        rw [hM.1, hM.2.1, h25]
        by_cases z : PP c T i < c
        · rw [if_pos (nI_lt z (by omega))]
        · rw [if_neg (nI_nlt (by omega) (by omega)), if_pos (by rw [show i = 0 by omega]; rfl)]
      have hOF2 : ∀ v, OF m (up2 z' 0 25 v) := fun v => ⟨fun k h1 h2 h3 => by rw [up2_col h3, hRS.1 k h2]; exact hOF.1 k h1 h2 h3, fun o h1 h2 h3 h4 => by rw [up_row0 _ _ _ _ h1, hRS.2.1 o h1 h2 h3 h4]; exact hOF.2 o h1 h2 h3 h4⟩
      rw [if_neg (show ¬ 96 ≤ nI i from nI_ge (b := 96) (by omega) (by decide)), E1, if_neg i10, E2, e1, e2, bd2_some, bd2_some]
      have z25 : z' 0 25 = nI i := by rw [hRS.1 25 (by omega)]; exact h25
      rcases (sk_01 c T (PP c T i)).1 with s0 | s1
      · rw [s0, if_pos rfl, if_pos rfl, hL2.2.1]
        exact hc2 _ _ _ (by omega) ⟨rfl, (sk c T (PP c T i)).2, _, _, rfl, by rw [up2_col (by omega)]; exact hM2.2.1, by omega, hOF2 _⟩
      · obtain ⟨j1, j2, j3, -⟩ := sk_inv s1
        rw [s1, if_neg i10, if_neg i10, nI_1, z25, nI_1]
        refine hc1 _ _ _ _ (by omega) ⟨rfl, rfl, hL2, ⟨by rw [up2_col (by omega)]; exact hM2.1, by rw [up2_col (by omega)]; exact hM2.2.1, fun j hj => by rw [up2_row (by omega)]; exact hM2.2.2 j hj⟩, up2_same _ _ _ _, hOF2 _, fun k hk => ?_, ?_, j2⟩
        · by_cases e : k = i
          · rw [e]
            exact ⟨s1, (hSI s1).row0⟩
          · exact ⟨(hA k (by omega)).1, ((hA k (by omega)).2.rs hRS (by omega)).row0⟩
        · show 5 * (i + 1) ≤ (sk c T (PP c T i)).2
          omega
    · have i1 : 1 ≤ i := by omega
      have ec : PP c T i = c := by omega
      have i0 : ¬ nI i = 0 := nI_ne0 (by omega) (by omega)
      have h9 : OF m (up2 q 0 23 0) := ⟨fun k h1 h2 h3 => by rw [up2_col h1]; exact hOF.1 k h1 h2 h3, fun o h1 h2 h3 h4 => by rw [up_row0 _ _ _ _ h1]; exact hOF.2 o h1 h2 h3 h4⟩
      generalize hy9 : up2 q 0 23 0 = y9 at h9
      have k9 := h9.kd
      have hD9 : DAYR nn t n y9 l := hD.cgm k9.1 k9.2.1 k9.2.2
      obtain ⟨yt, y11, t1, t2, hD11, hS11⟩ := take_save (fu := fu) (z := md) hD9 (by omega)
      rw [hdT] at t1
      injection t1 with t1
      subst t1
      have z23 : y9 0 23 = 0 := by rw [← hy9, up2_same]
      have z25 : y9 0 25 = nI i := by rw [← hy9, up2_col (by omega)]; exact h25
      obtain ⟨m11, e11, k1, k2, k3, k4, k5, k6, k7⟩ := save_all (fu := fu) (p := 1) (m := y9) (by omega) (by omega)
      have e11 : pX7_passesAll fu y9 1 1 = some m11 := e11
      rw [t2] at e11
      injection e11 with e11
      subst e11
      rw [if_neg (show ¬ 96 ≤ nI i from nI_ge (b := 96) (by omega) (by decide)), if_neg i0, hL.1, hL.2.1, ec, if_pos (nI_le (Nat.le_refl _) (by omega)), if_neg i10, hM.2.1, hM.1, ec, if_neg (nI_nlt (Nat.le_refl _) (by omega)), h25, if_neg i0, if_neg i10, t2, bd_some]
      refine csim32 i (fun k (x : Int32) (y yd : Mem) (x' : Int32) (z : Mem) => x = nI k ∧ x' = nI k ∧ LE y c T (PP c T k) ∧ FW2 y11 z ∧ ∃ n', DAYR n' t yd z l) (fun (u : Option (Int32 × Mem × Mem)) (v : Option (Int32 × Mem)) => ∃ r yl yd m', u = some (r, yl, yd) ∧ v = some (r, m') ∧ m' 0 23 = 0 ∧ KX m m' ∧ ((r ≤ 0 ∧ KD m m') ∨ (¬ r ≤ 0 ∧ ∃ n', DAYR n' t yd m' l))) ?_ fu 0 _ _ _ _ _ ⟨rfl, rfl, ⟨by rw [up2_col (by omega)]; exact hL.1, up2_same _ _ _ _, by rw [up_row0 _ _ _ _ (by omega)]; exact hL.2.2⟩, FW2.rf, nn, hD11⟩ (by omega) (by omega)
      rintro k g2 h2 x y yd x' z ki ⟨rfl, rfl, hLk, hFW, n', hDz⟩ hcc2
      have zz25 : z 0 25 = nI i := by rw [hFW.2.2.2.1, k6 25 (by omega) (by omega)]; exact z25
      rw [hLk.1, hLk.2.1, zz25]
      by_cases wk : k < i
      · obtain ⟨ok, hSIk⟩ := hA k wk
        obtain ⟨j1, j2, j3, -⟩ := sk_inv ok
        have i20 : i ≤ 20 := by omega
        obtain ⟨y', e1, hL2⟩ := X4_skipStatement_eq (fu := fu) hLk hc (by omega) (by omega)
        have hSI11 : SI y11 c T k (PP c T k) := by
          have h0 : SI y9 c T k (PP c T k) := by rw [← hy9]; exact hSIk.row0
          unfold SI at h0 ⊢
          rw [k5 17 (by omega) (by omega), k5 18 (by omega) (by omega), k5 19 (by omega) (by omega)]
          exact h0
        obtain ⟨r, d', z', e2, e3, hr⟩ := carry_sim (fu := fu) hDz hL2 ok (hSI11.fw2 hFW) (by omega) hc (by omega)
        rw [if_neg (nI_ge j1 (by omega)), if_neg (show ¬ 96 ≤ nI k from nI_ge (b := 96) (by omega) (by decide)), e1, bd2_some, ok, if_neg i10, e2, bd2_some, if_neg (nI_ge wk (by omega)), e3, bd2_some]
        rcases hr with ⟨rfl, ez⟩ | ⟨rfl, ⟨n2, hD2⟩, hF2⟩
        · subst ez
          have hSz := hS11.fw2 hFW
          obtain ⟨m3, e5, hK, -⟩ := back (fu := fu) hSz (by omega)
          obtain ⟨m4, e6, -, -, -, g4, -⟩ := load_all (fu := fu) (p := 1) hSz.1 hSz.2.1 hSz.2.2.1 hSz.2.2.2.1 (by omega) (by omega)
          have e6 : pX7_passesAll fu z' 1 0 = some m4 := e6
          rw [e5] at e6
          injection e6 with e6
          subst e6
          have l18 : m3 18 k = nI (PP c T k) := by rw [g4 18 (Or.inr (by omega)), hFW.2.1 18 (by omega)]; exact hSI11.1
          rw [if_pos rfl, if_pos rfl, e5, bd_some, ck_ok (show k < 48 by omega) (by decide), nI_cl (by omega), l18]
          refine ⟨_, _, _, _, rfl, rfl, ?_, h9.kx.tr hK.kx, Or.inl ⟨neg2 _ (by omega), k9.tr hK.kd⟩⟩
          rw [hK.2.2.2.2.2.2.2.1]
          exact z23
        · rw [if_neg i10, if_neg i10, nI_1]
          exact hcc2 _ _ _ _ _ wk ⟨rfl, rfl, hL2, hFW.tr hF2, n2, hD2⟩
      · have e : k = i := by omega
        subst e
        rw [if_pos (nI_le (show c ≤ PP c T k by omega) (by omega)), if_pos (nI_le (Nat.le_refl _) (by omega))]
        have hSz := hS11.fw2 hFW
        refine ⟨_, _, _, _, rfl, rfl, ?_, h9.kx.tr hSz.kx, Or.inr ⟨nI_nle (by omega) (by omega), n', hDz⟩⟩
        rw [hSz.2.2.2.2.2.2.2.2.1]
        exact z23
  · rintro i hh u p q i40 ⟨rfl, pos, yl, yd, rfl, h24, hp, hOF⟩ hc1
    have h9 : OF m (up2 q 0 23 0) := ⟨fun k h1 h2 h3 => by rw [up2_col h1]; exact hOF.1 k h1 h2 h3, fun o h1 h2 h3 h4 => by rw [up_row0 _ _ _ _ h1]; exact hOF.2 o h1 h2 h3 h4⟩
    rw [if_pos rfl, if_pos rfl, up2_col (show 24 ≠ 23 by omega), h24]
    exact ⟨_, _, _, _, rfl, rfl, up2_same _ _ _ _, h9.kx, Or.inl ⟨neg1 _ hp, h9.kd⟩⟩
  · exact ⟨by rw [up2_col (by omega)]; exact l1, up2_same _ _ _ _, by rw [up_row0 _ _ _ _ (by omega)]; exact hT.symm⟩
  · exact ⟨by rw [up2_col (by omega), up2_col (by omega)]; exact m23, by rw [up2_col (by omega), up2_same]; rfl, fun i hi => by rw [up2_row (by omega), up2_row (by omega), hT]; exact (hl i hi).symm⟩
  · exact ⟨fun k h1 h2 h3 => by rw [up2_col h3, up2_col h2], fun o h1 h2 h3 h4 => by rw [up_row0 _ _ _ _ h1, up_row0 _ _ _ _ h1]⟩
theorem office_R {fu : Nat} {f n k le m : Mem} (h : RR f n k le m) (hfu : 200 < fu) (md : Mem) : ∃ r n' md' le' m', pX6_office fu n md le = some (r, n', md', le') ∧ pX7_office fu m = some (r, m') ∧ RR f n' k le' m' := by
  obtain ⟨hF, ⟨nn, t, l, hD⟩, hI, ⟨c, c1, c2, c3, c4⟩⟩ := h
  obtain ⟨d, e0, hd⟩ := copy_day (fu := fu) (z := md) hD (by omega)
  have e1 : pX5_take fu md n = some d := by
    unfold pX5_take
    rw [e0, bd_some]
  obtain ⟨r, yl, yd, m', g1, g2, g3, g4, g5⟩ := office_sim (fu := fu) (md := md) (le := le) hD e1 hd c1 c2 c3 (fun i hi => (c4 i hi).1) hfu
  have hF' : RF f m' := hF.keep g4.1 g4.2.1 g4.2.2.2.2 g4.2.2.2.1
  have hI' : RI k m' := hI.keep g4.2.2.2.1 g4.2.2.1
  have hL' : RLt (up2 yl 0 1 0) m' := ⟨0, by omega, up2_same _ _ _ _, g3, fun i hi => absurd hi (by omega)⟩
  unfold pX6_office
  rw [e1, bd_some, g1, bd3_some]
  rcases g5 with ⟨r0, hK⟩ | ⟨r0, n', hD'⟩
  · rw [if_pos r0, lt_eq]
    exact ⟨_, _, _, _, _, rfl, g2, hF', ⟨nn, t, l, hD.cgm hK.1 hK.2.1 hK.2.2⟩, hI', hL'⟩
  · obtain ⟨y, e2, hy⟩ := copy_day (fu := fu) (z := n) hD' (by omega)
    rw [if_neg r0, e2, bd_some, lt_eq]
    exact ⟨_, _, _, _, _, rfl, g2, hF', ⟨n', t, l, hy⟩, hI', hL'⟩
