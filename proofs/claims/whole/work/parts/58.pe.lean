/-! PURE 14: a day begun, over, gone through, its cost -/
def DAYR (n t : Nat) (d m : Mem) (l : List Nat) : Prop := DQ n d m ∧ DOK n t d ∧ D00 t d ∧ LM n d m l ∧ LC d l
theorem cntN (p : Nat → Prop) [DecidablePred p] : ∀ n, n ≤ 8 → ∃ c, c ≤ n ∧ sumN n (fun j => if p j then 1 else 0) = nI c ∧ (c = 0 ↔ ∀ j, j < n → ¬ p j)
  | 0, _ => ⟨0, by omega, rfl, by simp⟩
  | n + 1, h => by
    obtain ⟨c, h1, h2, h3⟩ := cntN p n (by omega)
    rw [sumN, h2]
    by_cases q : p n
    · rw [if_pos q, nI_1]
      refine ⟨c + 1, by omega, rfl, ⟨fun e => absurd e (by omega), fun e => absurd q (e n (by omega))⟩⟩
    · rw [if_neg q, Int32.add_zero]
      refine ⟨c, by omega, rfl, h3.trans ⟨fun e j hj => ?_, fun e j hj => e j (by omega)⟩⟩
      by_cases w : j = n
      · exact w ▸ q
      · exact e j (by omega)
theorem isOver_sim {fu n t : Nat} {d m : Mem} {l : List Nat} (h : DAYR n t d m l) (hfu : 8 < fu) : ∃ b : Int32, pX2_isOver fu d = some b ∧ pX7_isOver fu m = some b ∧ (b = 0 ∨ b = 1) ∧ (b = 0 → t < 180) := by
  obtain ⟨hQ, hO, h0, hL, hC⟩ := h
  have n8 := hQ.1
  have hl := hL.len
  have e1 := hO.1
  have e2 : m 0 16 = nI t := by rw [← hQ.2.2.2.1]; exact e1
  unfold pX2_isOver pX7_isOver
  rw [e1, e2]
  have t180 := hO.2.1
  by_cases c : t < 180
  · rw [if_neg (show ¬ (180 : Int32) ≤ nI t from nI_ge c (by decide)), if_pos (show nI t < (180 : Int32) from nI_lt c (by decide))]
    obtain ⟨cn, c1, c2, c3⟩ := cntN (fun j => d (5 + j) 5 = 0) n n8
    rw [X2_comersWith_eq hQ.2.1 n8 (by omega), c2, bd_some]
    have hr := hQ.2.2.2.2.2.1
    have hu : kts (d 1) := hO.2.2.1.2.2.2.2.2.2.2
    by_cases A : ∀ j, j < n → ¬ d (5 + j) 5 = 0 ∧ ¬ d (5 + j) 5 = 1
    · have l0 : l = [] := by
        cases l with
        | nil => rfl
        | cons a l =>
          have := (hL.2.2.2 a).mp List.mem_cons_self
          exact absurd this.2 (A a this.1).2
      subst l0
      have c0 : cn = 0 := c3.mpr (fun j hj => (A j hj).1)
      subst c0
      rw [hC.1, List.length_nil, if_pos nI_0, if_pos nI_0]
      have q : ∀ R : Option Int32, (bd (pX7_isFree fu m 0) fun r7 => if r7 = 0 then some 0 else bd (pX7_isFree fu m 1) fun r10 => if r10 = 0 then some 0 else some 1) = R → zl1 (fun g4 (x2 : Int32) => if (m 0 15) ≤ x2 then bd (pX7_isFree fu m 0) fun r7 => if r7 = 0 then some 0 else bd (pX7_isFree fu m 1) fun r10 => if r10 = 0 then some 0 else some 1 else ck x2 8 <| if (m 8 x2.toNatClampNeg) = 0 then some 0 else ck x2 8 <| if (m 8 x2.toNatClampNeg) = 1 then some 0 else lt' (x2 + 1) fun x17 => g4 x17) fu 0 = R := by
        intro R hR
        refine sp1 n (fun i (x : Int32) => i ≤ n ∧ x = nI i) (fun r => r = R) ?_ fu 0 _ ⟨by omega, rfl⟩ (by omega) (by omega)
        rintro i x ⟨i1, rfl⟩
        by_cases w : i < n
        · refine Or.inl ⟨w, nI (i + 1), fun g => ?_, by omega, rfl⟩
          have := A i w
          rw [(hr i w).2.2.2.2.2.1] at this
          rw [hQ.2.2.1, if_neg (nI_ge w (by omega))]
          simp only [ck_ok (show i < 8 by omega) (show 8 < 2 ^ 31 by decide), nI_cl (show i < 2 ^ 31 by omega), if_neg this.1, if_neg this.2, lt_eq, nI_1]
        · refine Or.inr (fun g => ?_)
          rw [hQ.2.2.1, if_pos (nI_le (by omega) (by omega))]
          exact hR
      have f0 := hQ.kk (k := 0) (by omega)
      have f1 := hQ.kk (k := 1) (by omega)
      obtain ⟨f, hf⟩ : ∃ f, fu = f + 3 := ⟨fu - 3, by omega⟩
      have ki : (0 : Int32) = nI 0 := rfl
      have ki1 : (1 : Int32) = nI 1 := rfl
      have af : ∀ r : Int32, (fre (d 3) (d 0 6) → (d 1 7 = 2 → fre (d 4) (d 0 6)) → r = 1) → ((¬ fre (d 3) (d 0 6) ∨ (d 1 7 = 2 ∧ ¬ fre (d 4) (d 0 6))) → r = 0) → pX2_allFree fu d = some r := by
        intro r h1 h2
        rw [hf]
        unfold pX2_allFree
        simp only [zl1, pX2_kettlesInUse, bd_some, ck_0_2, ck_1_2, i01, i11, cl0, cl1, lt_eq, Nat.add_zero]
        by_cases a : fre (d 3) (d 0 6) <;> by_cases b : fre (d 4) (d 0 6) <;> rcases hu with u | u <;> simp only [u, le_k1, le_k2, le_k3, le_k4, le_k5, if_true, if_false, X3_isFree_t, X3_isFree_f, a, b, bd_some, i10, reduceIte, not_false_eq_true] <;> simp [u, a, b] at h1 h2 <;> first | rw [h1] | rw [h2]
      by_cases a : fre (d 3) (d 0 6)
      · by_cases b : fre (d 4) (d 0 6)
        · refine ⟨1, ?_, q _ ?_, Or.inr rfl, fun e => absurd e (by decide)⟩
          · rw [af 1 (fun _ _ => rfl) (fun e => e.elim (fun z => absurd a z) (fun z => absurd b z.2)), bd_some, if_neg i10]
          · rw [ki1, ki, X7_isFree_t (k := 0) (by omega) f0 hQ.2.2.2.1 a, bd_some, if_neg (by decide), X7_isFree_t (k := 1) (by omega) f1 hQ.2.2.2.1 b, bd_some, if_neg (by decide)]
        · have u2 : d 1 7 = 2 := by
            rcases hu with u | u
            · refine absurd ?_ b
              unfold fre
              rw [(hO.2.2.2.2.2.2 u).2.2.2, e1]
              exact nI_pos (by omega)
            · exact u
          refine ⟨0, ?_, q _ ?_, Or.inl rfl, fun _ => c⟩
          · rw [af 0 (fun _ z => absurd (z u2) b) (fun _ => rfl), bd_some, if_pos rfl]
          · rw [ki1, ki, X7_isFree_t (k := 0) (by omega) f0 hQ.2.2.2.1 a, bd_some, if_neg (by decide), X7_isFree_f (k := 1) (by omega) f1 hQ.2.2.2.1 b, bd_some, if_pos nI_0.symm]
      · refine ⟨0, ?_, q _ ?_, Or.inl rfl, fun _ => c⟩
        · rw [af 0 (fun z _ => absurd z a) (fun _ => rfl), bd_some, if_pos rfl]
        · rw [ki, X7_isFree_f (k := 0) (by omega) f0 hQ.2.2.2.1 a, bd_some, if_pos nI_0.symm]
    · refine ⟨0, ?_, ?_, Or.inl rfl, fun _ => c⟩
      · by_cases z : l.length = 0
        · have lz : l = [] := List.length_eq_zero_iff.mp z
          have cz : cn ≠ 0 := fun e => A (fun j hj => ⟨c3.mp e j hj, fun w => by
            have := (hL.2.2.2 j).mpr ⟨hj, w⟩
            rw [lz] at this
            exact absurd this List.not_mem_nil⟩)
          rw [hC.1, z, if_pos nI_0, if_neg (nI_ne0 (by omega) (by omega))]
        · rw [hC.1, if_neg (nI_ne0 (by omega) (by omega))]
      · obtain ⟨j, hj⟩ := Classical.not_forall.mp A
        obtain ⟨hjn, hj2⟩ := Classical.not_imp.mp hj
        refine sp1 n (fun i (x : Int32) => i ≤ j ∧ x = nI i) (fun r => r = some 0) ?_ fu 0 _ ⟨by omega, rfl⟩ (by omega) (by omega)
        rintro i x ⟨i1, rfl⟩
        have w : i < n := by omega
        by_cases s0 : d (5 + i) 5 = 0
        · refine Or.inr (fun g => ?_)
          rw [hQ.2.2.1, if_neg (nI_ge w (by omega)), ck_ok (show i < 8 by omega) (by decide), nI_cl (by omega), ← (hr i w).2.2.2.2.2.1, if_pos s0]
        · by_cases s1 : d (5 + i) 5 = 1
          · refine Or.inr (fun g => ?_)
            rw [hQ.2.2.1, if_neg (nI_ge w (by omega)), ck_ok (show i < 8 by omega) (by decide), nI_cl (by omega), ← (hr i w).2.2.2.2.2.1, if_neg s0, ck_ok (show i < 8 by omega) (by decide), if_pos s1]
          · refine Or.inl ⟨w, nI (i + 1), fun g => ?_, ?_, rfl⟩
            · rw [hQ.2.2.1, if_neg (nI_ge w (by omega))]
              simp only [ck_ok (show i < 8 by omega) (show 8 < 2 ^ 31 by decide), nI_cl (show i < 2 ^ 31 by omega), ← (hr i w).2.2.2.2.2.1, if_neg s0, if_neg s1, lt_eq, nI_1]
            · by_cases e : i = j
              · subst e
                exact absurd ⟨s0, s1⟩ hj2
              · omega
  · have e : t = 180 := by omega
    subst e
    rw [if_pos (by decide), if_neg (by decide)]
    exact ⟨1, rfl, rfl, Or.inr rfl, fun e => absurd e (by decide)⟩
theorem min_day {fu n t : Nat} {d m : Mem} {l : List Nat} (h : DAYR n t d m l) (ht : t < 180) (hfu : 8 < fu) : ∃ d' m' l', pX2_passMinute fu d = some d' ∧ pX7_goesMinute fu m = some m' ∧ DAYR n (t + 1) d' m' l' ∧ ST d m d' m' := by
  obtain ⟨hQ, hO, h0, hL, hC⟩ := h
  obtain ⟨d', m', l', e1, e2, r1, r2, r3, r4, r5⟩ := minute_sim hQ hO hL hC ht hfu
  exact ⟨d', m', l', e1, e2, ⟨r1, r2, fun z => absurd z (by omega), r3, r4⟩, r5⟩
/-- some minutes go by, on both sides -/
theorem pass_sim {fu n t p : Nat} {d m : Mem} {l : List Nat} (h : DAYR n t d m l) (hp : p ≤ 180) (hfu : 200 < fu) :
    ∃ d' m' t' l', pX2_pass fu d (nI p) = some d' ∧ zl2 (fun g9 (x6 : Int32) (y7 : Mem) =>
        if (nI p) ≤ x6 then
          some ((y7 0 16), y7)
        else
          bd (pX7_isOver fu y7) fun r12 =>
          if r12 = 0 then
            bd (pX7_goesMinute fu y7) fun y15 =>
            lt' (x6 + 1) fun x17 =>
            g9 x17 y15
          else
            some ((y7 0 16), y7)) fu 0 m = some (m' 0 16, m') ∧ DAYR n t' d' m' l' ∧ ST d m d' m' := by
  unfold pX2_pass
  refine sim22 p (fun i (x : Int32) (y : Mem) (z : Int32) (q : Mem) => i ≤ p ∧ x = nI i ∧ z = nI i ∧ ∃ t' l', DAYR n t' y q l' ∧ ST d m y q) (fun (a : Option Mem) (b : Option (Int32 × Mem)) => ∃ d' m' t' l', a = some d' ∧ b = some (m' 0 16, m') ∧ DAYR n t' d' m' l' ∧ ST d m d' m') ?_ fu 0 _ _ _ _ ⟨by omega, rfl, rfl, t, l, h, ST.rf⟩ (by omega) (by omega)
  rintro i x y z q ⟨i1, rfl, rfl, t', l', hD, hS⟩
  by_cases c : i < p
  · obtain ⟨b, b1, b2, b3, b4⟩ := isOver_sim (fu := fu) hD (by omega)
    rcases b3 with rfl | rfl
    · obtain ⟨d', m', l2, e1, e2, h2, hS2⟩ := min_day (fu := fu) hD (b4 rfl) (by omega)
      refine Or.inl ⟨c, nI (i + 1), d', nI (i + 1), m', fun g => ?_, fun g => ?_, by omega, rfl, rfl, _, l2, h2, hS.tr hS2⟩
      · rw [if_neg (nI_ge c (by omega)), b1, bd_some, if_pos rfl, e1, bd_some, lt_eq, nI_1]
      · rw [if_neg (nI_ge c (by omega)), b2, bd_some, if_pos rfl, e2, bd_some, lt_eq, nI_1]
    · refine Or.inr (fun g h => ?_)
      rw [if_neg (nI_ge c (by omega)), b1, bd_some, if_neg i10, if_neg (nI_ge c (by omega)), b2, bd_some, if_neg i10]
      exact ⟨y, q, t', l', rfl, rfl, hD, hS⟩
  · refine Or.inr (fun g h => ?_)
    rw [if_pos (nI_le (by omega) (by omega)), if_pos (nI_le (by omega) (by omega))]
    exact ⟨y, q, t', l', rfl, rfl, hD, hS⟩
theorem zero18 {n t : Nat} {d m : Mem} {l : List Nat} (h : DAYR n t d m l) : DAYR n t d (up2 m 0 18 0) l := by
  obtain ⟨hQ, hO, h0, hL, hC⟩ := h
  have ro : ∀ o, 0 < o → up2 m 0 18 0 o = m o := fun o h => by rw [up2_rw, if_neg (by omega)]
  refine ⟨hQ.cg EQD.rf ⟨up2_col (by omega), up2_col (by omega), fun o i h1 _ _ => by rw [ro o (by omega)], fun o i h1 _ _ => by rw [ro o (by omega)]⟩, hO, h0, ⟨by rw [up2_col (by omega)]; exact hL.1, by rw [ro 10 (by omega)]; exact hL.2.1, hL.2.2⟩, hC⟩
theorem FM18 {m m' : Mem} (h : FM (up2 m 0 18 0) m') : FM m m' := by
  have ro : ∀ o, 0 < o → up2 m 0 18 0 o = m o := fun o h => by rw [up2_rw, if_neg (by omega)]
  exact ⟨fun o h1 h2 => by rw [h.1 o h1 h2, ro o h1], fun o h1 => by rw [h.2.1 o h1, ro o (by omega)], fun k h1 h2 h3 => by rw [h.2.2 k h1 h2 h3, up2_col h3]⟩
/-- to the day's end, on both sides -/
theorem end_sim {γ δ : Type} {fu n t : Nat} {d m : Mem} {l : List Nat} {P : Option γ → Option δ → Prop} {K : Mem → Option γ} {H : Mem → Option δ} (h : DAYR n t d m l) (hfu : 200 < fu)
    (hr : ∀ d' m' t' l', DAYR n t' d' m' l' → FD d d' → FM m m' → (d 0 7 = 0 → d' 0 7 = m' 0 18) → P (K d') (H m')) :
    P (zl2 (fun g4 (x1 : Int32) (y2 : Mem) =>
      if 180 ≤ x1 then K y2
      else
        bd (pX2_isOver fu y2) fun r7 =>
        if r7 = 0 then
          bd (pX2_passMinute fu y2) fun y10 =>
          lt' (x1 + 1) fun x12 =>
          g4 x12 y10
        else
          K y2) fu 0 d) (bd (pX7_goesToEnd fu m) H) := by
  unfold pX7_goesToEnd
  rw [lt_eq]
  refine sim21 180 (fun i (x : Int32) (y : Mem) (q : Mem) => i ≤ 180 ∧ x = nI i ∧ ∃ l', t + i ≤ 180 ∧ DAYR n (t + i) y q l' ∧ ST d (up2 m 0 18 0) y q) (fun (a : Option γ) (b : Option Mem) => P a (bd b H)) ?_ fu 0 _ _ _ ⟨by omega, rfl, l, h.2.1.2.1, zero18 h, ST.rf⟩ (by omega) (by omega)
  rintro i x y q ⟨i1, rfl, l', t1, hD, hS⟩
  obtain ⟨b, b1, b2, b3, b4⟩ := isOver_sim (fu := fu) hD (by omega)
  have fin : P (K y) (H q) := hr y q _ l' hD hS.1 (FM18 hS.2.1) (fun z => hS.2.2 (by rw [up2_same]; exact z))
  by_cases c : i < 180
  · rcases b3 with rfl | rfl
    · obtain ⟨d', m', l2, e1, e2, h2, hS2⟩ := min_day (fu := fu) hD (b4 rfl) (by omega)
      have := b4 rfl
      refine Or.inl ⟨c, nI (i + 1), d', m', fun g => ?_, fun g => ?_, by omega, rfl, l2, by omega, h2, hS.tr hS2⟩
      · rw [if_neg (show ¬ (180 : Int32) ≤ nI i from nI_ge c (by decide)), b1, bd_some, if_pos rfl, e1, bd_some, lt_eq, nI_1]
      · rw [b2, bd_some, if_pos rfl, e2, bd_some]
    · refine Or.inr (fun g h => ?_)
      rw [if_neg (show ¬ (180 : Int32) ≤ nI i from nI_ge c (by decide)), b1, bd_some, if_neg i10, b2, bd_some, if_neg i10, bd_some]
      exact fin
  · refine Or.inr (fun g h => ?_)
    have hb : b = 1 := by
      rcases b3 with e | e
      · have := b4 e
        omega
      · exact e
    rw [if_pos (show (180 : Int32) ≤ nI i by rw [show i = 180 by omega]; decide), b2, hb, bd_some, if_neg i10, bd_some]
    exact fin
