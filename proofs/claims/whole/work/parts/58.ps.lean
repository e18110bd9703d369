/-! PURE 27: the least of rows of boils -/
theorem bit_c : ∀ k, k < 8 → ∀ x, x < 256 → ((nI x >>> (nI k &&& 31)) &&& 1) = (if x.testBit k = true then 1 else 0) := by decide +kernel
theorem shl_c : ∀ n, n < 9 → ((1 : Int32) <<< (nI n &&& 31)) = nI (2 ^ n) := by decide +kernel
theorem top_c : ∀ N, N < 9 → 1 ≤ N → ∀ x, x < 256 → 2 ^ (N - 1) ≤ x → x < 2 ^ N → x.testBit (N - 1) = true := by decide +kernel
theorem low_c : ∀ N, N < 9 → 1 ≤ N → ∀ x, x < 256 → x < 2 ^ (N - 1) → x.testBit (N - 1) = false := by decide +kernel
theorem all_c : ∀ N, N < 9 → ∀ k, k < N → ∀ i, i < 256 → i + 1 = 2 ^ N → i.testBit k = true := by decide +kernel
def MNl (x z : Int32) : Prop := (x = 2147483647 ∧ z = 1000000000) ∨ ∃ v, v ≤ 400000 ∧ x = nI v ∧ z = nI v
theorem MNl.st {a b x z : Int32} (h : MNl x z) (g : MNl a b) : x ≤ a ↔ ¬ b < z := by
  rcases h with ⟨rfl, rfl⟩ | ⟨v, v1, rfl, rfl⟩
  · rcases g with ⟨rfl, rfl⟩ | ⟨u, u1, rfl, rfl⟩
    · decide
    · have q1 : nI u < 2147483647 := nI_lt (b := 2147483647) (by omega) (by decide)
      have q2 : nI u < 1000000000 := nI_lt (b := 1000000000) (by omega) (by decide)
      exact ⟨fun z => absurd z ((i_nle _ _).mpr q1), fun z => absurd q2 z⟩
  · rcases g with ⟨rfl, rfl⟩ | ⟨u, u1, rfl, rfl⟩
    · have q1 : nI v ≤ 2147483647 := nI_le (b := 2147483647) (by omega) (by decide)
      have q2 : ¬ 1000000000 < nI v := nI_nlt (a := 1000000000) (by omega) (by decide)
      exact ⟨fun _ => q2, fun _ => q1⟩
    · rw [i_nlt]
theorem boils_max {fu N x : Nat} {cm wn : Nat → Nat} {A d m : Mem} {S : Rw} (h : AX N cm wn d m) (hA : AR N cm wn (srt cm N) A) (hN : 1 ≤ N) (hx : x < 2 ^ (N - 1)) (hx256 : x < 256) (hS : SRg S) (hfu : 20 < fu) : pX0_boilsCost fu A S (nI x) = some 2147483647 := by
  obtain ⟨n8, h1, h2, h3⟩ := h
  have hso := srt_so cm N
  generalize srt cm N = s at hso hA
  obtain ⟨⟨H, -, H11, eH⟩, -, ⟨ht, -, ht20, eh⟩, -⟩ := hS
  unfold pX0_boilsCost
  refine csp5 N (fun k (x1 x2 x3 x4 x5 : Int32) => x5 = nI k ∧ ∃ fst cu, x3 = nI fst ∧ fst ≤ k ∧ (0 < k → fst = k → x.testBit (k - 1) = true) ∧ x4 = nI cu ∧ cu ≤ 11) (fun r => r = some 2147483647) ?_ fu 0 _ _ _ _ _ ⟨rfl, 0, 0, rfl, by omega, fun q => absurd q (by omega), rfl, by omega⟩ (by omega) (by omega)
  rintro k g x1 x2 x3 x4 x5 k1 ⟨rfl, fst, cu, rfl, f1, f2, rfl, c11⟩ hc
  rw [hA.1, eH, eh]
  by_cases w : k < N
  · have w3 := (h3 _ (hso.1 k w)).2.2.1
    have hbit := bit_c k (by omega) x hx256
    simp only [if_neg (nI_ge w (show N < 2 ^ 31 by omega)), ck_ok (show k < 8 by omega) (show 8 < 2 ^ 31 by decide), nI_cl (show k < 2 ^ 31 by omega), (hA.2 k w).2, nI_add, lt_eq, nI_1]
    by_cases z : cu + wn (s k) ≤ H
    · rw [if_pos (nI_le z (by omega)), hbit]
      by_cases hb : x.testBit k = true
      · have hw := heat_c (fu := fu) (a := cu + wn (s k)) (b := 10) (h := ht) (by omega) (by omega) ht20
        have hw : pX6_heatingMinutes fu (nI (cu + wn (s k))) 10 (nI ht) = some (nI (heatN (cu + wn (s k)) 10 ht)) := hw
        rw [if_pos hb, if_pos rfl, hw, bd_some, X0_waitedTill_eq hA.1 n8 w f1 (by omega), bd_some]
        exact hc _ _ _ _ _ w ⟨rfl, k + 1, 0, rfl, by omega, fun _ _ => by rw [Nat.add_sub_cancel]; exact hb, rfl, by omega⟩
      · rw [if_neg hb, if_neg (by decide)]
        exact hc _ _ _ _ _ w ⟨rfl, fst, cu + wn (s k), rfl, by omega, fun _ q => absurd q (by omega), rfl, by omega⟩
    · rw [if_neg (nI_ge (by omega) (by omega))]
  · have e : k = N := by omega
    subst e
    rw [if_pos (nI_le (Nat.le_refl _) (by omega))]
    by_cases z : fst = k
    · have := f2 (by omega) z
      rw [low_c k (by omega) hN x hx256 hx] at this
      cases this
    · rw [if_neg (nI_ne z (by omega) (by omega))]
theorem boils_sim {fu N x : Nat} {cm wn : Nat → Nat} {A d m z : Mem} {S : Rw} (h : AX N cm wn d m) (hA : AR N cm wn (srt cm N) A) (hz : ∀ k, k < N → z 21 k = nI (srt cm N k)) (hz2 : ∀ o, o ≠ 21 → z o = m o) (hset : ∀ k, k < 8 → S k = m 2 k) (hN : 1 ≤ N) (hx : x.testBit (N - 1) = true) (hx256 : x < 256) (hS : SRg S) (hfu : 20 < fu) : ∃ a b, pX0_boilsCost fu A S (nI x) = some a ∧ pX7_costOfRows fu z (nI x) = some b ∧ MNl a b ∧ ((∀ k, k < N → x.testBit k = true) → (∀ j, j < N → nI (wn j) ≤ S 0) → ∃ v, v ≤ 400000 ∧ a = nI v ∧ b = nI v) := by
  obtain ⟨n8, h1, h2, h3⟩ := h
  have hso := srt_so cm N
  generalize srt cm N = s at hso hA hz
  have s0 := hset 0 (by omega)
  have s1 := hset 1 (by omega)
  have s2 := hset 2 (by omega)
  have s4 := hset 4 (by omega)
  obtain ⟨⟨H, -, H11, eH⟩, ⟨tp, -, tp9, et⟩, ⟨ht, -, ht20, eh⟩, -, ⟨wt, -, wt9, ew⟩, -⟩ := hS
  rw [eH] at s0
  rw [et] at s1
  rw [eh] at s2
  rw [ew] at s4
  rw [eH]
  generalize hR : pX0_boilsCost fu A S (nI x) = R
  unfold pX0_boilsCost at hR
  simp only [hA.1, eH, et, eh, ew, lt_eq] at hR
  unfold pX7_costOfRows
  simp only [hz2 0 (by omega), hz2 2 (by omega), hz2 5 (by omega), hz2 6 (by omega), h2, ← s0, ← s1, ← s4, lt_eq, jn1_eq]
  refine csp5 N (fun k (x1 x2 x3 x4 x5 : Int32) => x5 = nI k ∧ ((∃ cost en fst cu, x1 = nI cost ∧ x2 = nI en ∧ x3 = nI fst ∧ x4 = nI cu ∧ cost ≤ k * 44000 ∧ en ≤ 119 + 60 * k ∧ fst ≤ k ∧ cu ≤ 11 ∧ (k = N → fst = N) ∧ ((∀ j, j < k → x.testBit j = true) → cu = 0) ∧ zl5 (fun g7 (x1 : Int32) (x2 : Int32) (x3 : Int32) (x4 : Int32) (x5 : Int32) =>
    if (nI N) ≤ x5 then
      if x3 = (nI N) then
        some x1
      else
        some 2147483647
    else
      ck x5 8 <|
      if (x4 + (A 2 x5.toNatClampNeg)) ≤ (nI H) then
        if ((nI x >>> (x5 &&& 31)) &&& 1) = 1 then
          ck x5 8 <|
          bd (pX6_heatingMinutes fu (x4 + (A 2 x5.toNatClampNeg)) 10 (nI ht)) fun r17 =>
          bd (pX0_waitedTill fu A (((imax x2 (A 1 x5.toNatClampNeg)) + (nI tp)) + r17) x3 x5) fun r20 =>
          g7 (x1 + ((r20 * (nI wt)) + 3)) (((imax x2 (A 1 x5.toNatClampNeg)) + (nI tp)) + r17) (x5 + 1) 0 (x5 + 1)
        else
          g7 x1 x2 x3 (x4 + (A 2 x5.toNatClampNeg)) (x5 + 1)
      else
        some 2147483647) (fu - k) x1 x2 x3 x4 x5 = R) ∨ (k < N ∧ R = some 2147483647 ∧ ¬ ((∀ k, k < N → x.testBit k = true) ∧ ∀ j, j < N → nI (wn j) ≤ nI H) ∧ ∃ cu, x4 = nI cu ∧ H < cu ∧ cu ≤ 11 + 3 * k + 3))) (fun Z => ∃ a b, R = some a ∧ Z = some b ∧ MNl a b ∧ ((∀ k, k < N → x.testBit k = true) → (∀ j, j < N → nI (wn j) ≤ nI H) → ∃ v, v ≤ 400000 ∧ a = nI v ∧ b = nI v)) ?_ fu 0 _ _ _ _ _ ⟨rfl, Or.inl ⟨0, 0, 0, 0, rfl, rfl, rfl, rfl, by omega, by omega, by omega, by omega, fun q => by omega, fun _ => rfl, hR⟩⟩ (by omega) (by omega)
  rintro k g x1 x2 x3 x4 x5 k1 ⟨rfl, hm⟩ hc
  rcases hm with ⟨cost, en, fst, cu, rfl, rfl, rfl, rfl, q1, q2, q3, q4, q5, q6, hRR⟩ | ⟨w, hRR, hno, cu, rfl, q1, q2⟩
  · obtain ⟨fk, hfk⟩ : ∃ fk, fu - k = fk + 1 := ⟨fu - k - 1, by omega⟩
    have hfk2 : fu - (k + 1) = fk := by omega
    rw [hfk, zl5] at hRR
    by_cases w : k < N
    · obtain ⟨a1, a2, a3, -, a5, -, a7⟩ := h3 _ (hso.1 k w)
      have sk : s k < 8 := by have := hso.1 k w; omega
      have hbit := bit_c k (by omega) x hx256
      rw [if_neg (nI_ge w (show N < 2 ^ 31 by omega)), ck_ok (show k < 8 by omega) (by decide), nI_cl (by omega), (hA.2 k w).2, (hA.2 k w).1, nI_add, hbit] at hRR
      simp only [if_neg (nI_ge w (show N < 2 ^ 31 by omega)), ck_ok (show k < 8 by omega) (show 8 < 2 ^ 31 by decide), nI_cl (show k < 2 ^ 31 by omega), hz k w, ck_ok sk (show 8 < 2 ^ 31 by decide), nI_cl (show s k < 2 ^ 31 by omega), a5, a7, nI_add, hbit]
      by_cases zH : cu + wn (s k) ≤ H
      · rw [if_pos (nI_le zH (by omega))] at hRR
        rw [if_pos (nI_le zH (by omega))]
        by_cases hb : x.testBit k = true
        · have hw : pX6_heatingMinutes fu (nI (cu + wn (s k))) 10 (nI ht) = some (nI (heatN (cu + wn (s k)) 10 ht)) := heat_c (fu := fu) (a := cu + wn (s k)) (b := 10) (h := ht) (by omega) (by omega) ht20
          have hwm : pX7_boilTime fu z (nI (cu + wn (s k))) 10 = some (nI (heatN (cu + wn (s k)) 10 ht)) := heat_m (fu := fu) (m := z) (a := cu + wn (s k)) (b := 10) (h := ht) (by rw [hz2 2 (by omega), ← s2]) (by omega) (by omega) ht20
          have hle := heatN_le (a := cu + wn (s k)) (b := 10) (h := ht) (by omega) (by omega) ht20
          generalize heatN (cu + wn (s k)) 10 ht = he at hw hwm hle
          have hmx : imax (nI en) (nI (cm (s k))) = nI (max en (cm (s k))) := by
            unfold imax
            by_cases q : en < cm (s k)
            · rw [if_pos (nI_lt q (by omega)), Nat.max_eq_right (by omega)]
            · rw [if_neg (nI_nlt (by omega) (by omega)), Nat.max_eq_left (by omega)]
          have hW : ∃ W, W ≤ 4800 ∧ sumN (k + 1 - fst) (fun i => nI (max en (cm (s k)) + tp + he) - A 1 (fst + i)) = nI W ∧ sumN (k + 1 - fst) (fun i => nI (max en (cm (s k)) + tp + he - cm (s (fst + i)))) = nI W := by
            obtain ⟨W, W1, W2⟩ := sumN_rng (b := 600) (f := fun i => nI (max en (cm (s k)) + tp + he - cm (s (fst + i)))) (by omega) (k + 1 - fst) (by omega) (fun i hi => ⟨_, by omega, by omega, rfl⟩)
            refine ⟨W, by omega, ?_, W2⟩
            rw [← W2]
            refine sumN_congr (fun i hi => ?_)
            rw [(hA.2 (fst + i) (by omega)).1, pk_sub (by have := hso.2.1 (fst + i) k (by omega) w; omega)]
          obtain ⟨W, W1, W2, W3⟩ := hW
          have hWw : W * wt ≤ 4800 * 9 := Nat.mul_le_mul W1 wt9
          rw [if_pos hb, if_pos rfl, ck_ok (show k < 8 by omega) (by decide), hw, bd_some, hmx, nI_add, nI_add, X0_waitedTill_eq hA.1 n8 w q3 (by omega), bd_some, W2, pk_mul, show (3 : Int32) = nI 3 from rfl, nI_add, nI_add, nI_1] at hRR
          rw [if_pos hb, if_neg i10, hwm]
          have core : ∃ a b, R = some a ∧ zl2 (fun g26 (x23 : Int32) (x24 : Int32) =>
              if nI k < x24 then
                g x23 (nI (max en (cm (s k)) + tp + he)) (nI k + 1) 0 (nI k + 1)
              else
                ck x24 8 <|
                ck (z 21 x24.toNatClampNeg) 8 <|
                g26 (x23 + ((nI (max en (cm (s k)) + tp + he)) - (m 5 (z 21 x24.toNatClampNeg).toNatClampNeg)) * (nI wt)) (x24 + 1)) fu (nI cost + 3) (nI fst) = some b ∧ MNl a b ∧ ((∀ k, k < N → x.testBit k = true) → (∀ j, j < N → nI (wn j) ≤ nI H) → ∃ v, v ≤ 400000 ∧ a = nI v ∧ b = nI v) := by
            refine csp2 (k + 1 - fst) (fun c (x23 x24 : Int32) => x24 = nI (fst + c) ∧ x23 = nI (cost + 3) + sumN c (fun i => nI (max en (cm (s k)) + tp + he - cm (s (fst + i))) * nI wt)) (fun Z => ∃ a b, R = some a ∧ Z = some b ∧ MNl a b ∧ ((∀ k, k < N → x.testBit k = true) → (∀ j, j < N → nI (wn j) ≤ nI H) → ∃ v, v ≤ 400000 ∧ a = nI v ∧ b = nI v)) ?_ fu 0 _ _ ⟨rfl, by rw [sumN, Int32.add_zero, show (3 : Int32) = nI 3 from rfl, nI_add]⟩ (by omega) (by omega)
            rintro c g26 x23 x24 c1 ⟨rfl, rfl⟩ hcc
            by_cases cw : c < k + 1 - fst
            · have sf := hso.1 (fst + c) (by omega)
              have mono := hso.2.1 (fst + c) k (by omega) w
              rw [if_neg (nI_nlt (show fst + c ≤ k by omega) (by omega)), ck_ok (show fst + c < 8 by omega) (by decide), nI_cl (by omega), hz _ (by omega), ck_ok (show s (fst + c) < 8 by omega) (by decide), nI_cl (by omega), (h3 _ sf).2.2.2.2.1, pk_sub (by omega), nI_1]
              refine hcc _ _ cw ⟨rfl, ?_⟩
              rw [sumN, Int32.add_assoc]
            · have e : c = k + 1 - fst := by omega
              subst e
              rw [if_pos (nI_lt (show k < fst + (k + 1 - fst) by omega) (by omega)), ← sum_mul, W3, pk_mul, nI_add, nI_1]
              refine hc _ _ _ _ _ w ⟨rfl, Or.inl ⟨_, _, k + 1, 0, rfl, rfl, rfl, rfl, ?_, ?_, by omega, by omega, fun q => q, fun _ => rfl, ?_⟩⟩
              · omega
              · omega
              · rw [hfk2, show cost + 3 + W * wt = cost + (W * wt + 3) by omega]
                exact hRR
          simp only [bd_some, nI_add]
          by_cases q : cm (s k) ≤ en
          · rw [Nat.max_eq_left q] at core
            rw [if_pos (nI_le q (by omega))]
            exact core
          · rw [Nat.max_eq_right (show en ≤ cm (s k) by omega)] at core
            rw [if_neg (nI_ge (by omega) (by omega))]
            exact core
        · rw [if_neg hb, if_neg (by decide), nI_1] at hRR
          rw [if_neg hb, if_pos rfl, nI_1]
          refine hc _ _ _ _ _ w ⟨rfl, Or.inl ⟨cost, en, fst, cu + wn (s k), rfl, rfl, rfl, rfl, Nat.le_trans q1 (Nat.mul_le_mul_right _ (Nat.le_succ k)), Nat.le_trans q2 (Nat.add_le_add_left (Nat.mul_le_mul_left _ (Nat.le_succ k)) _), Nat.le_succ_of_le q3, Nat.le_trans zH H11, fun q => ?_, fun q => absurd (q k (Nat.lt_succ_self k)) hb, ?_⟩⟩
          · exact absurd (by rw [← q, Nat.add_sub_cancel] at hx; exact hx) hb
          · rw [hfk2]
            exact hRR
      · have hno : ¬ ((∀ k, k < N → x.testBit k = true) ∧ ∀ j, j < N → nI (wn j) ≤ nI H) := fun ⟨b1, b2⟩ => by
          have u1 := q6 (fun j hj => b1 j (by omega))
          have u2 := (nI_leI (by omega) (by omega)).mp (b2 _ (hso.1 k w))
          omega
        rw [if_neg (nI_ge (by omega) (by omega))] at hRR
        rw [if_neg (nI_ge (show H < cu + wn (s k) by omega) (by omega))]
        by_cases hb : x.testBit k = true
        · rw [if_pos hb, if_neg i10]
          exact ⟨_, _, hRR.symm, rfl, Or.inl ⟨rfl, rfl⟩, fun b1 b2 => absurd ⟨b1, b2⟩ hno⟩
        · rw [if_neg hb, if_pos rfl, nI_1]
          refine hc _ _ _ _ _ w ⟨rfl, Or.inr ⟨?_, hRR.symm, hno, _, rfl, by omega, by omega⟩⟩
          have : k ≠ N - 1 := fun q => hb (by rw [q]; exact hx)
          omega
    · have e : k = N := by omega
      subst e
      rw [if_pos (nI_le (Nat.le_refl _) (by omega)), q5 rfl, if_pos rfl] at hRR
      rw [if_pos (nI_le (Nat.le_refl _) (by omega))]
      exact ⟨_, _, hRR.symm, rfl, Or.inr ⟨cost, by omega, rfl, rfl⟩, fun _ _ => ⟨cost, by omega, rfl, rfl⟩⟩
  · obtain ⟨a1, a2, a3, -, a5, -, a7⟩ := h3 _ (hso.1 k w)
    have sk : s k < 8 := by have := hso.1 k w; omega
    have hbit := bit_c k (by omega) x hx256
    simp only [if_neg (nI_ge w (show N < 2 ^ 31 by omega)), ck_ok (show k < 8 by omega) (show 8 < 2 ^ 31 by decide), nI_cl (show k < 2 ^ 31 by omega), hz k w, ck_ok sk (show 8 < 2 ^ 31 by decide), nI_cl (show s k < 2 ^ 31 by omega), a5, a7, nI_add, hbit]
    rw [if_neg (nI_ge (show H < cu + wn (s k) by omega) (by omega))]
    by_cases hb : x.testBit k = true
    · rw [if_pos hb, if_neg i10]
      exact ⟨_, _, hRR, rfl, Or.inl ⟨rfl, rfl⟩, fun b1 b2 => absurd ⟨b1, b2⟩ hno⟩
    · rw [if_neg hb, if_pos rfl, nI_1]
      refine hc _ _ _ _ _ w ⟨rfl, Or.inr ⟨?_, hRR, hno, _, rfl, by omega, by omega⟩⟩
      have : k ≠ N - 1 := fun q => hb (by rw [q]; exact hx)
      omega
theorem leastB_sim {fu N : Nat} {cm wn : Nat → Nat} {A d dd m z : Mem} (h : AX N cm wn d m) (hA : AR N cm wn (srt cm N) A) (hz : ∀ k, k < N → z 21 k = nI (srt cm N k)) (hz2 : ∀ o, o ≠ 21 → z o = m o) (hset : ∀ k, k < 8 → dd 1 k = m 2 k) (hN : 1 ≤ N) (hS : SRg (dd 1)) (hwn : ∀ j, j < N → nI (wn j) ≤ dd 1 0) (hfu : 600 < fu) (pc pm : Int32) (hp : (pc = 0 ∧ ¬ pm = 0) ∨ (¬ pc = 0 ∧ pm = 0)) :
    ∃ r, pX0_leastBoils fu A dd pc = some r ∧ zl3 (fun g17 (x13 : Int32) (x14 : Int32) (x15 : Int32) =>
            if (1 <<< ((z 0 15) &&& 31)) ≤ x15 then
              if pm = 0 then
                some (x14, z)
              else
                some (x13, z)
            else
              bd (pX7_costOfRows fu z x15) fun r21 =>
              if r21 < x14 then
                lt' (x15 + 1) fun x24 =>
                g17 x15 r21 x24
              else
                lt' (x15 + 1) fun x25 =>
                g17 x13 x14 x25) fu 0 1000000000 (nI (2 ^ (N - 1))) = some (r, z) := by
  have n8 := h.1
  have p2 : 2 ^ N = 2 * 2 ^ (N - 1) := by
    obtain ⟨M, rfl⟩ : ∃ M, N = M + 1 := ⟨N - 1, by omega⟩
    rw [Nat.add_sub_cancel, Nat.pow_succ]
    omega
  have p3 : 2 ^ (N - 1) ≤ 128 := Nat.pow_le_pow_right (n := 2) (by omega) (show N - 1 ≤ 7 by omega)
  have p1 : 1 ≤ 2 ^ (N - 1) := Nat.one_le_two_pow
  have ez : z 0 15 = nI N := by rw [hz2 0 (by omega)]; exact h.2.2.1
  simp only [ez, shl_c N (by omega), lt_eq]
  generalize hZ : zl3 (fun g17 (x13 : Int32) (x14 : Int32) (x15 : Int32) =>
            if nI (2 ^ N) ≤ x15 then
              if pm = 0 then
                some (x14, z)
              else
                some (x13, z)
            else
              bd (pX7_costOfRows fu z x15) fun r21 =>
              if r21 < x14 then
                g17 x15 r21 (x15 + 1)
              else
                g17 x13 x14 (x15 + 1)) fu 0 1000000000 (nI (2 ^ (N - 1))) = Z
  unfold pX0_leastBoils
  simp only [hA.1, shl_c N (by omega), lt_eq]
  refine csp3 (2 ^ N) (fun i (x1 x2 x3 : Int32) => x3 = nI i ∧ ∃ z2, MNl x2 z2 ∧ (i ≤ 2 ^ (N - 1) → x2 = 2147483647) ∧ (i = 2 ^ N → ∃ v, x2 = nI v ∧ z2 = nI v) ∧ zl3 (fun g17 (x13 : Int32) (x14 : Int32) (x15 : Int32) =>
            if nI (2 ^ N) ≤ x15 then
              if pm = 0 then
                some (x14, z)
              else
                some (x13, z)
            else
              bd (pX7_costOfRows fu z x15) fun r21 =>
              if r21 < x14 then
                g17 x15 r21 (x15 + 1)
              else
                g17 x13 x14 (x15 + 1)) (fu - (i - 2 ^ (N - 1))) x1 z2 (nI (max i (2 ^ (N - 1)))) = Z) (fun u => ∃ r, u = some r ∧ Z = some (r, z)) ?_ fu 0 _ _ _ ⟨rfl, 1000000000, Or.inl ⟨rfl, rfl⟩, fun _ => rfl, fun q => absurd q (by omega), by rw [Nat.zero_sub, Nat.sub_zero, Nat.max_eq_right (by omega)]; exact hZ⟩ (by omega) (by omega)
  rintro i g x1 x2 x3 i1 ⟨rfl, z2, hM, hlo, hhi, hG⟩ hc
  by_cases w : i < 2 ^ N
  · rw [if_neg (nI_ge w (by omega)), nI_1]
    by_cases lo : i < 2 ^ (N - 1)
    · rw [boils_max (fu := fu) h hA hN lo (by omega) hS (by omega), bd_some, hlo (by omega), if_pos (by decide)]
      refine hc _ _ _ w ⟨rfl, z2, ?_, fun _ => rfl, fun q => absurd q (by omega), ?_⟩
      · rw [← hlo (by omega)]; exact hM
      · rw [show i + 1 - 2 ^ (N - 1) = i - 2 ^ (N - 1) by omega, Nat.max_eq_right (by omega)]
        rw [Nat.max_eq_right (by omega)] at hG
        exact hG
    · obtain ⟨a, b, e1, e2, hab, hall⟩ := boils_sim (fu := fu) (x := i) h hA hz hz2 hset hN (top_c N (by omega) hN i (by omega) (by omega) w) (by omega) hS (by omega)
      obtain ⟨fk, hfk⟩ : ∃ fk, fu - (i - 2 ^ (N - 1)) = fk + 1 := ⟨fu - (i - 2 ^ (N - 1)) - 1, by omega⟩
      rw [hfk, zl3, Nat.max_eq_left (by omega), if_neg (nI_ge w (by omega)), e2, bd_some, nI_1] at hG
      rw [e1, bd_some]
      by_cases q : x2 ≤ a
      · rw [if_neg ((hM.st hab).mp q)] at hG
        rw [if_pos q]
        refine hc _ _ _ w ⟨rfl, z2, hM, fun q => absurd q (by omega), fun q2 => ?_, ?_⟩
        · rcases hM with ⟨rfl, rfl⟩ | ⟨v, -, rfl, rfl⟩
          · obtain ⟨v, v1, rfl, -⟩ := hall (fun k hk => all_c N (by omega) k hk i (by omega) q2) hwn
            exact absurd q ((i_nle _ _).mpr (nI_lt (b := 2147483647) (by omega) (by decide)))
          · exact ⟨v, rfl, rfl⟩
        rw [show fu - (i + 1 - 2 ^ (N - 1)) = fk by omega, Nat.max_eq_left (by omega)]
        exact hG
      · rw [if_pos (Decidable.not_not.mp (fun e => q ((hM.st hab).mpr e)))] at hG
        rw [if_neg q]
        refine hc _ _ _ w ⟨rfl, b, hab, fun q => absurd q (by omega), fun q2 => ?_, ?_⟩
        · obtain ⟨v, v1, rfl, rfl⟩ := hall (fun k hk => all_c N (by omega) k hk i (by omega) q2) hwn
          exact ⟨v, rfl, rfl⟩
        rw [show fu - (i + 1 - 2 ^ (N - 1)) = fk by omega, Nat.max_eq_left (by omega)]
        exact hG
  · have e : i = 2 ^ N := by omega
    obtain ⟨fk, hfk⟩ : ∃ fk, fu - (i - 2 ^ (N - 1)) = fk + 1 := ⟨fu - (i - 2 ^ (N - 1)) - 1, by omega⟩
    rw [hfk, zl3, Nat.max_eq_left (by omega), if_pos (nI_le (by omega) (by omega))] at hG
    rw [if_pos (nI_le (by omega) (by omega))]
    obtain ⟨v, rfl, rfl⟩ := hhi e
    rcases hp with ⟨p1, p2⟩ | ⟨p1, p2⟩
    · rw [if_neg p2] at hG
      rw [if_pos p1]
      exact ⟨_, rfl, hG.symm⟩
    · rw [if_pos p2] at hG
      rw [if_neg p1]
      exact ⟨_, rfl, hG.symm⟩
theorem someone_eq {fu N : Nat} {cm wn : Nat → Nat} {d m : Mem} {γ : Type} {T U : Option γ} (h : AX N cm wn d m) (hset : ∀ k, k < 8 → d 1 k = m 2 k) (hfu : 9 < fu) :
    ∃ b, pX2_someoneWantsTooMuch fu d = some b ∧ ((b = 0 ∧ (∀ j, j < N → nI (wn j) ≤ d 1 0) ∧ zl1 (fun g6 (x4 : Int32) =>
      if (m 0 15) ≤ x4 then T
      else
        ck x4 8 <|
        if (m 6 x4.toNatClampNeg) ≤ (m 2 0) then
          lt' (x4 + 1) fun x28 =>
          g6 x28
        else U) fu 0 = T) ∨ (b = 1 ∧ zl1 (fun g6 (x4 : Int32) =>
      if (m 0 15) ≤ x4 then T
      else
        ck x4 8 <|
        if (m 6 x4.toNatClampNeg) ≤ (m 2 0) then
          lt' (x4 + 1) fun x28 =>
          g6 x28
        else U) fu 0 = U)) := by
  obtain ⟨n8, h1, h2, h3⟩ := h
  unfold pX2_someoneWantsTooMuch
  refine csim11 N (fun i (x y : Int32) => x = nI i ∧ y = nI i ∧ ∀ j, j < i → nI (wn j) ≤ d 1 0) (fun (u : Option Int32) (v : Option γ) => ∃ b, u = some b ∧ ((b = 0 ∧ (∀ j, j < N → nI (wn j) ≤ d 1 0) ∧ v = T) ∨ (b = 1 ∧ v = U))) ?_ fu 0 _ _ ⟨rfl, rfl, fun j hj => absurd hj (by omega)⟩ (by omega) (by omega)
  rintro i g hh x y i1 ⟨rfl, rfl, hj⟩ hc
  rw [h1, h2]
  by_cases w : i < N
  · obtain ⟨-, -, -, -, -, a6, a7⟩ := h3 i w
    simp only [if_neg (nI_ge w (show N < 2 ^ 31 by omega)), ck_ok (show i < 8 by omega) (show 8 < 2 ^ 31 by decide), nI_cl (show i < 2 ^ 31 by omega), a6, a7, ← hset 0 (by omega), lt_eq, nI_1]
    by_cases z : nI (wn i) ≤ d 1 0
    · rw [if_pos z, if_pos z]
      refine hc _ _ w ⟨rfl, rfl, fun j hj2 => ?_⟩
      by_cases e : j = i
      · rw [e]; exact z
      · exact hj j (by omega)
    · rw [if_neg z, if_neg z]
      exact ⟨1, rfl, Or.inr ⟨rfl, rfl⟩⟩
  · have e : i = N := by omega
    subst e
    rw [if_pos (nI_le (Nat.le_refl _) (by omega)), if_pos (nI_le (Nat.le_refl _) (by omega))]
    exact ⟨0, rfl, Or.inl ⟨rfl, hj, rfl⟩⟩
theorem least_R {fu : Nat} {f n k le m : Mem} (h : RR f n k le m) (hfu : 1000 < fu) (ar : Mem) (p : Int32) : ∃ r f' ar' m', pX6_least fu f n ar p = some (r, f', ar') ∧ pX7_least fu m p = some (r, m') ∧ RR f' n k le m' := by
  obtain ⟨f2, m2, a1, a2, hr2⟩ := ref2 (fu := fu) h
  obtain ⟨f3, m3, c1, c2, hr3⟩ := ref3 (fu := fu) h
  have hh := h
  obtain ⟨hF, ⟨nn, t, l, hD⟩, -⟩ := hh
  have n8 := hD.1.1
  obtain ⟨cm, wn, hX⟩ := hD.bq.ax
  obtain ⟨A, g1, hA⟩ := X0_take_eq (fu := fu) (A := ar) hX (by omega)
  have hset := hD.bq.2.2.2.1
  have hSR := hD.bq.2.2.2.2.1
  have core : ∀ pc pm : Int32, ((pc = 0 ∧ ¬ pm = 0) ∨ (¬ pc = 0 ∧ pm = 0)) → ∃ r f' ar' m', (bd (pX2_someoneWantsTooMuch fu n) fun r2 =>
    if r2 = 0 then
      bd (pX0_take fu ar n) fun y5 =>
        bd (pX0_leastBoils fu y5 n pc) fun r9 =>
        some (r9, f, y5)
    else
      bd2 (pX6_refuse fu f (-3)) fun r12 y13 =>
      some (r12, y13, ar)) = some (r, f', ar') ∧ zl1 (fun g6 (x4 : Int32) =>
      if (m 0 15) ≤ x4 then
        if (m 0 15) = 0 then
          some ((0 : Int32), m)
        else
          bd (pX7_sorts fu m) fun y10 =>
          lt' ((1 <<< (((y10 0 15) - 1) &&& 31)) : Int32) fun x12 =>
          zl3 (fun g17 (x13 : Int32) (x14 : Int32) (x15 : Int32) =>
            if (1 <<< ((y10 0 15) &&& 31)) ≤ x15 then
              if pm = 0 then
                some (x14, y10)
              else
                some (x13, y10)
            else
              bd (pX7_costOfRows fu y10 x15) fun r21 =>
              if r21 < x14 then
                lt' (x15 + 1) fun x24 =>
                g17 x15 r21 x24
              else
                lt' (x15 + 1) fun x25 =>
                g17 x13 x14 x25) fu 0 1000000000 x12
      else
        ck x4 8 <|
        if (m 6 x4.toNatClampNeg) ≤ (m 2 0) then
          lt' (x4 + 1) fun x28 =>
          g6 x28
        else
          bd2 (pX7_no fu m (-3)) fun r29 y30 =>
          some (r29, y30)) fu 0 = some (r, m') ∧ RR f' n k le m' := by
    intro pc pm hp
    obtain ⟨b, e1, hb⟩ := someone_eq (fu := fu) (T := if (m 0 15) = 0 then
          some ((0 : Int32), m)
        else
          bd (pX7_sorts fu m) fun y10 =>
          lt' ((1 <<< (((y10 0 15) - 1) &&& 31)) : Int32) fun x12 =>
          zl3 (fun g17 (x13 : Int32) (x14 : Int32) (x15 : Int32) =>
            if (1 <<< ((y10 0 15) &&& 31)) ≤ x15 then
              if pm = 0 then
                some (x14, y10)
              else
                some (x13, y10)
            else
              bd (pX7_costOfRows fu y10 x15) fun r21 =>
              if r21 < x14 then
                lt' (x15 + 1) fun x24 =>
                g17 x15 r21 x24
              else
                lt' (x15 + 1) fun x25 =>
                g17 x13 x14 x25) fu 0 1000000000 x12) (U := bd2 (pX7_no fu m (-3)) fun r29 y30 =>
          some (r29, y30)) hX hset (by omega)
    rcases hb with ⟨rfl, hw, e2⟩ | ⟨rfl, e2⟩
    · rw [e2, e1, bd_some, if_pos rfl, g1, bd_some]
      have e15 : m 0 15 = nI nn := hX.2.2.1
      by_cases n0 : nn = 0
      · subst n0
        rw [e15, if_pos (show nI 0 = 0 from rfl)]
        have eB : pX0_leastBoils fu A n pc = some 0 := by
          obtain ⟨f1, rfl⟩ : ∃ f1, fu = f1 + 2 := ⟨fu - 2, by omega⟩
          have b0 : pX0_boilsCost (f1 + 2) A (n 1) 0 = some 0 := by
            unfold pX0_boilsCost
            rw [show f1 + 2 = (f1 + 1) + 1 from rfl, zl5, hA.1, if_pos (show nI 0 ≤ 0 by decide), if_pos (show (0 : Int32) = nI 0 from rfl)]
          unfold pX0_leastBoils
          rw [zl3, hA.1, if_neg (show ¬ (1 <<< (nI 0 &&& 31) : Int32) ≤ 0 by decide), b0, bd_some, if_neg (show ¬ (2147483647 : Int32) ≤ 0 by decide), lt_eq, zl3, if_pos (show (1 <<< (nI 0 &&& 31) : Int32) ≤ 0 + 1 by decide)]
          split <;> rfl
        rw [eB, bd_some]
        exact ⟨_, _, _, _, rfl, rfl, h⟩
      · obtain ⟨z, e3, z1, z2⟩ := X7_sorts_eq (fu := fu) hX (by omega)
        obtain ⟨r, k1, k2⟩ := leastB_sim (fu := fu) hX hA z1 z2 hset (by omega) hSR hw (by omega) pc pm hp
        have ez : z 0 15 = nI nn := by rw [z2 0 (by omega)]; exact e15
        have k2 := k2
        rw [k1, bd_some, e15, if_neg (nI_ne0 (by omega) (by omega)), e3, bd_some, lt_eq]
        refine ⟨_, _, _, _, rfl, ?_, h.r21 z2⟩
        rw [show ((1 : Int32) <<< ((z 0 15 - 1) &&& 31)) = nI (2 ^ (nn - 1)) by rw [ez, show (1 : Int32) = nI 1 from rfl, pk_sub (by omega)]; exact shl_c (nn - 1) (by omega)]
        exact k2
    · rw [e2, e1, bd_some, if_neg i10, c1, c2, bd2_some, bd2_some]
      exact ⟨_, _, _, _, rfl, rfl, hr3⟩
  unfold pX6_least pX7_least
  by_cases q0 : p = 0
  · subst q0
    rw [(isIn_01 fu).1, bd_some, if_neg i10]
    have c := core 1 0 (Or.inr ⟨by decide, rfl⟩)
    simp only [jn1_eq, reduceIte] at c ⊢
    exact c
  · by_cases q1 : p = 1
    · subst q1
      rw [(isIn_01 fu).2, bd_some, if_neg i10]
      have c := core 0 1 (Or.inl ⟨rfl, by decide⟩)
      simp only [jn1_eq, reduceIte, if_neg q0] at c ⊢
      exact c
    · rw [isIn_no1 q0 q1, bd_some, if_pos rfl, a2, bd2_some]
      simp only [jn1_eq]
      rw [if_neg q0, if_neg q1, a1, bd2_some]
      exact ⟨_, _, _, _, rfl, rfl, hr2⟩
