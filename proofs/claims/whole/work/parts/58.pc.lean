/-! PURE 12: a minute goes by -/
theorem lineUp_sim {fu n t : Nat} {d m : Mem} {l : List Nat} {P : Option Mem → Option Mem → Prop} {K H : Mem → Option Mem} (hQ : DQ n d m) (hO : DOK n t d) (hL : LM n d m l) (hC : LC d l) (hfu : 8 < fu)
    (hr : ∀ d' m' l', DQ n d' m' → DOK n t d' → LM n d' m' l' → LC d' l' → ST d m d' m' → P (K d') (H m')) :
    P (bd (pX2_lineUp fu d) K) (zl2 (fun g4 (x1 : Int32) (y2 : Mem) =>
      if (y2 0 15) ≤ x1 then H y2
      else
        ck x1 8 <|
        if (y2 8 x1.toNatClampNeg) = 0 then
          ck x1 8 <|
          if (y2 5 x1.toNatClampNeg) = (y2 0 16) then
            ck x1 8 <|
            lt' (up2 y2 8 x1.toNatClampNeg 1) fun y50 =>
            ck (y50 0 17) 8 <|
            lt' (up2 y50 10 (y50 0 17).toNatClampNeg x1) fun y52 =>
            lt' (up2 y52 0 17 ((y52 0 17) + 1)) fun y54 =>
            lt' (x1 + 1) fun x55 =>
            g4 x55 y54
          else
            lt' (x1 + 1) fun x56 =>
            g4 x56 y2
        else
          lt' (x1 + 1) fun x47 =>
          g4 x47 y2) fu 0 m) := by
  unfold pX2_lineUp
  refine sim22 n (fun j (x : Int32) (y : Mem) (p : Int32) (q : Mem) => j ≤ n ∧ x = nI j ∧ p = nI j ∧ ∃ l', DQ n y q ∧ DOK n t y ∧ LM n y q l' ∧ LC y l' ∧ ST d m y q) (fun (a b : Option Mem) => P (bd a K) b) ?_ fu 0 _ _ _ _ ⟨by omega, rfl, rfl, l, hQ, hO, hL, hC, ST.rf⟩ (by have := hQ.1; omega) (by omega)
  rintro j x y p q ⟨j2, rfl, rfl, l', hQ, hO, hL, hC, hS⟩
  have n8 := hQ.1
  by_cases c : j < n
  · refine Or.inl ⟨c, ?_⟩
    have hr := hQ.2.2.2.2.2.1 j c
    have k1 := hQ.2.1
    have k2 := hQ.2.2.1
    have kt := hQ.2.2.2.1
    by_cases s : y (5 + j) 5 = 0
    · by_cases u : y (5 + j) 2 = y 0 6
      · obtain ⟨y', q', e1, e2, r1, r2, r3, r4, r5, -⟩ := lineup_upd hQ hO hL hC c s u
        have ll : l'.length < 8 := by
          have h1 := r3.len
          rw [List.length_append, List.length_singleton] at h1
          omega
        refine ⟨nI (j + 1), y', nI (j + 1), q', fun g => ?_, fun g => ?_, by omega, rfl, rfl, _, r1, r2, r3, r4, hS.tr r5⟩
        · rw [k1, if_neg (nI_ge c (by omega))]
          simp only [ck_ok (show j < 8 by omega) (show 8 < 2 ^ 31 by decide), nI_cl (show j < 2 ^ 31 by omega), if_pos s, if_pos u, show ∀ (x : Mem) (a b : Nat) (v : Int32) (c : Nat), up2 x (5 + a) b v 0 c = x 0 c from fun x a b v c => up2_row (by omega), show ∀ (x : Mem) (b : Nat) (v : Int32) (c : Nat), up2 x 2 b v 0 c = x 0 c from fun x b v c => up2_row (by omega), show ∀ (x : Mem) (b : Nat) (v : Int32) (c : Nat), up2 x 8 b v 0 c = x 0 c from fun x b v c => up2_row (by omega), show ∀ (x : Mem) (b : Nat) (v : Int32) (c : Nat), up2 x 10 b v 0 c = x 0 c from fun x b v c => up2_row (by omega), hC.1, if_neg (show ¬ 8 ≤ nI l'.length from nI_ge ll (by decide)), lt_eq, ck_ok ll (show 8 < 2 ^ 31 by decide), nI_cl (show l'.length < 2 ^ 31 by omega), nI_1, e1]
        · rw [k2, if_neg (nI_ge c (by omega))]
          simp only [ck_ok (show j < 8 by omega) (show 8 < 2 ^ 31 by decide), nI_cl (show j < 2 ^ 31 by omega), ← hr.2.2.2.2.2.1, if_pos s, ← hr.2.2.1, ← kt, if_pos u, show ∀ (x : Mem) (a b : Nat) (v : Int32) (c : Nat), up2 x (5 + a) b v 0 c = x 0 c from fun x a b v c => up2_row (by omega), show ∀ (x : Mem) (b : Nat) (v : Int32) (c : Nat), up2 x 2 b v 0 c = x 0 c from fun x b v c => up2_row (by omega), show ∀ (x : Mem) (b : Nat) (v : Int32) (c : Nat), up2 x 8 b v 0 c = x 0 c from fun x b v c => up2_row (by omega), show ∀ (x : Mem) (b : Nat) (v : Int32) (c : Nat), up2 x 10 b v 0 c = x 0 c from fun x b v c => up2_row (by omega), hL.1, lt_eq, ck_ok ll (show 8 < 2 ^ 31 by decide), nI_cl (show l'.length < 2 ^ 31 by omega), nI_1, e2]
      · refine ⟨nI (j + 1), y, nI (j + 1), q, fun g => ?_, fun g => ?_, by omega, rfl, rfl, _, hQ, hO, hL, hC, hS⟩
        · rw [k1, if_neg (nI_ge c (by omega))]
          simp only [ck_ok (show j < 8 by omega) (show 8 < 2 ^ 31 by decide), nI_cl (show j < 2 ^ 31 by omega), if_pos s, if_neg u, lt_eq, nI_1]
        · rw [k2, if_neg (nI_ge c (by omega))]
          simp only [ck_ok (show j < 8 by omega) (show 8 < 2 ^ 31 by decide), nI_cl (show j < 2 ^ 31 by omega), ← hr.2.2.2.2.2.1, if_pos s, ← hr.2.2.1, ← kt, if_neg u, lt_eq, nI_1]
    · refine ⟨nI (j + 1), y, nI (j + 1), q, fun g => ?_, fun g => ?_, by omega, rfl, rfl, _, hQ, hO, hL, hC, hS⟩
      · rw [k1, if_neg (nI_ge c (by omega))]
        simp only [ck_ok (show j < 8 by omega) (show 8 < 2 ^ 31 by decide), nI_cl (show j < 2 ^ 31 by omega), if_neg s, lt_eq, nI_1]
      · rw [k2, if_neg (nI_ge c (by omega))]
        simp only [ck_ok (show j < 8 by omega) (show 8 < 2 ^ 31 by decide), nI_cl (show j < 2 ^ 31 by omega), ← hr.2.2.2.2.2.1, if_neg s, lt_eq, nI_1]
  · have e : j = n := by omega
    subst e
    refine Or.inr (fun g h => ?_)
    rw [hQ.2.1, hQ.2.2.1, if_pos (nI_le (Nat.le_refl _) (by omega)), if_pos (nI_le (Nat.le_refl _) (by omega)), bd_some]
    exact hr _ _ _ hQ hO hL hC hS
theorem eraseIdx_app {A R : List Nat} {c : Nat} : (A ++ c :: R).eraseIdx A.length = A ++ R := by
  rw [List.eraseIdx_append_of_length_le (Nat.le_refl _), Nat.sub_self]
  rfl
/-- the model's loop from the line's end -/
theorem back_eq {fu : Nat} {n t : Nat} {d m : Mem} {l : List Nat} {P : Option Mem → Prop} {H : Mem → Option Mem} (hQ : DQ n d m) (hL : LM n d m l) (hfu : 8 < fu)
    (hr : ∀ m', m' 0 17 = nI (l.filter fun j => !gof d j).length → lineIs (m' 10) (l.filter fun j => !gof d j) → (∀ o, o ≠ 0 → o ≠ 8 → o ≠ 9 → o ≠ 10 → m' o = m o) → (∀ k, k ≠ 17 → m' 0 k = m 0 k) → (∀ j, m' 8 j = if j ∈ l ∧ gof d j = true then 3 else m 8 j) → (∀ j, m' 9 j = if j ∈ l ∧ gof d j = true then m 7 j else m 9 j) → P (H m')) :
    P (zl2 (fun g11 (x8 : Int32) (y9 : Mem) =>
        if x8 < 0 then H y9
        else
          ck x8 8 <|
          lt' ((y9 10 x8.toNatClampNeg) : Int32) fun x32 =>
          ck x32 8 <|
          ck x32 8 <|
          if (y9 7 x32.toNatClampNeg) < ((y9 0 16) - (y9 5 x32.toNatClampNeg)) then
            ck x32 8 <|
            lt' (up2 y9 8 x32.toNatClampNeg 3) fun y36 =>
            ck x32 8 <|
            ck x32 8 <|
            lt' (up2 y36 9 x32.toNatClampNeg (y36 7 x32.toNatClampNeg)) fun y39 =>
            bd (pX7_leaves fu y39 x8) fun y41 =>
            lt' (x8 + (-1)) fun x43 =>
            g11 x43 y41
          else
            lt' (x8 + (-1)) fun x44 =>
            g11 x44 y9) fu (m 0 17 - 1) m) := by
  have n8 := hQ.1
  have ll := hL.len
  have hnd := hL.2.2.1
  have h8 : ∀ j ∈ l, j < n := fun j hj => ((hL.2.2.2 j).mp hj).1
  refine sp2 l.length (fun i (x : Int32) (y : Mem) => i ≤ l.length ∧ x = nI (l.length - i) + (-1) ∧ y 0 17 = nI (l.take (l.length - i) ++ (l.drop (l.length - i)).filter fun j => !gof d j).length ∧ lineIs (y 10) (l.take (l.length - i) ++ (l.drop (l.length - i)).filter fun j => !gof d j) ∧ (∀ o, o ≠ 0 → o ≠ 8 → o ≠ 9 → o ≠ 10 → y o = m o) ∧ (∀ k, k ≠ 17 → y 0 k = m 0 k) ∧ (∀ j, y 8 j = if j ∈ l.drop (l.length - i) ∧ gof d j = true then 3 else m 8 j) ∧ (∀ j, y 9 j = if j ∈ l.drop (l.length - i) ∧ gof d j = true then m 7 j else m 9 j)) P ?_ fu 0 _ _ ⟨by omega, ?_, ?_, ?_, fun _ _ _ _ _ => rfl, fun _ _ => rfl, ?_, ?_⟩ (by omega) (by omega)
  · rintro i x y ⟨i1, rfl, y17, y10, yo, y0, y8, y9⟩
    by_cases c : i < l.length
    · refine Or.inl ⟨c, ?_⟩
      obtain ⟨k, hk⟩ : ∃ k, l.length - i = k + 1 := ⟨l.length - i - 1, by omega⟩
      have hk' : l.length - (i + 1) = k := by omega
      have kl : k < l.length := by omega
      have dk : l.drop k = l[k] :: l.drop (k + 1) := List.drop_eq_getElem_cons kl
      rw [hk] at y17 y10 y8 y9 ⊢
      rw [hk']
      have tk := take_s kl
      have lk := h8 _ (List.getElem_mem kl)
      rw [tk, List.append_assoc, List.singleton_append] at y17 y10
      have tl : (l.take k).length = k := List.length_take_of_le (by omega)
      have e10 : y 10 k = nI l[k] := by
        have h := y10 k (by rw [List.length_append, tl, List.length_cons]; omega)
        rw [h, List.getElem_append_right (by omega)]
        simp [tl]
      have nk : l[k] ∉ l.drop (k + 1) := by
        have := hnd.sublist (List.drop_sublist k l)
        rw [dk] at this
        exact (List.nodup_cons.mp this).1
      have hr2 := hQ.2.2.2.2.2.1 l[k] lk
      have g7 : y 7 l[k] = d (5 + l[k]) 4 := by rw [yo 7 (by omega) (by omega) (by omega) (by omega), hr2.2.2.2.2.1]
      have g5 : y 5 l[k] = d (5 + l[k]) 2 := by rw [yo 5 (by omega) (by omega) (by omega) (by omega), hr2.2.2.1]
      have g16 : y 0 16 = d 0 6 := by rw [y0 16 (by omega), hQ.2.2.2.1]
      have nle : ∀ a b : Int32, b < a ↔ ¬ a ≤ b := fun a b => by rw [i_lt, i_le]; omega
      by_cases p : gof d l[k] = true
      · have ld : ∀ (A : List Nat) (v : Nat), ((l.take k ++ l[k] :: A).length ≤ 8) → True := fun _ _ _ => trivial
        have fl : ((l.drop (k + 1)).filter fun j => !gof d j).length ≤ l.length - (k + 1) := by
          refine Nat.le_trans (List.length_filter_le _ _) ?_
          rw [List.length_drop]
          omega
        obtain ⟨q, e1, e2, e3, e4, e5⟩ := X7_leaves_eq (fu := fu) (i := k) (m := up2 (up2 y 8 l[k] 3) 9 l[k] (y 7 l[k])) (l := l.take k ++ l[k] :: (l.drop (k + 1)).filter fun j => !gof d j) (by rw [up2_row (by omega), up2_row (by omega)]; exact y17) (by rw [up2_rw, if_neg (by omega), up2_rw, if_neg (by omega)]; exact y10) (by rw [List.length_append, List.length_cons, tl]; omega) (by rw [List.length_append, List.length_cons, tl]; omega) hfu
        have er : (l.take k ++ l[k] :: (l.drop (k + 1)).filter fun j => !gof d j).eraseIdx k = l.take k ++ (l.drop k).filter fun j => !gof d j := by
          have := eraseIdx_app (A := l.take k) (R := (l.drop (k + 1)).filter fun j => !gof d j) (c := l[k])
          rw [tl] at this
          rw [this, dk, List.filter_cons]
          simp [p]
        rw [er] at e2 e3
        refine ⟨nI k + (-1), q, fun g => ?_, by omega, rfl, e2, e3, ?_, ?_, ?_, ?_⟩
        · rw [pk_m1, if_neg (nI_pos (by omega)), ck_ok (show k < 8 by omega) (by decide), nI_cl (by omega), e10]
          simp only [lt_eq, ck_ok (show l[k] < 8 by omega) (show 8 < 2 ^ 31 by decide), nI_cl (show l[k] < 2 ^ 31 by omega), g7, g16, g5, if_pos ((nle _ _).mpr (gof_t.mp p)), show ∀ v : Int32, up2 y 8 l[k] v 7 l[k] = y 7 l[k] from fun v => up2_row (by omega)]
          rw [g7] at e1
          rw [e1, bd_some]
        · intro o h0 h8 h9 h10
          rw [e4 o h0 h10, up2_rw, if_neg h9, up2_rw, if_neg h8]
          exact yo o h0 h8 h9 h10
        · intro k1 hk1
          rw [e5 k1 hk1, up2_row (by omega), up2_row (by omega)]
          exact y0 k1 hk1
        · intro j
          rw [e4 8 (by omega) (by omega), up2_rw, if_neg (by omega), up2_rw, if_pos rfl, dk]
          by_cases e : j = l[k]
          · subst e
            rw [pk_us, if_pos ⟨List.mem_cons_self, p⟩]
          · rw [pk_un e, y8]
            simp only [List.mem_cons, e, false_or]
        · intro j
          rw [e4 9 (by omega) (by omega), up2_rw, if_pos rfl, up2_rw, if_neg (by omega), dk]
          by_cases e : j = l[k]
          · subst e
            rw [pk_us, if_pos ⟨List.mem_cons_self, p⟩, yo 7 (by omega) (by omega) (by omega) (by omega)]
          · rw [pk_un e, y9]
            simp only [List.mem_cons, e, false_or]
      · have er : l.take k ++ l[k] :: (l.drop (k + 1)).filter (fun j => !gof d j) = l.take k ++ (l.drop k).filter fun j => !gof d j := by
          rw [dk, List.filter_cons]
          simp [p]
        rw [er] at y17 y10
        refine ⟨nI k + (-1), y, fun g => ?_, by omega, rfl, y17, y10, yo, y0, ?_, ?_⟩
        · rw [pk_m1, if_neg (nI_pos (by omega)), ck_ok (show k < 8 by omega) (by decide), nI_cl (by omega), e10]
          simp only [lt_eq, ck_ok (show l[k] < 8 by omega) (show 8 < 2 ^ 31 by decide), nI_cl (show l[k] < 2 ^ 31 by omega), g7, g16, g5, if_neg (fun z => (nle _ _).mp z (gof_f.mp p))]
        · intro j
          rw [y8, dk]
          by_cases e : j = l[k]
          · subst e
            rw [if_neg (fun z => p z.2), if_neg (fun z => p z.2)]
          · simp only [List.mem_cons, e, false_or]
        · intro j
          rw [y9, dk]
          by_cases e : j = l[k]
          · subst e
            rw [if_neg (fun z => p z.2), if_neg (fun z => p z.2)]
          · simp only [List.mem_cons, e, false_or]
    · have e : i = l.length := by omega
      subst e
      rw [Nat.sub_self] at y17 y10 y8 y9 ⊢
      refine Or.inr (fun g => ?_)
      rw [if_pos (by decide)]
      exact hr y y17 y10 yo y0 y8 y9
  · rw [hL.1, Int32.sub_eq_add_neg]
    rfl
  · rw [Nat.sub_zero, List.take_length, List.drop_length]
    simpa using hL.1
  · rw [Nat.sub_zero, List.take_length, List.drop_length]
    simpa using hL.2.1
  · intro j
    simp
  · intro j
    simp
