/-! PURE 13: the line served one by one; a minute -/
theorem serve_sim {fu n t : Nat} {d m : Mem} {l : List Nat} {P : Option Mem → Option Mem → Prop} {K H : Mem → Option Mem} (hQ : DQ n d m) (hO : DOK n t d) (hL : LM n d m l) (hC : LC d l) (ht180 : t < 180) (hfu : 8 < fu)
    (hr : ∀ d' m' A, DQ n d' m' → DOK n t d' → LM n d' m' A → LC d' l → A = (l.filter fun j => d' (5 + j) 5 = 1) → ST d m d' m' → P (K d') (H m')) :
    P (zl2 (fun g8 (x5 : Int32) (y6 : Mem) =>
      if (y6 0 5) ≤ x5 then K y6
      else
        ck x5 8 <|
        bd2 (pX2_serve fu y6 (y6 2 x5.toNatClampNeg)) fun r17 y18 =>
        if r17 = 0 then
          ck x5 8 <|
          bd (pX2_boil fu y18 (y18 2 x5.toNatClampNeg)) fun y23 =>
          lt' (x5 + 1) fun x25 =>
          g8 x25 y23
        else
          lt' (x5 + 1) fun x21 =>
          g8 x21 y18) fu 0 d)
     (zl2 (fun g17 (x14 : Int32) (y15 : Mem) =>
      if (y15 0 17) ≤ x14 then H y15
      else
        ck x14 8 <|
        bd2 (pX7_isServed fu y15 (y15 10 x14.toNatClampNeg)) fun r24 y25 =>
        if r24 = 0 then
          lt' (x14 + 1) fun x28 =>
          g17 x28 y25
        else
          bd (pX7_leaves fu y25 x14) fun y29 =>
          g17 x14 y29) fu 0 m) := by
  have n8 := hQ.1
  have ll := hL.len
  have hnd := hL.2.2.1
  refine sim22 l.length (fun i (x : Int32) (y : Mem) (p : Int32) (q : Mem) => i ≤ l.length ∧ x = nI i ∧ ∃ A, p = nI A.length ∧ A = ((l.take i).filter fun j => y (5 + j) 5 = 1) ∧ DQ n y q ∧ DOK n t y ∧ LM n y q (A ++ l.drop i) ∧ LC y l ∧ ST d m y q) P ?_ fu 0 _ _ _ _ ⟨by omega, rfl, [], rfl, by simp, hQ, hO, by simpa using hL, hC, ST.rf⟩ (by omega) (by omega)
  rintro i x y p q ⟨i1, rfl, A, rfl, hA, hQ, hO, hL, hC, hS⟩
  have nA := hL.len
  rw [List.length_append, List.length_drop] at nA
  by_cases c : i < l.length
  · refine Or.inl ⟨c, ?_⟩
    have di : l.drop i = l[i] :: l.drop (i + 1) := List.drop_eq_getElem_cons c
    rw [di] at hL
    have hm := (hL.2.2.2 l[i]).mp (List.mem_append.mpr (Or.inr List.mem_cons_self))
    have lc : l[i] < 8 := by omega
    have e2 : y 2 i = nI l[i] := hC.2 i c
    have lA : (A ++ l[i] :: l.drop (i + 1)).length = A.length + (l.length - i) := by
      rw [List.length_append, List.length_cons, List.length_drop]
      omega
    have e10 : q 10 A.length = nI l[i] := by
      have h := hL.2.1 A.length (by omega)
      rw [h, List.getElem_append_right (Nat.le_refl _)]
      simp
    have e17 : q 0 17 = nI (A.length + (l.length - i)) := by rw [hL.1, lA]
    have nt : l[i] ∉ l.take i := fun h => by
      obtain ⟨k, hk, e⟩ := List.mem_take_iff_getElem.mp h
      have := (List.getElem_inj hnd).mp e
      omega
    have fA : ∀ (y' : Mem) (r : Int32), (∀ j, j < n → y' (5 + j) 5 = if r = 1 ∧ j = l[i] then 2 else y (5 + j) 5) → ((l.take i).filter fun j => decide (y' (5 + j) 5 = 1)) = A := by
      intro y' r h
      rw [hA]
      refine List.filter_congr (fun j hj => ?_)
      have jn : j ≠ l[i] := fun e => nt (e ▸ hj)
      by_cases z : j < n
      · rw [h j z, if_neg (fun e => jn e.2)]
      · exact absurd ((List.mem_of_mem_take hj)) (fun w => z (by
          obtain ⟨a, b, e⟩ := List.getElem_of_mem w
          have := ((‹LM n d m l›).2.2.2 j).mp w
          exact this.1))
    obtain ⟨y', q', hcase⟩ := step_sim hQ hO hL hm.1 hm.2 ht180 hfu
    rcases hcase with ⟨s1, s2, hS1⟩ | ⟨s1, s2, s3, hS1⟩
    · obtain ⟨r1, r2, r3, r4, r5, r6, r7, r8, r9, r10⟩ := hS1
      obtain ⟨z, z1, z2, z3, z4, z5⟩ := X7_leaves_eq (fu := fu) (i := A.length) (m := q') (l := A ++ l[i] :: l.drop (i + 1)) (by rw [r7]; exact hL.1) (by rw [r6]; exact hL.2.1) (by omega) (by omega) hfu
      rw [eraseIdx_app] at z2 z3
      have nd := hL.2.2.1
      have em : EQM q' z := ⟨z5 15 (by omega), z5 16 (by omega), fun o k h1 h2 _ => by rw [z4 o (by omega) (by omega)], fun o k h1 h2 _ => by rw [z4 o (by omega) (by omega)]⟩
      have hf : A = ((l.take (i + 1)).filter fun j => decide (y' (5 + j) 5 = 1)) := by
        rw [take_s c, List.filter_append, fA y' 1 r3]
        have : y' (5 + l[i]) 5 = 2 := by rw [r3 _ hm.1, if_pos ⟨rfl, rfl⟩]
        simp [this]
      refine ⟨nI (i + 1), y', nI A.length, z, fun g => ?_, fun g => ?_, by omega, rfl, A, rfl, hf, r1.cg EQD.rf em, r2, ⟨z2, z3, ?_, ?_⟩, ⟨by rw [r4]; exact hC.1, by rw [r5]; exact hC.2⟩, hS.tr ⟨r9, ⟨fun o h1 h2 => ?_, fun o h1 => ?_, fun k h1 h2 h3 => ?_⟩, fun h => ?_⟩⟩
      · rw [hC.1, if_neg (nI_ge c (by omega)), ck_ok (show i < 8 by omega) (by decide), nI_cl (by omega), e2, s1, bd2_some, if_neg (by decide), lt_eq, nI_1]
      · rw [e17, if_neg (nI_ge (by omega) (by omega)), ck_ok (show A.length < 8 by omega) (by decide), nI_cl (by omega), e10, s2, bd2_some, if_neg (by decide), z1, bd_some]
      · exact nd.sublist (List.Sublist.append_left (List.sublist_cons_self _ _) _)
      · intro j
        have h0 := hL.2.2.2 j
        have nn : l[i] ∉ A ++ l.drop (i + 1) := by
          have := List.nodup_append.mp nd
          intro h
          rcases List.mem_append.mp h with h | h
          · exact this.2.2 _ h _ List.mem_cons_self rfl
          · exact (List.nodup_cons.mp this.2.1).1 h
        by_cases e : j = l[i]
        · subst e
          refine ⟨fun h => absurd h nn, fun h => ?_⟩
          have := h.2
          rw [r3 _ hm.1, if_pos ⟨rfl, rfl⟩] at this
          exact absurd this (by decide)
        · rw [List.mem_append, List.mem_cons] at h0
          rw [List.mem_append]
          refine ⟨fun h => ?_, fun h => ?_⟩
          · have := h0.mp (h.elim Or.inl (fun w => Or.inr (Or.inr w)))
            refine ⟨this.1, ?_⟩
            rw [r3 j this.1, if_neg (fun w => e w.2)]
            exact this.2
          · have hh := h.2
            rw [r3 j h.1, if_neg (fun w => e w.2)] at hh
            rcases h0.mpr ⟨h.1, hh⟩ with w | w | w
            · exact Or.inl w
            · exact absurd w e
            · exact Or.inr w
      · rw [z4 o (by omega) (by omega)]
        exact r10.1 o h1 h2
      · rw [z4 o (by omega) (by omega)]
        exact r10.2.1 o h1
      · rw [z5 k h2]
        exact r10.2.2 k h1 h2 h3
      · rw [z5 18 (by omega)]
        exact r8 h
    · obtain ⟨r1, r2, r3, r4, r5, r6, r7, r8, r9, r10⟩ := hS1
      have r3' : ∀ j, j < n → y' (5 + j) 5 = y (5 + j) 5 := fun j hj => by rw [r3 j hj, if_neg (fun w => absurd w.1 (by decide))]
      have hf : A ++ [l[i]] = ((l.take (i + 1)).filter fun j => decide (y' (5 + j) 5 = 1)) := by
        rw [take_s c, List.filter_append, fA y' 0 r3]
        have : y' (5 + l[i]) 5 = 1 := by rw [r3' _ hm.1]; exact hm.2
        simp [this]
      refine ⟨nI (i + 1), y', nI (A.length + 1), q', fun g => ?_, fun g => ?_, by omega, rfl, A ++ [l[i]], by rw [List.length_append, List.length_singleton], hf, r1, r2, ?_, ⟨by rw [r4]; exact hC.1, by rw [r5]; exact hC.2⟩, hS.tr ⟨r9, r10, r8⟩⟩
      · simp only [hC.1, if_neg (nI_ge c (show l.length < 2 ^ 31 by omega)), ck_ok (show i < 8 by omega) (show 8 < 2 ^ 31 by decide), nI_cl (show i < 2 ^ 31 by omega), e2, s1, bd2_some, s2, bd_some, lt_eq, nI_1]
        rfl
      · rw [e17, if_neg (nI_ge (by omega) (by omega)), ck_ok (show A.length < 8 by omega) (by decide), nI_cl (by omega), e10, s3, bd2_some, if_pos rfl, lt_eq, nI_1]
      · rw [List.append_assoc, List.singleton_append]
        refine ⟨by rw [r7]; exact hL.1, by rw [r6]; exact hL.2.1, hL.2.2.1, fun j => (hL.2.2.2 j).trans ⟨fun w => ⟨w.1, by rw [r3' j w.1]; exact w.2⟩, fun w => ⟨w.1, by rw [← r3' j w.1]; exact w.2⟩⟩⟩
  · have e : i = l.length := by omega
    subst e
    rw [List.drop_length, List.append_nil] at hL
    rw [List.take_length] at hA
    refine Or.inr (fun g h => ?_)
    rw [hC.1, if_pos (nI_le (Nat.le_refl _) (by omega)), hL.1, if_pos (nI_le (Nat.le_refl _) (by omega))]
    exact hr _ _ A hQ hO hL hC hA hS
theorem minute_sim {fu n t : Nat} {d m : Mem} {l : List Nat} (hQ : DQ n d m) (hO : DOK n t d) (hL : LM n d m l) (hC : LC d l) (ht180 : t < 180) (hfu : 8 < fu) :
    ∃ d' m' l', pX2_passMinute fu d = some d' ∧ pX7_goesMinute fu m = some m' ∧ DQ n d' m' ∧ DOK n (t + 1) d' ∧ LM n d' m' l' ∧ LC d' l' ∧ ST d m d' m' := by
  have n8 := hQ.1
  unfold pX2_passMinute pX7_goesMinute
  refine lineUp_sim (P := fun a b => ∃ d' m' l', a = some d' ∧ b = some m' ∧ DQ n d' m' ∧ DOK n (t + 1) d' ∧ LM n d' m' l' ∧ LC d' l' ∧ ST d m d' m') hQ hO hL hC hfu ?_
  intro d1 m1 l1 hQ1 hO1 hL1 hC1 hS1
  have ll := hL1.len
  have h8 : ∀ j ∈ l1, j < 8 := fun j hj => by have := ((hL1.2.2.2 j).mp hj).1; omega
  obtain ⟨d2, e1, c1, c2, c3, c4⟩ := X2_lose_eq (fu := fu) hC1 (by omega) h8 (fun j hj => ((hL1.2.2.2 j).mp hj).2) hL1.2.2.1 hfu
  rw [e1, bd_some, lt_eq]
  refine back_eq (n := n) (t := t) (P := fun b => ∃ d' m' l', _ = some d' ∧ b = some m' ∧ DQ n d' m' ∧ DOK n (t + 1) d' ∧ LM n d' m' l' ∧ LC d' l' ∧ ST d m d' m') hQ1 hL1 hfu ?_
  intro m2 b1 b2 b3 b4 b5 b6
  obtain ⟨hQ2, hO2, hL2, hS2⟩ := lose_rel hQ1 hO1 hL1 c1 c2 c3 c4 b1 b2 b3 b4 b5 b6
  refine serve_sim (P := fun a b => ∃ d' m' l', a = some d' ∧ b = some m' ∧ DQ n d' m' ∧ DOK n (t + 1) d' ∧ LM n d' m' l' ∧ LC d' l' ∧ ST d m d' m') hQ2 hO2 hL2 c1 ht180 hfu ?_
  intro d3 m3 A hQ3 hO3 hL3 hC3 hA hS3
  have lA := hL3.len
  obtain ⟨d4, f1, f2, f3, f4⟩ := X2_closeUp_eq (fu := fu) hC3 (by have := hL2.len; omega) (fun j hj => by have := ((hL2.2.2.2 j).mp hj).1; omega) hfu
  rw [← hA] at f2
  have ed : EQD n d3 d4 := ⟨f4 4 (by omega), f4 6 (by omega), fun i _ => by rw [f3 1 (by omega) (by omega)], fun j _ i _ => by rw [f3 _ (by omega) (by omega)], fun i _ => ⟨by rw [f3 3 (by omega) (by omega)], by rw [f3 4 (by omega) (by omega)]⟩⟩
  have hL4 : LM n d4 m3 A := ⟨hL3.1, hL3.2.1, hL3.2.2.1, fun j => by rw [f3 _ (by omega) (by omega)]; exact hL3.2.2.2 j⟩
  have hS4 : ST d3 m3 d4 m3 := ⟨⟨f3 1 (by omega) (by omega), f4 4 (by omega), fun j i _ => by rw [f3 _ (by omega) (by omega)]⟩, FM.rf, fun h => by rw [f4 7 (by omega)]; exact h⟩
  obtain ⟨d5, m5, g1, g2, hQ5, hO5, hL5, hC5, hS5⟩ := cool_sim (fu := fu) (hQ3.cg ed EQM.rf) (hO3.cg ed) hL4 f2 hfu
  obtain ⟨r1, r2, r3, r4, r5⟩ := min_upd hQ5 hO5 hL5 hC5 ht180
  rw [f1, bd_some, g1, bd_some, lt_eq, g2, bd_some, lt_eq, ← hQ5.2.2.2.1, hO5.1, nI_1]
  exact ⟨_, _, A, rfl, rfl, r1, r2, r3, r4, hS1.tr (hS2.tr (hS3.tr (hS4.tr (hS5.tr r5))))⟩
