/-! PURE 32: both sides answer alike, on every script -/
theorem csp9 {α1 α2 α3 α4 α5 α6 α7 α8 α9 γ : Type} {F : (α1 → α2 → α3 → α4 → α5 → α6 → α7 → α8 → α9 → Option γ) → α1 → α2 → α3 → α4 → α5 → α6 → α7 → α8 → α9 → Option γ} (n : Nat) (Inv : Nat → α1 → α2 → α3 → α4 → α5 → α6 → α7 → α8 → α9 → Prop) (Post : Option γ → Prop)
    (hs : ∀ i g a b c d e p q r s, i ≤ n → Inv i a b c d e p q r s → (∀ a' b' c' d' e' p' q' r' s', i < n → Inv (i + 1) a' b' c' d' e' p' q' r' s' → Post (g a' b' c' d' e' p' q' r' s')) → Post (F g a b c d e p q r s)) : ∀ (fu i : Nat) a b c d e p q r s, Inv i a b c d e p q r s → n < fu + i → i ≤ n → Post (zl9 F fu a b c d e p q r s) := by
  intro fu
  induction fu with
  | zero => intro i a b c d e p q r s _ h1 h2; omega
  | succ fu ih =>
    intro i a b c d e p q r s h0 h1 h2
    exact hs i _ a b c d e p q r s h2 h0 (fun a' b' c' d' e' p' q' r' s' h3 h4 => ih (i + 1) a' b' c' d' e' p' q' r' s' h4 (by omega) (by omega))
theorem start_D : DAYR 0 0 d0 mm0 [] := by
  refine ⟨⟨by omega, rfl, rfl, rfl, fun k hk => ?_, fun j hj => absurd hj (by omega), ?_, ?_⟩, ⟨rfl, by omega, ?_, fun j hj => absurd hj (by omega), ⟨⟨0, by omega, by omega, rfl⟩, ⟨0, by omega, by omega, rfl⟩, ⟨0, by omega, by omega, rfl⟩⟩, ⟨⟨0, by omega, by omega, rfl⟩, ⟨0, by omega, by omega, rfl⟩, ⟨0, by omega, by omega, rfl⟩⟩, fun _ => ⟨rfl, rfl, rfl, rfl⟩⟩, fun _ => ⟨rfl, rfl, rfl, rfl, rfl, rfl, rfl, rfl⟩, ⟨rfl, fun k hk => absurd hk (by simp), List.nodup_nil, fun j => ⟨fun q => absurd q List.not_mem_nil, fun q => absurd q.1 (by omega)⟩⟩, ⟨rfl, fun k hk => absurd hk (by simp)⟩⟩
  · rcases (show k = 0 ∨ k = 1 ∨ k = 2 ∨ k = 3 ∨ k = 4 ∨ k = 5 ∨ k = 6 ∨ k = 7 by omega) with rfl | rfl | rfl | rfl | rfl | rfl | rfl | rfl <;> rfl
  · exact ⟨rfl, rfl, rfl, rfl, fun q => absurd (show (0 : Int32) < 0 from q) (by decide)⟩
  · exact ⟨rfl, rfl, rfl, rfl, fun q => absurd (show (0 : Int32) < 0 from q) (by decide)⟩
  · exact ⟨⟨8, by omega, by omega, rfl⟩, ⟨1, by omega, by omega, rfl⟩, ⟨4, by omega, by omega, rfl⟩, ⟨3, by omega, by omega, rfl⟩, ⟨1, by omega, by omega, rfl⟩, ⟨2, by omega, by omega, rfl⟩, ⟨3, by omega, by omega, rfl⟩, Or.inl rfl⟩
theorem start_R : RR m0 d0 d0 m0 mm0 := ⟨⟨⟨0, by omega, rfl, rfl, fun i hi => absurd hi (by omega)⟩, fun i _ _ => rfl, rfl⟩, ⟨0, 0, [], start_D⟩, Or.inl rfl, ⟨0, by omega, rfl, rfl, fun i hi => absurd hi (by omega)⟩⟩
/-- what both sides answer, on every script -/
theorem pure_all {L : Nat} (hL : L ≤ 2048) (xs : Nat → Int32) : pL_law 5000 L xs m0 d0 d0 m0 d0 m0 m0 mm0 0 = some 1 := by
  have hfu : 200 < 5000 := by omega
  have hfu2 : 1000 < 5000 := by omega
  unfold pL_law
  generalize hF : 5000 = fu at hfu hfu2
  refine csp9 513 (fun i (x : Int32) (f n k mi md ar le m : Mem) => x = nI (4 * i) ∧ RR f n k le m) (fun z => z = some 1) ?_ fu 0 _ _ _ _ _ _ _ _ _ ⟨rfl, start_R⟩ (by omega) (by omega)
  rintro i g x f n k mi md ar le m i513 ⟨rfl, hR⟩ hc
  have i4 : 4 * i < 2 ^ 30 := by omega
  by_cases w : 4 * i + 4 ≤ L
  · have hi : i < 513 := by omega
    have g0 : ¬ Int32.ofNat L - 4 < nI (4 * i) := by
      rw [show Int32.ofNat L = nI L from rfl, show (4 : Int32) = nI 4 from rfl, pk_sub (by omega)]
      exact nI_nlt (by omega) (by omega)
    have a1 : nI (4 * i) + 1 = nI (4 * i + 1) := nI_1 _
    have a2 : nI (4 * i) + 2 = nI (4 * i + 2) := by rw [show (2 : Int32) = nI 2 from rfl, nI_add]
    have a3 : nI (4 * i) + 3 = nI (4 * i + 3) := by rw [show (3 : Int32) = nI 3 from rfl, nI_add]
    have a4 : nI (4 * i) + 4 = nI (4 * (i + 1)) := by rw [show (4 : Int32) = nI 4 from rfl, nI_add]; rfl
    rw [if_neg g0]
    simp only [a1, a2, a3, a4, lt_eq, ck_ok (show 4 * i < L by omega) (show L < 2 ^ 31 by omega), ck_ok (show 4 * i + 1 < L by omega) (show L < 2 ^ 31 by omega), ck_ok (show 4 * i + 2 < L by omega) (show L < 2 ^ 31 by omega), ck_ok (show 4 * i + 3 < L by omega) (show L < 2 ^ 31 by omega), nI_cl (show 4 * i < 2 ^ 31 by omega), nI_cl (show 4 * i + 1 < 2 ^ 31 by omega), nI_cl (show 4 * i + 2 < 2 ^ 31 by omega), nI_cl (show 4 * i + 3 < 2 ^ 31 by omega)]
    generalize xs (4 * i) &&& 31 = o
    generalize xs (4 * i + 1) = p
    generalize xs (4 * i + 2) = q
    generalize xs (4 * i + 3) = r
    by_cases o0 : o = 0
    · obtain ⟨r0, f', le', m', e1, e2, hR'⟩ := feed_R (fu := fu) hR p
      rw [if_pos o0, e1, bd3_some, e2, bd2_some, if_pos rfl]
      exact hc _ _ _ _ _ _ _ _ _ hi ⟨rfl, hR'⟩
    rw [if_neg o0]
    by_cases o1 : o = 1
    · obtain ⟨r0, n', md', le', m', e1, e2, hR'⟩ := office_R (fu := fu) hR hfu md
      rw [if_pos o1, e1, bd4_some, e2, bd2_some, if_pos rfl]
      exact hc _ _ _ _ _ _ _ _ _ hi ⟨rfl, hR'⟩
    rw [if_neg o1]
    by_cases o2 : o = 2
    · obtain ⟨r0, f', m', e1, e2, hR'⟩ := comer_R (fu := fu) hR hfu p q
      rw [if_pos o2, e1, bd2_some, e2, bd2_some, if_pos rfl]
      exact hc _ _ _ _ _ _ _ _ _ hi ⟨rfl, hR'⟩
    rw [if_neg o2]
    by_cases o3 : o = 3
    · obtain ⟨r0, f', n', m', e1, e2, hR'⟩ := kind_R (fu := fu) hR p q r
      rw [if_pos o3, e1, bd3_some, e2, bd2_some, if_pos rfl]
      exact hc _ _ _ _ _ _ _ _ _ hi ⟨rfl, hR'⟩
    rw [if_neg o3]
    by_cases o4 : o = 4
    · obtain ⟨r0, f', m', e1, e2, hR'⟩ := kettle_R (fu := fu) hR p q
      rw [if_pos o4, e1, bd2_some, e2, bd2_some, if_pos rfl]
      exact hc _ _ _ _ _ _ _ _ _ hi ⟨rfl, hR'⟩
    rw [if_neg o4]
    by_cases o5 : o = 5
    · obtain ⟨r0, f', n', m', e1, e2, hR'⟩ := set_R (fu := fu) hR hfu p q
      rw [if_pos o5, e1, bd3_some, e2, bd2_some, if_pos rfl]
      exact hc _ _ _ _ _ _ _ _ _ hi ⟨rfl, hR'⟩
    rw [if_neg o5]
    by_cases o6 : o = 6
    · obtain ⟨r0, f', n', m', e1, e2, hR'⟩ := go_R (fu := fu) hR hfu p
      rw [if_pos o6, e1, bd3_some, e2, bd2_some, if_pos rfl]
      exact hc _ _ _ _ _ _ _ _ _ hi ⟨rfl, hR'⟩
    rw [if_neg o6]
    by_cases o7 : o = 7
    · obtain ⟨r0, n', m', e1, e2, hR'⟩ := anew_R (fu := fu) hR hfu
      rw [if_pos o7, e1, bd2_some, e2, bd2_some, if_pos rfl]
      exact hc _ _ _ _ _ _ _ _ _ hi ⟨rfl, hR'⟩
    rw [if_neg o7]
    by_cases o8 : o = 8
    · obtain ⟨r0, f', m', e1, e2, hR'⟩ := line_R (fu := fu) hR p
      rw [if_pos o8, e1, bd2_some, e2, bd2_some, if_pos rfl]
      exact hc _ _ _ _ _ _ _ _ _ hi ⟨rfl, hR'⟩
    rw [if_neg o8]
    by_cases o9 : o = 9
    · obtain ⟨r0, f', md', m', e1, e2, hR'⟩ := rest_R (fu := fu) hR hfu md p
      rw [if_pos o9, e1, bd3_some, e2, bd2_some, if_pos rfl]
      exact hc _ _ _ _ _ _ _ _ _ hi ⟨rfl, hR'⟩
    rw [if_neg o9]
    by_cases o10 : o = 10
    · obtain ⟨r0, f', md', m', e1, e2, hR'⟩ := when_R (fu := fu) hR hfu md p
      rw [if_pos o10, e1, bd3_some, e2, bd2_some, if_pos rfl]
      exact hc _ _ _ _ _ _ _ _ _ hi ⟨rfl, hR'⟩
    rw [if_neg o10]
    by_cases o11 : o = 11
    · obtain ⟨r0, f', md', m', e1, e2, hR'⟩ := best_R (fu := fu) hR hfu md p q
      rw [if_pos o11, e1, bd3_some, e2, bd2_some, if_pos rfl]
      exact hc _ _ _ _ _ _ _ _ _ hi ⟨rfl, hR'⟩
    rw [if_neg o11]
    by_cases o12 : o = 12
    · obtain ⟨r0, f', md', m', e1, e2, hR'⟩ := rounds_R (fu := fu) hR hfu md p
      rw [if_pos o12, e1, bd3_some, e2, bd2_some, if_pos rfl]
      exact hc _ _ _ _ _ _ _ _ _ hi ⟨rfl, hR'⟩
    rw [if_neg o12]
    by_cases o13 : o = 13
    · obtain ⟨r0, f', md', m', e1, e2, hR'⟩ := marks_R (fu := fu) hR hfu md p
      rw [if_pos o13, e1, bd3_some, e2, bd2_some, if_pos rfl]
      exact hc _ _ _ _ _ _ _ _ _ hi ⟨rfl, hR'⟩
    rw [if_neg o13]
    by_cases o14 : o = 14
    · obtain ⟨r0, md', m', e1, e2, hR'⟩ := second_R (fu := fu) hR hfu md
      rw [if_pos o14, e1, bd2_some, e2, bd2_some, if_pos rfl]
      exact hc _ _ _ _ _ _ _ _ _ hi ⟨rfl, hR'⟩
    rw [if_neg o14]
    by_cases o15 : o = 15
    · obtain ⟨r0, f', md', ar', m', e1, e2, hR'⟩ := urn_R (fu := fu) hR hfu md ar p
      rw [if_pos o15, e1, bd4_some, e2, bd2_some, if_pos rfl]
      exact hc _ _ _ _ _ _ _ _ _ hi ⟨rfl, hR'⟩
    rw [if_neg o15]
    by_cases o16 : o = 16
    · obtain ⟨r0, f', ar', m', e1, e2, hR'⟩ := least_R (fu := fu) hR hfu2 ar p
      rw [if_pos o16, e1, bd3_some, e2, bd2_some, if_pos rfl]
      exact hc _ _ _ _ _ _ _ _ _ hi ⟨rfl, hR'⟩
    rw [if_neg o16]
    by_cases o17 : o = 17
    · obtain ⟨r0, f', ar', m', e1, e2, hR'⟩ := ferry_R (fu := fu) hR hfu ar p q
      rw [if_pos o17, e1, bd3_some, e2, bd2_some, if_pos rfl]
      exact hc _ _ _ _ _ _ _ _ _ hi ⟨rfl, hR'⟩
    rw [if_neg o17]
    by_cases o18 : o = 18
    · obtain ⟨r0, f', ar', m', e1, e2, hR'⟩ := times_R (fu := fu) hR hfu ar p
      rw [if_pos o18, e1, bd3_some, e2, bd2_some, if_pos rfl]
      exact hc _ _ _ _ _ _ _ _ _ hi ⟨rfl, hR'⟩
    rw [if_neg o18]
    by_cases o19 : o = 19
    · obtain ⟨r0, f', ar', m', e1, e2, hR'⟩ := better_R (fu := fu) hR hfu ar p
      rw [if_pos o19, e1, bd3_some, e2, bd2_some, if_pos rfl]
      exact hc _ _ _ _ _ _ _ _ _ hi ⟨rfl, hR'⟩
    rw [if_neg o19]
    by_cases o20 : o = 20
    · obtain ⟨r0, md', m', e1, e2, hR'⟩ := follow_R (fu := fu) hR hfu md
      rw [if_pos o20, e1, bd2_some, e2, bd2_some, if_pos rfl]
      exact hc _ _ _ _ _ _ _ _ _ hi ⟨rfl, hR'⟩
    rw [if_neg o20]
    by_cases o21 : o = 21
    · obtain ⟨r0, f', m', e1, e2, hR'⟩ := row_R (fu := fu) hR p
      rw [if_pos o21, e1, bd2_some, e2, bd2_some, if_pos rfl]
      exact hc _ _ _ _ _ _ _ _ _ hi ⟨rfl, hR'⟩
    rw [if_neg o21]
    by_cases o22 : o = 22
    · obtain ⟨r0, f', md', m', e1, e2, hR'⟩ := judge_R (fu := fu) hR hfu md
      rw [if_pos o22, e1, bd3_some, e2, bd2_some, if_pos rfl]
      exact hc _ _ _ _ _ _ _ _ _ hi ⟨rfl, hR'⟩
    rw [if_neg o22]
    by_cases o23 : o = 23
    · obtain ⟨r0, f', m', e1, e2, hR'⟩ := fits_R (fu := fu) hR hfu p
      rw [if_pos o23, e1, bd2_some, e2, bd2_some, if_pos rfl]
      exact hc _ _ _ _ _ _ _ _ _ hi ⟨rfl, hR'⟩
    rw [if_neg o23]
    by_cases o24 : o = 24
    · obtain ⟨r0, f', mi', md', m', e1, e2, hR'⟩ := seeds_R (fu := fu) hR hfu mi md p q r
      rw [if_pos o24, e1, bd4_some, e2, bd2_some, if_pos rfl]
      exact hc _ _ _ _ _ _ _ _ _ hi ⟨rfl, hR'⟩
    rw [if_neg o24]
    by_cases o25 : o = 25
    · obtain ⟨r0, f', k', m', e1, e2, hR'⟩ := image_R (fu := fu) hR hfu
      rw [if_pos o25, e1, bd3_some, e2, bd2_some, if_pos rfl]
      exact hc _ _ _ _ _ _ _ _ _ hi ⟨rfl, hR'⟩
    rw [if_neg o25]
    by_cases o26 : o = 26
    · obtain ⟨r0, f', n', m', e1, e2, hR'⟩ := restore_R (fu := fu) hR hfu
      rw [if_pos o26, e1, bd3_some, e2, bd2_some, if_pos rfl]
      exact hc _ _ _ _ _ _ _ _ _ hi ⟨rfl, hR'⟩
    rw [if_neg o26]
    by_cases o27 : o = 27
    · obtain ⟨r0, e1, e2⟩ := count_R (fu := fu) hR hfu p
      rw [if_pos o27, e1, bd_some, e2, bd_some, if_pos rfl]
      exact hc _ _ _ _ _ _ _ _ _ hi ⟨rfl, hR⟩
    rw [if_neg o27]
    exact hc _ _ _ _ _ _ _ _ _ hi ⟨rfl, hR⟩
  · have g0 : Int32.ofNat L - 4 < nI (4 * i) := by
      rw [show Int32.ofNat L = nI L from rfl, show (4 : Int32) = nI 4 from rfl, i_lt, pk_sub_toInt (by omega) (by omega), nI_toInt (by omega)]
      omega
    rw [if_pos g0]
