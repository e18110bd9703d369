/-- a static array's length is its cell's -/
theorem len8 {args : Array Value} {s : State} {tm : Term} {t : Nat} {cell : Cell} (h : (Term.length tm).eval args s none [] s = some (.int 8)) (ht : tm.eval args s none [] s = some (.ref t)) (hc : s.arrayAt? t = some cell) : cell.slots.size = 8 := by
  simp only [Term.eval, ht, hc, Option.bind_eq_bind, Option.bind_some] at h
  split at h
  · have e : cell.slots.size.toInt32 = 8 := by
      injection h with h
      injection h
    exact (nI_eq (a := cell.slots.size) (b := 8) (by assumption) (by decide)).mp e
  · cases h
set_option maxHeartbeats 40000000 in
set_option maxRecDepth 100000 in
theorem whole_start {p : Program} {e : Env} {s : State} {m : MethodId} {below : List Frame} {meth : Method} {c : Code} (l : Launch) (hflags : l.flags = flags0) {b L : Nat} {xs : Nat → Int32} (hL : L ≤ 2048) (C0 : lw_At p s m meth c b L xs) : W p l e room_1 s m #[Value.ref b] below meth c s.heap [] 0 0 (lw_Z below #[Value.ref b] s) (entryFrame m ([Value.ref b] : List Value).toArray 4) := by
  obtain ⟨hx, hb, hr, hml, hown, hts0, hX, hbl, hlocks, hgv⟩ := id C0
  have hts : ∀ w ∈ wsA, w.before #[Value.ref b] s = true := fun w h => hts0 w (wsA_in w h)
  have hown : s.vm.findClass RL = some m.cls := hown
  obtain ⟨A, hA, hAs⟩ : ∃ A : Nat → Prop, (∀ q : Nat, s.heap.size ≤ q → A q) ∧ (∀ q : Nat, A q → s.heap.size ≤ q) := ⟨fun q => s.heap.size ≤ q, fun _ h => h, fun _ h => h⟩
  have hbA : ¬ A b := fun h => absurd (hAs b h) (Nat.not_le.mpr hbl)
  have hA0 : ∀ a : Nat, a < s.heap.size → ¬ A a := fun a h g => absurd (hAs a g) (Nat.not_le.mpr h)
  obtain ⟨c0, i0, hk0⟩ := u_known (C := RX0) (T := TX0) (N := 3) (n := 3) hts iX0 (hts _ aw208)
  obtain ⟨c1, i1, hk1⟩ := u_known (C := RX1) (T := TX1) (N := 7) (n := 7) hts iX1 (hts _ aw80)
  obtain ⟨c2, i2, hk2⟩ := u_known (C := RX2) (T := TX2) (N := 8) (n := 8) hts iX2 (hts _ aw64)
  obtain ⟨c3, i3, hk3⟩ := u_known (C := RX3) (T := TX3) (N := 5) (n := 5) hts iX3 (hts _ aw126)
  obtain ⟨c4, i4, hk4⟩ := u_known (C := RX4) (T := TX4) (N := 3) (n := 3) hts iX4 (hts _ aw224)
  obtain ⟨c5, i5, hk5⟩ := u_known (C := RX5) (T := TX5) (N := 2) (n := 2) hts iX5 (hts _ aw192)
  obtain ⟨c6, i6, hk6⟩ := u_known (C := RX6) (T := TX6) (N := 9) (n := 9) hts iX6 (hts _ aw56)
  obtain ⟨c7, i7, hk7⟩ := u_known (C := RX7) (T := TX7) (N := 33) (n := 33) hts iX7 (hts _ aw731)
  obtain ⟨dC, dI, hKc⟩ : ∃ (dC : Nat → ClassId) (dI : Nat → Nat → Nat), ∀ (k : Nat) (q : vw_C), vwCl[k]? = some q → u_Kn s q.1 q.2.1 q.2.2 (dC k) (dI k) := by
    refine ⟨fun k => match k with | 0 => c0 | 1 => c1 | 2 => c2 | 3 => c3 | 4 => c4 | 5 => c5 | 6 => c6 | _ => c7, fun k => match k with | 0 => i0 | 1 => i1 | 2 => i2 | 3 => i3 | 4 => i4 | 5 => i5 | 6 => i6 | _ => i7, ?_⟩
    intro k q hq
    match k, hq with
    | 0, hq => cases hq; exact hk0
    | 1, hq => cases hq; exact hk1
    | 2, hq => cases hq; exact hk2
    | 3, hq => cases hq; exact hk3
    | 4, hq => cases hq; exact hk4
    | 5, hq => cases hq; exact hk5
    | 6, hq => cases hq; exact hk6
    | 7, hq => cases hq; exact hk7
    | k + 8, hq => simp [vwCl] at hq
  obtain ⟨cI, kI, compI, fI, eI, gI⟩ := Cond.arrayClass_spec (type := .int) (hts0 (.arrayClass .int) (List.mem_of_getElem? (i := 123) (by decide +kernel)))
  obtain ⟨compC, cC, kC, fC1, -, fC3, fC4, fC5⟩ := Cond.arrayOver_spec (n := "FilledForOne$Comer") (hts0 (.arrayOver (.object "FilledForOne$Comer")) (List.mem_of_getElem? (i := 79) (by decide +kernel)))
  obtain ⟨compK, cK, kK, fK1, -, fK3, fK4, fK5⟩ := Cond.arrayOver_spec (n := "FilledForOne$Kettle") (hts0 (.arrayOver (.object "FilledForOne$Kettle")) (List.mem_of_getElem? (i := 125) (by decide +kernel)))
  obtain ⟨z, hz0, hz1, hz2⟩ : ∃ z : Nat → ClassId, z 0 = cI ∧ z 1 = cC ∧ z 2 = cK := ⟨fun i => match i with | 0 => cI | 1 => cC | _ => cK, rfl, rfl, rfl⟩
  have hK : zK (dC, dI) z s := by
    refine ⟨hKc, fun k q hq => ?_⟩
    match k, hq with
    | 0, hq => cases hq; rw [hz0]; exact ⟨fun n f => ⟨fun k h => (by cases h), kI, eI, compI, gI⟩, fI⟩
    | 1, hq => cases hq; rw [hz1]; exact ⟨fun n f => ⟨fun k h => (by cases h), kC, fC3, compC, fC4⟩, kC, compC, fC3, fC4, fC1, fC5⟩
    | 2, hq => cases hq; rw [hz2]; exact ⟨fun n f => ⟨fun k h => (by cases h), kK, fK3, compK, fK4⟩, kK, compK, fK3, fK4, fK1, fK5⟩
    | k + 3, hq => simp at hq
  have hN : zN s := ⟨va_Nw.of rfl (hts0 _ (List.mem_of_getElem? (i := 639) (by decide +kernel))), va_Nw.of rfl (hts0 _ (List.mem_of_getElem? (i := 492) (by decide +kernel))), va_Nw.of rfl (hts0 _ (List.mem_of_getElem? (i := 81) (by decide +kernel))), va_Nw.of rfl (hts0 _ (List.mem_of_getElem? (i := 127) (by decide +kernel))), va_Nw.of rfl (hts0 _ (List.mem_of_getElem? (i := 69) (by decide +kernel))), va_Nw.of rfl (hts0 _ (List.mem_of_getElem? (i := 339) (by decide +kernel))), va_Nw.of rfl (hts0 _ (List.mem_of_getElem? (i := 341) (by decide +kernel))), va_Nw.of rfl (hts0 _ (List.mem_of_getElem? (i := 76) (by decide +kernel))), va_AO.of (hts0 _ (List.mem_of_getElem? (i := 79) (by decide +kernel))), va_AO.of (hts0 _ (List.mem_of_getElem? (i := 125) (by decide +kernel)))⟩
  have hs := flat_of_before _ hgv
  obtain ⟨t0, e0, T0⟩ := va_Tof (args := #[Value.ref b]) (s := s) (tm := .static "FilledForOne" "FIRST_SETTINGS" "[I") (ty := .int) (N := 8) (f := fun j => .int ([8, 1, 4, 3, 1, 2, 3, 1].getD j 0)) (A := A) (by decide) (hs _ (by decide +kernel)) (va_eqt (hs _ (by decide +kernel))) (fun j hj => by
    rcases (show j = 0 ∨ j = 1 ∨ j = 2 ∨ j = 3 ∨ j = 4 ∨ j = 5 ∨ j = 6 ∨ j = 7 by omega) with rfl | rfl | rfl | rfl | rfl | rfl | rfl | rfl <;> exact va_eqt (hs _ (by decide +kernel))) hA0
  obtain ⟨t1, e1, T1⟩ := va_Tof (args := #[Value.ref b]) (s := s) (tm := .static "FilledForOne" "LEAST_SETTINGS" "[I") (ty := .int) (N := 8) (f := fun j => .int ([2, 0, 1, 1, 0, 0, 0, 1].getD j 0)) (A := A) (by decide) (hs _ (by decide +kernel)) (va_eqt (hs _ (by decide +kernel))) (fun j hj => by
    rcases (show j = 0 ∨ j = 1 ∨ j = 2 ∨ j = 3 ∨ j = 4 ∨ j = 5 ∨ j = 6 ∨ j = 7 by omega) with rfl | rfl | rfl | rfl | rfl | rfl | rfl | rfl <;> exact va_eqt (hs _ (by decide +kernel))) hA0
  obtain ⟨t2, e2, T2⟩ := va_Tof (args := #[Value.ref b]) (s := s) (tm := .static "FilledForOne" "GREATEST_SETTINGS" "[I") (ty := .int) (N := 8) (f := fun j => .int ([11, 9, 20, 9, 9, 9, 11, 2].getD j 0)) (A := A) (by decide) (hs _ (by decide +kernel)) (va_eqt (hs _ (by decide +kernel))) (fun j hj => by
    rcases (show j = 0 ∨ j = 1 ∨ j = 2 ∨ j = 3 ∨ j = 4 ∨ j = 5 ∨ j = 6 ∨ j = 7 by omega) with rfl | rfl | rfl | rfl | rfl | rfl | rfl | rfl <;> exact va_eqt (hs _ (by decide +kernel))) hA0
  have hlen0 : (Term.length (.static "FilledForOne" "FIRST_SETTINGS" "[I")).eval #[Value.ref b] s none [] s = some (.int 8) := va_eqt (hs _ (by decide +kernel))
  obtain ⟨t0', cell0, g1, g2, -⟩ := Term.length_spec hlen0
  cases e0.symm.trans g1
  have g3 := len8 hlen0 e0 g2
  have hex : (Cond.exactly (.static "FilledForOne" "FIRST_SETTINGS" "[I") "[I").before #[Value.ref b] s = true := hs _ (by decide +kernel)
  obtain ⟨a9, c9, cell9, k9, x1, x2, x3, -, -, x6, -⟩ := Cond.exactly_spec hex
  cases e0.symm.trans x1
  have hF : zF t0 A s s.heap := by
    obtain ⟨cell, y1, y2, y3, y4, y5, y6, y7⟩ := T0
    have e1 : cell = cell0 := Option.some.inj (y1.symm.trans (State.arrayAt?_spec g2).1)
    have e2 : cell = cell9 := Option.some.inj (y1.symm.trans x3)
    exact ⟨cell, y1, y2, y3, by rw [e1]; exact g3, y6, by rw [e2, x6]; exact x2, y7⟩
  obtain ⟨tt, ht0, ht1, ht2⟩ : ∃ tt : Nat → Nat, tt 0 = t0 ∧ tt 1 = t1 ∧ tt 2 = t2 := ⟨fun i => match i with | 0 => t0 | 1 => t1 | _ => t2, rfl, rfl, rfl⟩
  have hT : zT tt A s s.heap := by
    unfold zT
    rw [ht0, ht1, ht2]
    exact ⟨⟨va_Zref (hts0 _ (List.mem_of_getElem? (i := 70) (by decide +kernel))) (hts _ aw45) e0 hA0, hF⟩, ⟨va_Zref (hts0 _ (List.mem_of_getElem? (i := 340) (by decide +kernel))) (hts _ aw45) e1 hA0, T1⟩, ⟨va_Zref (hts0 _ (List.mem_of_getElem? (i := 342) (by decide +kernel))) (hts _ aw45) e2 hA0, T2⟩⟩
  have hS : va_S A s.heap s.heap [] := va_S.rf
  have hP : va_P (dC, dI) vwCl [] s.heap := fun k q h => by simp at h
  have hD : va_D A [] := ⟨fun i j p q h => by simp at h, fun k q h => by simp at h⟩
  have hl := lv_entry ([.ref b]) (n := 4) (Nat.le_of_ble_eq_true rfl)
  rw [lg_entry_eq]
  generalize (lg_sl ([.ref b]) ++ List.replicate (4 - (lg_sl ([.ref b])).length) Slot.unset).toArray = ls at hl ⊢
  have hl : lv_has ls 4 [(0, .ref b)] := hl
  refine va_new (ci := 6) (fs := [.null, .null, .null, .null, .null, .null, .null, .int 0, .int 0]) (C := RX6) (T := TX6) (N := 9) hx hb hts iX6 tyX6 tyX6_ok hown (hts _ aw55) (hts _ aw56) (hts _ aw45) hK hP hD hS hA rfl (fun j hj => by rcases (show j = 0 ∨ j = 1 ∨ j = 2 ∨ j = 3 ∨ j = 4 ∨ j = 5 ∨ j = 6 ∨ j = 7 ∨ j = 8 by omega) with rfl | rfl | rfl | rfl | rfl | rfl | rfl | rfl | rfl <;> rfl) (Nat.le_of_ble_eq_true rfl) (Nat.le_of_ble_eq_true rfl) dL_law_0 (fun q6 H hP hD hS => ?_)
  have hP : va_P (dC, dI) vwCl [(q6, .inr (6, [.null, .null, .null, .null, .null, .null, .null, .int 0, .int 0]))] H := hP
  have hD : va_D A [(q6, .inr (6, [.null, .null, .null, .null, .null, .null, .null, .int 0, .int 0]))] := hD
  refine lv_dup hx hb dL_law_3 rfl ?_
  refine z_goC (va_runI (As := []) (rest := [.ref q6]) ⟨hx, hb, hml, hown, hts⟩ (tX6_init l (dC, dI) z tt q6 _) (cwI 0 hts (gC1 aw59) rfl rfl rfl (hts _ aw45) (hts _ aw57) (hts _ aw58) rfl (by decide +kernel) ⟨(Nat.le_of_ble_eq_true rfl), (Nat.le_of_ble_eq_true rfl)⟩) (z_preS (As := [.ref q6]) hK hP hD hS hA hT hN (foc_els (k := 0) rfl)) rfl rfl hl.1 rfl (lv_room (Nat.le_of_ble_eq_true rfl)) dL_law_4 ⟨(Nat.le_of_ble_eq_true rfl), (Nat.le_of_ble_eq_true rfl)⟩) hP hD hS hA [0] [] (wr := []) rfl rfl (by decide) (by decide) (fun u eu Hn locsn hPn hDn hSn => ?_)
  have eu : u 1 0 = q6 := eu
  subst eu
  have hP : va_P (dC, dI) vwCl (WFace z u m0 d0 d0 m0 d0 m0 m0) Hn := hPn
  have hD : va_D A (WFace z u m0 d0 d0 m0 d0 m0 m0) := hDn
  have hS := hSn
  refine W.eq (g2 := F0 m 7 ls [.ref (u 1 0)]) rfl ?_
  refine lv_astore_n (lv' := [(1, .ref (u 1 0)), (0, .ref b)]) hx hb dL_law_7 rfl hl (by decide) rfl (fun ls hl => ?_)
  refine va_new (ci := 7) (fs := [.null, .null, .null, .null, .null, .null, .null, .null, .null, .null, .null, .null, .null, .null, .null, .int 0, .int 0, .int 0, .int 0, .null, .null, .null, .null, .int 0, .int 0, .int 0, .null, .int 0, .int 0, .int 0, .null, .null, .int 0]) (C := RX7) (T := TX7) (N := 33) hx hb hts iX7 tyX7 tyX7_ok hown (hts _ aw730) (hts _ aw731) (hts _ aw52) hK hP hD hS hA rfl (fun j hj => by rcases (show j = 0 ∨ j = 1 ∨ j = 2 ∨ j = 3 ∨ j = 4 ∨ j = 5 ∨ j = 6 ∨ j = 7 ∨ j = 8 ∨ j = 9 ∨ j = 10 ∨ j = 11 ∨ j = 12 ∨ j = 13 ∨ j = 14 ∨ j = 15 ∨ j = 16 ∨ j = 17 ∨ j = 18 ∨ j = 19 ∨ j = 20 ∨ j = 21 ∨ j = 22 ∨ j = 23 ∨ j = 24 ∨ j = 25 ∨ j = 26 ∨ j = 27 ∨ j = 28 ∨ j = 29 ∨ j = 30 ∨ j = 31 ∨ j = 32 by omega) with rfl | rfl | rfl | rfl | rfl | rfl | rfl | rfl | rfl | rfl | rfl | rfl | rfl | rfl | rfl | rfl | rfl | rfl | rfl | rfl | rfl | rfl | rfl | rfl | rfl | rfl | rfl | rfl | rfl | rfl | rfl | rfl | rfl <;> rfl) (Nat.le_of_ble_eq_true rfl) (Nat.le_of_ble_eq_true rfl) dL_law_8 (fun q7 H hP hD hS => ?_)
  have hP : va_P (dC, dI) vwCl (WFace z u m0 d0 d0 m0 d0 m0 m0 ++ [(q7, .inr (7, [.null, .null, .null, .null, .null, .null, .null, .null, .null, .null, .null, .null, .null, .null, .null, .int 0, .int 0, .int 0, .int 0, .null, .null, .null, .null, .int 0, .int 0, .int 0, .null, .int 0, .int 0, .int 0, .null, .null, .int 0]))]) H := hP
  have hD : va_D A (WFace z u m0 d0 d0 m0 d0 m0 m0 ++ [(q7, .inr (7, [.null, .null, .null, .null, .null, .null, .null, .null, .null, .null, .null, .null, .null, .null, .null, .int 0, .int 0, .int 0, .int 0, .null, .null, .null, .null, .int 0, .int 0, .int 0, .null, .int 0, .int 0, .int 0, .null, .null, .int 0]))]) := hD
  refine lv_dup hx hb dL_law_11 rfl ?_
  refine z_goC (va_runI (As := []) (rest := [.ref q7]) ⟨hx, hb, hml, hown, hts⟩ (tX7_init l (dC, dI) z tt q7 _) (cwI 0 hts (gC1 aw734) rfl rfl rfl (hts _ aw52) (hts _ aw732) (hts _ aw733) rfl (by decide +kernel) ⟨(Nat.le_of_ble_eq_true rfl), (Nat.le_of_ble_eq_true rfl)⟩) (z_preS (As := [.ref q7]) hK hP hD hS hA hT hN (foc_els (k := 54) rfl)) rfl rfl hl.1 rfl (lv_room (Nat.le_of_ble_eq_true rfl)) dL_law_12 ⟨(Nat.le_of_ble_eq_true rfl), (Nat.le_of_ble_eq_true rfl)⟩) hP hD hS hA [54] [0, 1, 2, 3, 4, 5, 6, 7, 8, 9, 10, 11, 12, 13, 14, 15, 16, 17, 18, 19, 20, 21, 22, 23, 24, 25, 26, 27, 28, 29, 30, 31, 32, 33, 34, 35, 36, 37, 38, 39, 40, 41, 42, 43, 44, 45, 46, 47, 48, 49, 50, 51, 52, 53] (wr := (WFace z u m0 d0 d0 m0 d0 m0 m0)) rfl rfl (by decide) (by decide) (fun v ev Hn locsn hPn hDn hSn => ?_)
  have ev : v 0 = q7 := ev
  subst ev
  refine W.eq (g2 := F0 m 15 ls [.ref (v 0)]) rfl ?_
  refine lv_astore_n (lv' := [(2, .ref (v 0)), (1, .ref (u 1 0)), (0, .ref b)]) hx hb dL_law_15 rfl hl (by decide) rfl (fun ls hl => ?_)
  refine lv_iconst (v := 0) hx hb dL_law_16 (by decide) ?_
  refine lv_istore_n (lv' := [(3, .int 0), (2, .ref (v 0)), (1, .ref (u 1 0)), (0, .ref b)]) hx hb dL_law_17 rfl hl (by decide) rfl (fun ls hl => ?_)
  have hP9 : va_P (dC, dI) vwCl (WFac z (u 1) ((u 2) 0) ((u 3) 0) (u 4 0) ((u 6) 0) ((u 7) 0) m0 ++ (WDay z (u 2) d0 ++ (WDay z (u 3) d0 ++ (WMin (u 4 0) ((u 5) 0) m0 ++ (WDay z (u 5) d0 ++ (WArr z (u 6) m0 ++ (WLet z (u 7) m0 ++ (WMod z v mm0)))))))) Hn := va_P_perm (List.Perm.of_eq rfl) hPn
  have hD9 : va_D A (WFac z (u 1) ((u 2) 0) ((u 3) 0) (u 4 0) ((u 6) 0) ((u 7) 0) m0 ++ (WDay z (u 2) d0 ++ (WDay z (u 3) d0 ++ (WMin (u 4 0) ((u 5) 0) m0 ++ (WDay z (u 5) d0 ++ (WArr z (u 6) m0 ++ (WLet z (u 7) m0 ++ (WMod z v mm0)))))))) := va_D_perm (List.Perm.of_eq rfl) hDn
  exact tL_law l (dC, dI) z tt C0 A hA hbA hAs hK hT hN (u 1) (u 2) (u 3) (u 4 0) (u 5) (u 6) (u 7) v m0 d0 d0 m0 d0 m0 m0 mm0 0 5000 (pure_all hL xs) Hn _ hP9 hD9 hSn ls (lv_sub hl [3, 2, 1, 0] rfl)
