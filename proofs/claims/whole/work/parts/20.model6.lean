def pX7_goesRounds (fu : Nat) (m1 : Mem) : Option (Int32 × Mem) :=
  zl3 (fun g5 (x1 : Int32) (x2 : Int32) (y3 : Mem) =>
    if x2 = 0 then
      some (x1, y3)
    else
      if 20 ≤ x1 then
        some (x1, y3)
      else
        zl3 (fun g13 (x9 : Int32) (x10 : Int32) (y11 : Mem) =>
          if (y11 0 15) ≤ x10 then
            lt' (x1 + 1) fun x16 =>
            g5 x16 x9 y11
          else
            bd2 (pX7_bestKind fu y11 x10 0) fun r17 y18 =>
            ck x10 8 <|
            if r17 = (y18 3 x10.toNatClampNeg) then
              lt' ((x9 ||| 0) : Int32) fun x22 =>
              ck x10 8 <|
              lt' (up2 y18 3 x10.toNatClampNeg r17) fun y23 =>
              lt' (x10 + 1) fun x25 =>
              g13 x22 x25 y23
            else
              lt' ((x9 ||| 1) : Int32) fun x26 =>
              ck x10 8 <|
              lt' (up2 y18 3 x10.toNatClampNeg r17) fun y27 =>
              lt' (x10 + 1) fun x29 =>
              g13 x26 x29 y27) fu 0 0 y3) fu 0 1 m1
set_option maxHeartbeats 4000000 in
set_option maxRecDepth 100000 in
theorem tX7_goesRounds (l : Launch) (D : va_G) (z tt : Nat → Nat) (a1 : Nat → Nat) (m1 : Mem)  (fu : Nat) (rr : Int32) (m1' : Mem) (hf : pX7_goesRounds fu m1 = some (rr, m1')) : MetI l yX7_goesRounds wsX7_goesRounds ({ frames := 9, cells := 0, slots := 0, locals := 203 } : Room) D z tt ([.ref (a1 0)] : List Value) (WMod z a1 m1) rr (WMod z a1 m1') := by
  intro sz
  refine Met.ofW (cc := cX7_goesRounds) (maxL := 5) (ret := (some .int)) (by decide) rfl ?_
  intro p e s m args below meth c s₁ B hml hv
  obtain ⟨rfl, hsz, hP, hK, hD0, hT, hN⟩ := hv
  have hx := B.exec
  have hb := B.bytes
  have hr := B.returns
  have hts : ∀ w ∈ wsA, w.before ([.ref (a1 0)] : List Value).toArray s = true := fun w h => atoms_spec (ws := wsX7_goesRounds) B.pre w (List.mem_cons_of_mem _ h)
  have hown : s.vm.findClass RX7 = some m.cls := findClass_of_methodNamed B.named
  have hlocks := B.notSynchronized
  subst hsz
  have hD := hD0.self (sz := s.heap.size)
  generalize hAe : va_A (WMod z a1 m1) s.heap.size = A at hD hT ⊢
  have hA : ∀ q : Nat, s.heap.size ≤ q → A q := fun q h => by rw [← hAe]; exact Or.inr h
  have hS : va_S A s.heap s.heap [] := va_S.rf
  have hl := lv_entry ([.ref (a1 0)] : List Value) (n := 5) (Nat.le_of_ble_eq_true rfl)
  rw [lg_entry_eq]
  generalize (lg_sl ([.ref (a1 0)] : List Value) ++ List.replicate (5 - (lg_sl ([.ref (a1 0)] : List Value)).length) Slot.unset).toArray = ls at hl ⊢
  have hl : lv_has ls 5 [(0, .ref (a1 0))] := hl
  unfold pX7_goesRounds at hf
  refine lv_iconst (v := 0) hx hb dX7_goesRounds_0 (by decide) ?_
  refine lv_istore_n (lv' := [(1, .int 0), (0, .ref (a1 0))]) hx hb dX7_goesRounds_1 rfl hl (by decide) rfl (fun ls hl => ?_)
  refine lv_iconst (v := 1) hx hb dX7_goesRounds_2 (by decide) ?_
  refine lv_istore_n (lv' := [(2, .int 1), (1, .int 0), (0, .ref (a1 0))]) hx hb dX7_goesRounds_3 rfl hl (by decide) rfl (fun ls hl => ?_)
  obtain ⟨F4, eF4, hf⟩ := zl3_use hf
  have L4_F4 : ∀ (n : Nat) (x1 : Int32) (x2 : Int32) (y3 : Mem) (H : Heap) (locs : List Loc), va_P D vwCl (WMod z a1 y3) H → va_D A (WMod z a1 y3) → va_S A s.heap H locs → ∀ (ls : Array Slot), lv_has ls 5 [(0, .ref (a1 0)), (1, .int x1), (2, .int x2)] → zl3 F4 n x1 x2 y3 = some (rr, m1') → GI p l e (headSpec wsX7_goesRounds ({ frames := 9, cells := 0, slots := 0, locals := 203 } : Room)).room s m ([.ref (a1 0)] : List Value).toArray below meth c A D z rr (WMod z a1 m1') H locs (F0 m 4 ls []) := by
    intro n
    induction n with
    | zero =>
      intro x1 x2 y3 H locs hP hD hS ls hl hf
      exact no_none hf
    | succ n ih6 =>
      intro x1 x2 y3 H locs hP hD hS ls hl hf
      have hf := zl3_s eF4 hf
      refine lv_iload_n hx hb dX7_goesRounds_4 rfl (lv_at hl 2 rfl) ?_
      refine lv_if_eq (tgt := 73) hx hb dX7_goesRounds_5 (by decide) (fun c7 => ?_) (fun c7 => ?_)
      · have hf := if_t c7 hf
        refine lv_iload_n hx hb dX7_goesRounds_73 rfl (lv_at hl 1 rfl) ?_
        obtain ⟨rfl, rfl⟩ := so2 hf
        exact ret_i hx hb hr hlocks hK hP hD hS dX7_goesRounds_74
      · have hf := if_f c7 hf
        refine lv_iload_n hx hb dX7_goesRounds_8 rfl (lv_at hl 1 rfl) ?_
        refine lv_bipush (v := 20) hx hb dX7_goesRounds_9 (by decide) ?_
        refine lv_icmp_ge (tgt := 73) hx hb dX7_goesRounds_11 (by decide) (fun c8 => ?_) (fun c8 => ?_)
        · have hf := if_t c8 hf
          refine lv_iload_n hx hb dX7_goesRounds_73 rfl (lv_at hl 1 rfl) ?_
          obtain ⟨rfl, rfl⟩ := so2 hf
          exact ret_i hx hb hr hlocks hK hP hD hS dX7_goesRounds_74
        · have hf := if_f c8 hf
          refine lv_iconst (v := 0) hx hb dX7_goesRounds_14 (by decide) ?_
          refine lv_istore_n (lv' := [(2, .int 0), (0, .ref (a1 0)), (1, .int x1)]) hx hb dX7_goesRounds_15 rfl hl (by decide) rfl (fun ls hl => ?_)
          refine lv_iconst (v := 0) hx hb dX7_goesRounds_16 (by decide) ?_
          refine lv_istore_n (lv' := [(3, .int 0), (2, .int 0), (0, .ref (a1 0)), (1, .int x1)]) hx hb dX7_goesRounds_17 rfl hl (by decide) rfl (fun ls hl => ?_)
          obtain ⟨F12, eF12, hf⟩ := zl3_use hf
          have L18_F12 : ∀ (n : Nat) (x9 : Int32) (x10 : Int32) (y11 : Mem) (H : Heap) (locs : List Loc), va_P D vwCl (WMod z a1 y11) H → va_D A (WMod z a1 y11) → va_S A s.heap H locs → ∀ (ls : Array Slot), lv_has ls 5 [(0, .ref (a1 0)), (1, .int x1), (2, .int x9), (3, .int x10)] → zl3 F12 n x9 x10 y11 = some (rr, m1') → GI p l e (headSpec wsX7_goesRounds ({ frames := 9, cells := 0, slots := 0, locals := 203 } : Room)).room s m ([.ref (a1 0)] : List Value).toArray below meth c A D z rr (WMod z a1 m1') H locs (F0 m 18 ls []) := by
            intro n
            induction n with
            | zero =>
              intro x9 x10 y11 H locs hP hD hS ls hl hf
              exact no_none hf
            | succ n ih14 =>
              intro x9 x10 y11 H locs hP hD hS ls hl hf
              have hf := zl3_s eF12 hf
              refine lv_iload_n hx hb dX7_goesRounds_18 rfl (lv_at hl 3 rfl) ?_
              refine lv_aload_n hx hb dX7_goesRounds_19 rfl (lv_at hl 0 rfl) ?_
              refine va_get (D := D) (ci := 7) (v := .int (y11 0 15)) (C := RX7) (T := TX7) (N := 33) hx hb hts iX7 hown hK hP 0 rfl rfl 15 (by decide) (hts _ aw751) (fun _ h9 => h9) rfl dX7_goesRounds_20 ?_
              refine lv_icmp_ge (tgt := 67) hx hb dX7_goesRounds_23 (by decide) (fun c15 => ?_) (fun c15 => ?_)
              · have hf := if_t c15 hf
                obtain ⟨x16, ex16⟩ : ∃ y : Int32, y = x1 + 1 := ⟨_, rfl⟩
                have hf := lt_use ex16 hf
                refine lv_iinc (v := x16) (lv' := [(1, .int x16), (0, .ref (a1 0)), (2, .int x9), (3, .int x10)]) hx hb dX7_goesRounds_67 hl (k := 1) rfl (by rw [ex16]; rfl) (by decide) rfl (fun ls hl => ?_)
                refine lv_goto (tgt := 4) hx hb dX7_goesRounds_70 (by decide) ?_
                exact ih6 _ _ _ _ _ hP hD hS _ (lv_sub hl [1, 0, 2] rfl) hf
              · have hf := if_f c15 hf
                refine lv_aload_n hx hb dX7_goesRounds_26 rfl (lv_at hl 0 rfl) ?_
                refine lv_iload_n hx hb dX7_goesRounds_27 rfl (lv_at hl 3 rfl) ?_
                refine lv_iconst (v := 0) hx hb dX7_goesRounds_28 (by decide) ?_
                obtain ⟨r17, y18, q19, hf⟩ := bd2_use hf
                have hfo : Foc (WMod z a1 y11) (WMod z a1 y11) (WMod z a1 y18) (WMod z a1 y18) := foc_all
                refine z_goI (ws1 := (WMod z a1 y18)) (va_runV (As := [.int x10, .int 0]) (rest := []) ⟨hx, hb, hml, hown, hts⟩ (tX7_bestKind l D z tt a1 y11 x10 0 fu r17 y18 q19 _) (cwV 2 hts (gV4 aw1032 aw1034 aw33 aw52 aw1035) rfl rfl rfl (by decide +kernel) ⟨Nat.le_of_ble_eq_true rfl, Nat.le_of_ble_eq_true rfl⟩) (z_preV hK hP hD hS hA hT hN hfo (va_recv hK hP (ci := 7) (q0 := 0) rfl rfl)) rfl rfl hl.1 rfl (lv_room (Nat.le_of_ble_eq_true rfl)) dX7_goesRounds_29 ⟨Nat.zero_le _, Nat.zero_le _⟩) hP hD hS hA hfo (fun H locs hP hD hS => ?_)
                refine lv_istore (lv' := [(4, .int r17), (0, .ref (a1 0)), (1, .int x1), (2, .int x9), (3, .int x10)]) hx hb dX7_goesRounds_32 hl (by decide) rfl (fun ls hl => ?_)
                refine lv_iload_n hx hb dX7_goesRounds_34 rfl (lv_at hl 3 rfl) ?_
                refine lv_iload hx hb dX7_goesRounds_35 (lv_at hl 0 rfl) ?_
                refine lv_aload_n hx hb dX7_goesRounds_37 rfl (lv_at hl 1 rfl) ?_
                refine va_get (D := D) (ci := 7) (v := .ref (a1 3)) (C := RX7) (T := TX7) (N := 33) hx hb hts iX7 hown hK hP 0 rfl rfl 2 (by decide) (hts _ aw738) (fun _ h9 => h9) rfl dX7_goesRounds_38 ?_
                refine lv_iload_n hx hb dX7_goesRounds_41 rfl (lv_at hl 4 rfl) ?_
                obtain ⟨h20, hf⟩ := ck_use hf
                refine z_iald hx hb hK hP 3 rfl h20 dX7_goesRounds_42 ?_
                refine lv_icmp_eq (tgt := 50) hx hb dX7_goesRounds_43 (by decide) (fun c21 => ?_) (fun c21 => ?_)
                · have hf := if_t c21 hf
                  refine lv_iconst (v := 0) hx hb dX7_goesRounds_50 (by decide) ?_
                  refine lv_ior hx hb dX7_goesRounds_51 ?_
                  refine lv_topi (fun x22 ex22 => ?_)
                  have hf := lt_use ex22 hf
                  refine lv_istore_n (lv' := [(2, .int x22), (4, .int r17), (0, .ref (a1 0)), (1, .int x1), (3, .int x10)]) hx hb dX7_goesRounds_52 rfl hl (by decide) rfl (fun ls hl => ?_)
                  refine lv_aload_n hx hb dX7_goesRounds_53 rfl (lv_at hl 2 rfl) ?_
                  refine va_get (D := D) (ci := 7) (v := .ref (a1 3)) (C := RX7) (T := TX7) (N := 33) hx hb hts iX7 hown hK hP 0 rfl rfl 2 (by decide) (hts _ aw738) (fun _ h9 => h9) rfl dX7_goesRounds_54 ?_
                  refine lv_iload_n hx hb dX7_goesRounds_57 rfl (lv_at hl 4 rfl) ?_
                  refine lv_iload hx hb dX7_goesRounds_58 (lv_at hl 1 rfl) ?_
                  obtain ⟨h24, hf⟩ := ck_use hf
                  refine z_iast hx hb hK hP hD hS 3 rfl h24 dX7_goesRounds_60 (fun (w9 : Mem) => (WMod z a1 w9)) (up2 y18 3 x10.toNatClampNeg r17) rfl (fun y23 ey23 H locs hP hD hS => ?_)
                  have hf := lt_use ey23 hf
                  obtain ⟨x25, ex25⟩ : ∃ y : Int32, y = x10 + 1 := ⟨_, rfl⟩
                  have hf := lt_use ex25 hf
                  refine lv_iinc (v := x25) (lv' := [(3, .int x25), (2, .int x22), (4, .int r17), (0, .ref (a1 0)), (1, .int x1)]) hx hb dX7_goesRounds_61 hl (k := 4) rfl (by rw [ex25]; rfl) (by decide) rfl (fun ls hl => ?_)
                  refine lv_goto (tgt := 18) hx hb dX7_goesRounds_64 (by decide) ?_
                  exact ih14 _ _ _ _ _ hP hD hS _ (lv_sub hl [3, 4, 1, 0] rfl) hf
                · have hf := if_f c21 hf
                  refine lv_iconst (v := 1) hx hb dX7_goesRounds_46 (by decide) ?_
                  refine lv_goto (tgt := 51) hx hb dX7_goesRounds_47 (by decide) ?_
                  refine lv_ior hx hb dX7_goesRounds_51 ?_
                  refine lv_topi (fun x26 ex26 => ?_)
                  have hf := lt_use ex26 hf
                  refine lv_istore_n (lv' := [(2, .int x26), (4, .int r17), (0, .ref (a1 0)), (1, .int x1), (3, .int x10)]) hx hb dX7_goesRounds_52 rfl hl (by decide) rfl (fun ls hl => ?_)
                  refine lv_aload_n hx hb dX7_goesRounds_53 rfl (lv_at hl 2 rfl) ?_
                  refine va_get (D := D) (ci := 7) (v := .ref (a1 3)) (C := RX7) (T := TX7) (N := 33) hx hb hts iX7 hown hK hP 0 rfl rfl 2 (by decide) (hts _ aw738) (fun _ h9 => h9) rfl dX7_goesRounds_54 ?_
                  refine lv_iload_n hx hb dX7_goesRounds_57 rfl (lv_at hl 4 rfl) ?_
                  refine lv_iload hx hb dX7_goesRounds_58 (lv_at hl 1 rfl) ?_
                  obtain ⟨h28, hf⟩ := ck_use hf
                  refine z_iast hx hb hK hP hD hS 3 rfl h28 dX7_goesRounds_60 (fun (w9 : Mem) => (WMod z a1 w9)) (up2 y18 3 x10.toNatClampNeg r17) rfl (fun y27 ey27 H locs hP hD hS => ?_)
                  have hf := lt_use ey27 hf
                  obtain ⟨x29, ex29⟩ : ∃ y : Int32, y = x10 + 1 := ⟨_, rfl⟩
                  have hf := lt_use ex29 hf
                  refine lv_iinc (v := x29) (lv' := [(3, .int x29), (2, .int x26), (4, .int r17), (0, .ref (a1 0)), (1, .int x1)]) hx hb dX7_goesRounds_61 hl (k := 4) rfl (by rw [ex29]; rfl) (by decide) rfl (fun ls hl => ?_)
                  refine lv_goto (tgt := 18) hx hb dX7_goesRounds_64 (by decide) ?_
                  exact ih14 _ _ _ _ _ hP hD hS _ (lv_sub hl [3, 4, 1, 0] rfl) hf
          exact L18_F12 fu _ _ _ _ _ hP hD hS _ (lv_sub hl [2, 3, 1, 0] rfl) hf
  exact L4_F4 fu _ _ _ _ _ hP hD hS _ (lv_sub hl [2, 1, 0] rfl) hf
def pX7_kindsDigits (fu : Nat) (m1 : Mem) : Option Int32 :=
  lt' (((m1 0 15) - 1) : Int32) fun x1 =>
  zl2 (fun g5 (x2 : Int32) (x3 : Int32) =>
    if x3 < 0 then
      some x2
    else
      ck x3 8 <|
      lt' (((10 * x2) + (m1 3 x3.toNatClampNeg)) : Int32) fun x9 =>
      lt' (x3 + (-1)) fun x10 =>
      g5 x9 x10) fu 0 x1
set_option maxHeartbeats 4000000 in
set_option maxRecDepth 100000 in
theorem tX7_kindsDigits (l : Launch) (D : va_G) (z tt : Nat → Nat) (a1 : Nat → Nat) (m1 : Mem)  (fu : Nat) (rr : Int32) (hf : pX7_kindsDigits fu m1 = some rr) : MetI l yX7_kindsDigits wsX7_kindsDigits ({ frames := 0, cells := 0, slots := 0, locals := 0 } : Room) D z tt ([.ref (a1 0)] : List Value) (WMod z a1 m1) rr (WMod z a1 m1) := by
  intro sz
  refine Met.ofW (cc := cX7_kindsDigits) (maxL := 3) (ret := (some .int)) (by decide) rfl ?_
  intro p e s m args below meth c s₁ B hml hv
  obtain ⟨rfl, hsz, hP, hK, hD0, hT, hN⟩ := hv
  have hx := B.exec
  have hb := B.bytes
  have hr := B.returns
  have hts : ∀ w ∈ wsA, w.before ([.ref (a1 0)] : List Value).toArray s = true := fun w h => atoms_spec (ws := wsX7_kindsDigits) B.pre w (List.mem_cons_of_mem _ h)
  have hown : s.vm.findClass RX7 = some m.cls := findClass_of_methodNamed B.named
  have hlocks := B.notSynchronized
  subst hsz
  have hD := hD0.self (sz := s.heap.size)
  generalize hAe : va_A (WMod z a1 m1) s.heap.size = A at hD hT ⊢
  have hA : ∀ q : Nat, s.heap.size ≤ q → A q := fun q h => by rw [← hAe]; exact Or.inr h
  have hS : va_S A s.heap s.heap [] := va_S.rf
  have hl := lv_entry ([.ref (a1 0)] : List Value) (n := 3) (Nat.le_of_ble_eq_true rfl)
  rw [lg_entry_eq]
  generalize (lg_sl ([.ref (a1 0)] : List Value) ++ List.replicate (3 - (lg_sl ([.ref (a1 0)] : List Value)).length) Slot.unset).toArray = ls at hl ⊢
  have hl : lv_has ls 3 [(0, .ref (a1 0))] := hl
  unfold pX7_kindsDigits at hf
  refine lv_iconst (v := 0) hx hb dX7_kindsDigits_0 (by decide) ?_
  refine lv_istore_n (lv' := [(1, .int 0), (0, .ref (a1 0))]) hx hb dX7_kindsDigits_1 rfl hl (by decide) rfl (fun ls hl => ?_)
  refine lv_aload_n hx hb dX7_kindsDigits_2 rfl (lv_at hl 1 rfl) ?_
  refine va_get (D := D) (ci := 7) (v := .int (m1 0 15)) (C := RX7) (T := TX7) (N := 33) hx hb hts iX7 hown hK hP 0 rfl rfl 15 (by decide) (hts _ aw751) (fun _ h9 => h9) rfl dX7_kindsDigits_3 ?_
  refine lv_iconst (v := 1) hx hb dX7_kindsDigits_6 (by decide) ?_
  refine lv_isub hx hb dX7_kindsDigits_7 ?_
  refine lv_topi (fun x1 ex1 => ?_)
  have hf := lt_use ex1 hf
  refine lv_istore_n (lv' := [(2, .int x1), (1, .int 0), (0, .ref (a1 0))]) hx hb dX7_kindsDigits_8 rfl hl (by decide) rfl (fun ls hl => ?_)
  obtain ⟨F4, eF4, hf⟩ := zl2_use hf
  have L9_F4 : ∀ (n : Nat) (x2 : Int32) (x3 : Int32) (H : Heap) (locs : List Loc), va_P D vwCl (WMod z a1 m1) H → va_D A (WMod z a1 m1) → va_S A s.heap H locs → ∀ (ls : Array Slot), lv_has ls 3 [(0, .ref (a1 0)), (1, .int x2), (2, .int x3)] → zl2 F4 n x2 x3 = some rr → GI p l e (headSpec wsX7_kindsDigits ({ frames := 0, cells := 0, slots := 0, locals := 0 } : Room)).room s m ([.ref (a1 0)] : List Value).toArray below meth c A D z rr (WMod z a1 m1) H locs (F0 m 9 ls []) := by
    intro n
    induction n with
    | zero =>
      intro x2 x3 H locs hP hD hS ls hl hf
      exact no_none hf
    | succ n ih6 =>
      intro x2 x3 H locs hP hD hS ls hl hf
      have hf := zl2_s eF4 hf
      refine lv_iload_n hx hb dX7_kindsDigits_9 rfl (lv_at hl 2 rfl) ?_
      refine lv_if_lt (tgt := 31) hx hb dX7_kindsDigits_10 (by decide) (fun c7 => ?_) (fun c7 => ?_)
      · have hf := if_t c7 hf
        refine lv_iload_n hx hb dX7_kindsDigits_31 rfl (lv_at hl 1 rfl) ?_
        obtain rfl := so1 hf
        exact ret_i hx hb hr hlocks hK hP hD hS dX7_kindsDigits_32
      · have hf := if_f c7 hf
        refine lv_bipush (v := 10) hx hb dX7_kindsDigits_13 (by decide) ?_
        refine lv_iload_n hx hb dX7_kindsDigits_15 rfl (lv_at hl 1 rfl) ?_
        refine lv_imul hx hb dX7_kindsDigits_16 ?_
        refine lv_aload_n hx hb dX7_kindsDigits_17 rfl (lv_at hl 0 rfl) ?_
        refine va_get (D := D) (ci := 7) (v := .ref (a1 3)) (C := RX7) (T := TX7) (N := 33) hx hb hts iX7 hown hK hP 0 rfl rfl 2 (by decide) (hts _ aw738) (fun _ h9 => h9) rfl dX7_kindsDigits_18 ?_
        refine lv_iload_n hx hb dX7_kindsDigits_21 rfl (lv_at hl 2 rfl) ?_
        obtain ⟨h8, hf⟩ := ck_use hf
        refine z_iald hx hb hK hP 3 rfl h8 dX7_kindsDigits_22 ?_
        refine lv_iadd hx hb dX7_kindsDigits_23 ?_
        refine lv_topi (fun x9 ex9 => ?_)
        have hf := lt_use ex9 hf
        refine lv_istore_n (lv' := [(1, .int x9), (0, .ref (a1 0)), (2, .int x3)]) hx hb dX7_kindsDigits_24 rfl hl (by decide) rfl (fun ls hl => ?_)
        obtain ⟨x10, ex10⟩ : ∃ y : Int32, y = x3 + (-1) := ⟨_, rfl⟩
        have hf := lt_use ex10 hf
        refine lv_iinc (v := x10) (lv' := [(2, .int x10), (1, .int x9), (0, .ref (a1 0))]) hx hb dX7_kindsDigits_25 hl (k := 2) rfl (by rw [ex10]; rfl) (by decide) rfl (fun ls hl => ?_)
        refine lv_goto (tgt := 9) hx hb dX7_kindsDigits_28 (by decide) ?_
        exact ih6 _ _ _ _ hP hD hS _ (lv_sub hl [2, 1, 0] rfl) hf
  exact L9_F4 fu _ _ _ _ hP hD hS _ (lv_sub hl [2, 1, 0] rfl) hf
def pX7_leastOfOneKind (fu : Nat) (m1 : Mem) : Option (Int32 × Mem) :=
  zl3 (fun g5 (x1 : Int32) (x2 : Int32) (y3 : Mem) =>
    if 7 ≤ x2 then
      some (x1, y3)
    else
      zl2 (fun g11 (x8 : Int32) (y9 : Mem) =>
        if (y9 0 15) ≤ x8 then
          bd2 (pX7_costAnew fu y9) fun r14 y15 =>
          if x1 ≤ r14 then
            lt' (x2 + 1) fun x18 =>
            g5 x1 x18 y15
          else
            lt' (x2 + 1) fun x19 =>
            g5 r14 x19 y15
        else
          ck x8 8 <|
          lt' (up2 y9 3 x8.toNatClampNeg x2) fun y20 =>
          lt' (x8 + 1) fun x22 =>
          g11 x22 y20) fu 0 y3) fu 1000000000 0 m1
set_option maxHeartbeats 4000000 in
set_option maxRecDepth 100000 in
theorem tX7_leastOfOneKind (l : Launch) (D : va_G) (z tt : Nat → Nat) (a1 : Nat → Nat) (m1 : Mem)  (fu : Nat) (rr : Int32) (m1' : Mem) (hf : pX7_leastOfOneKind fu m1 = some (rr, m1')) : MetI l yX7_leastOfOneKind wsX7_leastOfOneKind ({ frames := 8, cells := 0, slots := 0, locals := 176 } : Room) D z tt ([.ref (a1 0)] : List Value) (WMod z a1 m1) rr (WMod z a1 m1') := by
  intro sz
  refine Met.ofW (cc := cX7_leastOfOneKind) (maxL := 4) (ret := (some .int)) (by decide) rfl ?_
  intro p e s m args below meth c s₁ B hml hv
  obtain ⟨rfl, hsz, hP, hK, hD0, hT, hN⟩ := hv
  have hx := B.exec
  have hb := B.bytes
  have hr := B.returns
  have hts : ∀ w ∈ wsA, w.before ([.ref (a1 0)] : List Value).toArray s = true := fun w h => atoms_spec (ws := wsX7_leastOfOneKind) B.pre w (List.mem_cons_of_mem _ h)
  have hown : s.vm.findClass RX7 = some m.cls := findClass_of_methodNamed B.named
  have hlocks := B.notSynchronized
  subst hsz
  have hD := hD0.self (sz := s.heap.size)
  generalize hAe : va_A (WMod z a1 m1) s.heap.size = A at hD hT ⊢
  have hA : ∀ q : Nat, s.heap.size ≤ q → A q := fun q h => by rw [← hAe]; exact Or.inr h
  have hS : va_S A s.heap s.heap [] := va_S.rf
  have hl := lv_entry ([.ref (a1 0)] : List Value) (n := 4) (Nat.le_of_ble_eq_true rfl)
  rw [lg_entry_eq]
  generalize (lg_sl ([.ref (a1 0)] : List Value) ++ List.replicate (4 - (lg_sl ([.ref (a1 0)] : List Value)).length) Slot.unset).toArray = ls at hl ⊢
  have hl : lv_has ls 4 [(0, .ref (a1 0))] := hl
  unfold pX7_leastOfOneKind at hf
  refine lv_ldc (v := 1000000000) hx hb hown (hts _ aw1036) dX7_leastOfOneKind_0 ?_
  refine lv_istore_n (lv' := [(1, .int 1000000000), (0, .ref (a1 0))]) hx hb dX7_leastOfOneKind_2 rfl hl (by decide) rfl (fun ls hl => ?_)
  refine lv_iconst (v := 0) hx hb dX7_leastOfOneKind_3 (by decide) ?_
  refine lv_istore_n (lv' := [(2, .int 0), (1, .int 1000000000), (0, .ref (a1 0))]) hx hb dX7_leastOfOneKind_4 rfl hl (by decide) rfl (fun ls hl => ?_)
  obtain ⟨F4, eF4, hf⟩ := zl3_use hf
  have L5_F4 : ∀ (n : Nat) (x1 : Int32) (x2 : Int32) (y3 : Mem) (H : Heap) (locs : List Loc), va_P D vwCl (WMod z a1 y3) H → va_D A (WMod z a1 y3) → va_S A s.heap H locs → ∀ (ls : Array Slot), lv_has ls 4 [(0, .ref (a1 0)), (1, .int x1), (2, .int x2)] → zl3 F4 n x1 x2 y3 = some (rr, m1') → GI p l e (headSpec wsX7_leastOfOneKind ({ frames := 8, cells := 0, slots := 0, locals := 176 } : Room)).room s m ([.ref (a1 0)] : List Value).toArray below meth c A D z rr (WMod z a1 m1') H locs (F0 m 5 ls []) := by
    intro n
    induction n with
    | zero =>
      intro x1 x2 y3 H locs hP hD hS ls hl hf
      exact no_none hf
    | succ n ih6 =>
      intro x1 x2 y3 H locs hP hD hS ls hl hf
      have hf := zl3_s eF4 hf
      refine lv_iload_n hx hb dX7_leastOfOneKind_5 rfl (lv_at hl 2 rfl) ?_
      refine lv_bipush (v := 7) hx hb dX7_leastOfOneKind_6 (by decide) ?_
      refine lv_icmp_ge (tgt := 56) hx hb dX7_leastOfOneKind_8 (by decide) (fun c7 => ?_) (fun c7 => ?_)
      · have hf := if_t c7 hf
        refine lv_iload_n hx hb dX7_leastOfOneKind_56 rfl (lv_at hl 1 rfl) ?_
        obtain ⟨rfl, rfl⟩ := so2 hf
        exact ret_i hx hb hr hlocks hK hP hD hS dX7_leastOfOneKind_57
      · have hf := if_f c7 hf
        refine lv_iconst (v := 0) hx hb dX7_leastOfOneKind_11 (by decide) ?_
        refine lv_istore_n (lv' := [(3, .int 0), (0, .ref (a1 0)), (1, .int x1), (2, .int x2)]) hx hb dX7_leastOfOneKind_12 rfl hl (by decide) rfl (fun ls hl => ?_)
        obtain ⟨F10, eF10, hf⟩ := zl2_use hf
        have L13_F10 : ∀ (n : Nat) (x8 : Int32) (y9 : Mem) (H : Heap) (locs : List Loc), va_P D vwCl (WMod z a1 y9) H → va_D A (WMod z a1 y9) → va_S A s.heap H locs → ∀ (ls : Array Slot), lv_has ls 4 [(0, .ref (a1 0)), (1, .int x1), (2, .int x2), (3, .int x8)] → zl2 F10 n x8 y9 = some (rr, m1') → GI p l e (headSpec wsX7_leastOfOneKind ({ frames := 8, cells := 0, slots := 0, locals := 176 } : Room)).room s m ([.ref (a1 0)] : List Value).toArray below meth c A D z rr (WMod z a1 m1') H locs (F0 m 13 ls []) := by
          intro n
          induction n with
          | zero =>
            intro x8 y9 H locs hP hD hS ls hl hf
            exact no_none hf
          | succ n ih12 =>
            intro x8 y9 H locs hP hD hS ls hl hf
            have hf := zl2_s eF10 hf
            refine lv_iload_n hx hb dX7_leastOfOneKind_13 rfl (lv_at hl 3 rfl) ?_
            refine lv_aload_n hx hb dX7_leastOfOneKind_14 rfl (lv_at hl 0 rfl) ?_
            refine va_get (D := D) (ci := 7) (v := .int (y9 0 15)) (C := RX7) (T := TX7) (N := 33) hx hb hts iX7 hown hK hP 0 rfl rfl 15 (by decide) (hts _ aw751) (fun _ h9 => h9) rfl dX7_leastOfOneKind_15 ?_
            refine lv_icmp_ge (tgt := 34) hx hb dX7_leastOfOneKind_18 (by decide) (fun c13 => ?_) (fun c13 => ?_)
            · have hf := if_t c13 hf
              refine lv_aload_n hx hb dX7_leastOfOneKind_34 rfl (lv_at hl 0 rfl) ?_
              obtain ⟨r14, y15, q16, hf⟩ := bd2_use hf
              have hfo : Foc (WMod z a1 y9) (WMod z a1 y9) (WMod z a1 y15) (WMod z a1 y15) := foc_all
              refine z_goI (ws1 := (WMod z a1 y15)) (va_runV (As := []) (rest := []) ⟨hx, hb, hml, hown, hts⟩ (tX7_costAnew l D z tt a1 y9  fu r14 y15 q16 _) (cwV 0 hts (gV4 aw1037 aw1039 aw34 aw52 aw1040) rfl rfl rfl (by decide +kernel) ⟨Nat.le_of_ble_eq_true rfl, Nat.le_of_ble_eq_true rfl⟩) (z_preV hK hP hD hS hA hT hN hfo (va_recv hK hP (ci := 7) (q0 := 0) rfl rfl)) rfl rfl hl.1 rfl (lv_room (Nat.le_of_ble_eq_true rfl)) dX7_leastOfOneKind_35 ⟨Nat.zero_le _, Nat.zero_le _⟩) hP hD hS hA hfo (fun H locs hP hD hS => ?_)
              refine lv_istore_n (lv' := [(3, .int r14), (0, .ref (a1 0)), (1, .int x1), (2, .int x2)]) hx hb dX7_leastOfOneKind_38 rfl hl (by decide) rfl (fun ls hl => ?_)
              refine lv_iload_n hx hb dX7_leastOfOneKind_39 rfl (lv_at hl 0 rfl) ?_
              refine lv_iload_n hx hb dX7_leastOfOneKind_40 rfl (lv_at hl 2 rfl) ?_
              refine lv_icmp_ge (tgt := 48) hx hb dX7_leastOfOneKind_41 (by decide) (fun c17 => ?_) (fun c17 => ?_)
              · have hf := if_t c17 hf
                refine lv_iload_n hx hb dX7_leastOfOneKind_48 rfl (lv_at hl 2 rfl) ?_
                refine lv_istore_n (lv' := [(1, .int x1), (3, .int r14), (0, .ref (a1 0)), (2, .int x2)]) hx hb dX7_leastOfOneKind_49 rfl hl (by decide) rfl (fun ls hl => ?_)
                obtain ⟨x18, ex18⟩ : ∃ y : Int32, y = x2 + 1 := ⟨_, rfl⟩
                have hf := lt_use ex18 hf
                refine lv_iinc (v := x18) (lv' := [(2, .int x18), (1, .int x1), (3, .int r14), (0, .ref (a1 0))]) hx hb dX7_leastOfOneKind_50 hl (k := 3) rfl (by rw [ex18]; rfl) (by decide) rfl (fun ls hl => ?_)
                refine lv_goto (tgt := 5) hx hb dX7_leastOfOneKind_53 (by decide) ?_
                exact ih6 _ _ _ _ _ hP hD hS _ (lv_sub hl [3, 1, 0] rfl) hf
              · have hf := if_f c17 hf
                refine lv_iload_n hx hb dX7_leastOfOneKind_44 rfl (lv_at hl 0 rfl) ?_
                refine lv_goto (tgt := 49) hx hb dX7_leastOfOneKind_45 (by decide) ?_
                refine lv_istore_n (lv' := [(1, .int r14), (3, .int r14), (0, .ref (a1 0)), (2, .int x2)]) hx hb dX7_leastOfOneKind_49 rfl hl (by decide) rfl (fun ls hl => ?_)
                obtain ⟨x19, ex19⟩ : ∃ y : Int32, y = x2 + 1 := ⟨_, rfl⟩
                have hf := lt_use ex19 hf
                refine lv_iinc (v := x19) (lv' := [(2, .int x19), (1, .int r14), (3, .int r14), (0, .ref (a1 0))]) hx hb dX7_leastOfOneKind_50 hl (k := 3) rfl (by rw [ex19]; rfl) (by decide) rfl (fun ls hl => ?_)
                refine lv_goto (tgt := 5) hx hb dX7_leastOfOneKind_53 (by decide) ?_
                exact ih6 _ _ _ _ _ hP hD hS _ (lv_sub hl [3, 1, 0] rfl) hf
            · have hf := if_f c13 hf
              refine lv_aload_n hx hb dX7_leastOfOneKind_21 rfl (lv_at hl 0 rfl) ?_
              refine va_get (D := D) (ci := 7) (v := .ref (a1 3)) (C := RX7) (T := TX7) (N := 33) hx hb hts iX7 hown hK hP 0 rfl rfl 2 (by decide) (hts _ aw738) (fun _ h9 => h9) rfl dX7_leastOfOneKind_22 ?_
              refine lv_iload_n hx hb dX7_leastOfOneKind_25 rfl (lv_at hl 3 rfl) ?_
              refine lv_iload_n hx hb dX7_leastOfOneKind_26 rfl (lv_at hl 2 rfl) ?_
              obtain ⟨h21, hf⟩ := ck_use hf
              refine z_iast hx hb hK hP hD hS 3 rfl h21 dX7_leastOfOneKind_27 (fun (w9 : Mem) => (WMod z a1 w9)) (up2 y9 3 x8.toNatClampNeg x2) rfl (fun y20 ey20 H locs hP hD hS => ?_)
              have hf := lt_use ey20 hf
              obtain ⟨x22, ex22⟩ : ∃ y : Int32, y = x8 + 1 := ⟨_, rfl⟩
              have hf := lt_use ex22 hf
              refine lv_iinc (v := x22) (lv' := [(3, .int x22), (0, .ref (a1 0)), (1, .int x1), (2, .int x2)]) hx hb dX7_leastOfOneKind_28 hl (k := 3) rfl (by rw [ex22]; rfl) (by decide) rfl (fun ls hl => ?_)
              refine lv_goto (tgt := 13) hx hb dX7_leastOfOneKind_31 (by decide) ?_
              exact ih12 _ _ _ _ hP hD hS _ (lv_sub hl [1, 2, 3, 0] rfl) hf
        exact L13_F10 fu _ _ _ _ hP hD hS _ (lv_sub hl [1, 2, 3, 0] rfl) hf
  exact L5_F4 fu _ _ _ _ _ hP hD hS _ (lv_sub hl [2, 1, 0] rfl) hf
def pX7_rounds (fu : Nat) (m1 : Mem) (p1 : Int32) : Option (Int32 × Mem) :=
  bd (pX7_isIn fu p1 0 3) fun r1 =>
  if r1 = 0 then
    bd2 (pX7_lower fu m1 (-2)) fun r31 y32 =>
    some (r31, y32)
  else
    bd (pX7_passesAll fu m1 1 1) fun y4 =>
    bd2 (pX7_goesRounds fu y4) fun r6 y7 =>
    jn1 (fun (x9 : Int32) =>
      jn2 (fun (x11 : Int32) (y12 : Mem) =>
        jn2 (fun (x14 : Int32) (y15 : Mem) =>
          bd (pX7_passesAll fu y15 1 0) fun y17 =>
          some (x14, y17)) fun k16 =>
        if p1 = 3 then
          bd2 (pX7_leastOfOneKind fu y12) fun r20 y21 =>
          lt' ((x11 - r20) : Int32) fun x23 =>
          k16 x23 y21
        else
          k16 x11 y12) fun k13 =>
      if p1 ≤ 1 then
        k13 x9 y7
      else
        bd2 (pX7_costAnew fu y7) fun r25 y26 =>
        k13 r25 y26) fun k10 =>
    if p1 = 1 then
      bd (pX7_kindsDigits fu y7) fun r29 =>
      k10 r29
    else
      k10 r6
set_option maxHeartbeats 4000000 in
set_option maxRecDepth 100000 in
theorem tX7_rounds (l : Launch) (D : va_G) (z tt : Nat → Nat) (a1 : Nat → Nat) (m1 : Mem) (p1 : Int32) (fu : Nat) (rr : Int32) (m1' : Mem) (hf : pX7_rounds fu m1 p1 = some (rr, m1')) : MetI l yX7_rounds wsX7_rounds ({ frames := 10, cells := 0, slots := 0, locals := 227 } : Room) D z tt ([.ref (a1 0), .int p1] : List Value) (WMod z a1 m1) rr (WMod z a1 m1') := by
  intro sz
  refine Met.ofW (cc := cX7_rounds) (maxL := 3) (ret := (some .int)) (by decide) rfl ?_
  intro p e s m args below meth c s₁ B hml hv
  obtain ⟨rfl, hsz, hP, hK, hD0, hT, hN⟩ := hv
  have hx := B.exec
  have hb := B.bytes
  have hr := B.returns
  have hts : ∀ w ∈ wsA, w.before ([.ref (a1 0), .int p1] : List Value).toArray s = true := fun w h => atoms_spec (ws := wsX7_rounds) B.pre w (List.mem_cons_of_mem _ h)
  have hown : s.vm.findClass RX7 = some m.cls := findClass_of_methodNamed B.named
  have hlocks := B.notSynchronized
  subst hsz
  have hD := hD0.self (sz := s.heap.size)
  generalize hAe : va_A (WMod z a1 m1) s.heap.size = A at hD hT ⊢
  have hA : ∀ q : Nat, s.heap.size ≤ q → A q := fun q h => by rw [← hAe]; exact Or.inr h
  have hS : va_S A s.heap s.heap [] := va_S.rf
  have hl := lv_entry ([.ref (a1 0), .int p1] : List Value) (n := 3) (Nat.le_of_ble_eq_true rfl)
  rw [lg_entry_eq]
  generalize (lg_sl ([.ref (a1 0), .int p1] : List Value) ++ List.replicate (3 - (lg_sl ([.ref (a1 0), .int p1] : List Value)).length) Slot.unset).toArray = ls at hl ⊢
  have hl : lv_has ls 3 [(0, .ref (a1 0)), (1, .int p1)] := hl
  unfold pX7_rounds at hf
  refine lv_iload_n hx hb dX7_rounds_0 rfl (lv_at hl 1 rfl) ?_
  refine lv_iconst (v := 0) hx hb dX7_rounds_1 (by decide) ?_
  refine lv_iconst (v := 3) hx hb dX7_rounds_2 (by decide) ?_
  obtain ⟨r1, q2, hf⟩ := bd_use hf
  have hfo : Foc (WMod z a1 m1) ([] : va_W) (WMod z a1 m1) ([] : va_W) := foc_nil
  refine z_goI (ws1 := (WMod z a1 m1)) (va_runS (As := [.int p1, .int 0, .int 3]) (rest := []) ⟨hx, hb, hml, hown, hts⟩ (tX7_isIn l D z tt  p1 0 3 fu r1 q2 _) (va_cwS 3 hts (gS3 aw867 aw868 aw52 aw869) rfl rfl rfl (by decide +kernel) ⟨Nat.le_of_ble_eq_true rfl, Nat.le_of_ble_eq_true rfl⟩) (z_preS hK hP hD hS hA hT hN hfo) rfl rfl hl.1 rfl (lv_room (Nat.le_of_ble_eq_true rfl)) dX7_rounds_3 ⟨Nat.zero_le _, Nat.zero_le _⟩) hP hD hS hA hfo (fun H locs hP hD hS => ?_)
  refine lv_if_ne (tgt := 16) hx hb dX7_rounds_6 (by decide) (fun c3 => ?_) (fun c3 => ?_)
  · have hf := if_f c3 hf
    refine lv_aload_n hx hb dX7_rounds_16 rfl (lv_at hl 0 rfl) ?_
    refine lv_iconst (v := 1) hx hb dX7_rounds_17 (by decide) ?_
    refine lv_iconst (v := 1) hx hb dX7_rounds_18 (by decide) ?_
    obtain ⟨y4, q5, hf⟩ := bd_use hf
    have hfo : Foc (WMod z a1 m1) (WMod z a1 m1) (WMod z a1 y4) (WMod z a1 y4) := foc_all
    refine z_goV (ws1 := (WMod z a1 y4)) (va_runV (As := [.int 1, .int 1]) (rest := []) ⟨hx, hb, hml, hown, hts⟩ (tX7_passesAll l D z tt a1 m1 1 1 fu y4 q5 _) (cwV 2 hts (gV4 aw874 aw876 aw7 aw52 aw877) rfl rfl rfl (by decide +kernel) ⟨Nat.le_of_ble_eq_true rfl, Nat.le_of_ble_eq_true rfl⟩) (z_preV hK hP hD hS hA hT hN hfo (va_recv hK hP (ci := 7) (q0 := 0) rfl rfl)) rfl rfl hl.1 rfl (lv_room (Nat.le_of_ble_eq_true rfl)) dX7_rounds_19 ⟨Nat.zero_le _, Nat.zero_le _⟩) hP hD hS hA hfo (fun H locs hP hD hS => ?_)
    refine lv_aload_n hx hb dX7_rounds_22 rfl (lv_at hl 0 rfl) ?_
    obtain ⟨r6, y7, q8, hf⟩ := bd2_use hf
    have hfo : Foc (WMod z a1 y4) (WMod z a1 y4) (WMod z a1 y7) (WMod z a1 y7) := foc_all
    refine z_goI (ws1 := (WMod z a1 y7)) (va_runV (As := []) (rest := []) ⟨hx, hb, hml, hown, hts⟩ (tX7_goesRounds l D z tt a1 y4  fu r6 y7 q8 _) (cwV 0 hts (gV4 aw1049 aw1051 aw36 aw52 aw1052) rfl rfl rfl (by decide +kernel) ⟨Nat.le_of_ble_eq_true rfl, Nat.le_of_ble_eq_true rfl⟩) (z_preV hK hP hD hS hA hT hN hfo (va_recv hK hP (ci := 7) (q0 := 0) rfl rfl)) rfl rfl hl.1 rfl (lv_room (Nat.le_of_ble_eq_true rfl)) dX7_rounds_23 ⟨Nat.zero_le _, Nat.zero_le _⟩) hP hD hS hA hfo (fun H locs hP hD hS => ?_)
    refine lv_istore_n (lv' := [(2, .int r6), (0, .ref (a1 0)), (1, .int p1)]) hx hb dX7_rounds_26 rfl hl (by decide) rfl (fun ls hl => ?_)
    refine lv_iload_n hx hb dX7_rounds_27 rfl (lv_at hl 2 rfl) ?_
    refine lv_iconst (v := 1) hx hb dX7_rounds_28 (by decide) ?_
    obtain ⟨k10, ek10, hf⟩ := jn1_use hf
    have B37_k10 : ∀ (x9 : Int32) (H : Heap) (locs : List Loc), va_P D vwCl (WMod z a1 y7) H → va_D A (WMod z a1 y7) → va_S A s.heap H locs → ∀ (ls : Array Slot), lv_has ls 3 [(0, .ref (a1 0)), (1, .int p1), (2, .int x9)] → k10 x9 = some (rr, m1') → GI p l e (headSpec wsX7_rounds ({ frames := 10, cells := 0, slots := 0, locals := 227 } : Room)).room s m ([.ref (a1 0), .int p1] : List Value).toArray below meth c A D z rr (WMod z a1 m1') H locs (F0 m 37 ls []) := by
      intro x9 H locs hP hD hS ls hl hf
      have hf := jn1_ap ek10 hf
      refine lv_iload_n hx hb dX7_rounds_37 rfl (lv_at hl 1 rfl) ?_
      refine lv_iconst (v := 1) hx hb dX7_rounds_38 (by decide) ?_
      obtain ⟨k13, ek13, hf⟩ := jn2_use hf
      have B47_k13 : ∀ (x11 : Int32) (y12 : Mem) (H : Heap) (locs : List Loc), va_P D vwCl (WMod z a1 y12) H → va_D A (WMod z a1 y12) → va_S A s.heap H locs → ∀ (ls : Array Slot), lv_has ls 3 [(0, .ref (a1 0)), (1, .int p1), (2, .int x11)] → k13 x11 y12 = some (rr, m1') → GI p l e (headSpec wsX7_rounds ({ frames := 10, cells := 0, slots := 0, locals := 227 } : Room)).room s m ([.ref (a1 0), .int p1] : List Value).toArray below meth c A D z rr (WMod z a1 m1') H locs (F0 m 47 ls []) := by
        intro x11 y12 H locs hP hD hS ls hl hf
        have hf := jn2_ap ek13 hf
        refine lv_iload_n hx hb dX7_rounds_47 rfl (lv_at hl 1 rfl) ?_
        refine lv_iconst (v := 3) hx hb dX7_rounds_48 (by decide) ?_
        obtain ⟨k16, ek16, hf⟩ := jn2_use hf
        have B59_k16 : ∀ (x14 : Int32) (y15 : Mem) (H : Heap) (locs : List Loc), va_P D vwCl (WMod z a1 y15) H → va_D A (WMod z a1 y15) → va_S A s.heap H locs → ∀ (ls : Array Slot), lv_has ls 3 [(0, .ref (a1 0)), (2, .int x14)] → k16 x14 y15 = some (rr, m1') → GI p l e (headSpec wsX7_rounds ({ frames := 10, cells := 0, slots := 0, locals := 227 } : Room)).room s m ([.ref (a1 0), .int p1] : List Value).toArray below meth c A D z rr (WMod z a1 m1') H locs (F0 m 59 ls []) := by
          intro x14 y15 H locs hP hD hS ls hl hf
          have hf := jn2_ap ek16 hf
          refine lv_aload_n hx hb dX7_rounds_59 rfl (lv_at hl 0 rfl) ?_
          refine lv_iconst (v := 1) hx hb dX7_rounds_60 (by decide) ?_
          refine lv_iconst (v := 0) hx hb dX7_rounds_61 (by decide) ?_
          obtain ⟨y17, q18, hf⟩ := bd_use hf
          have hfo : Foc (WMod z a1 y15) (WMod z a1 y15) (WMod z a1 y17) (WMod z a1 y17) := foc_all
          refine z_goV (ws1 := (WMod z a1 y17)) (va_runV (As := [.int 1, .int 0]) (rest := []) ⟨hx, hb, hml, hown, hts⟩ (tX7_passesAll l D z tt a1 y15 1 0 fu y17 q18 _) (cwV 2 hts (gV4 aw874 aw876 aw7 aw52 aw877) rfl rfl rfl (by decide +kernel) ⟨Nat.le_of_ble_eq_true rfl, Nat.le_of_ble_eq_true rfl⟩) (z_preV hK hP hD hS hA hT hN hfo (va_recv hK hP (ci := 7) (q0 := 0) rfl rfl)) rfl rfl hl.1 rfl (lv_room (Nat.le_of_ble_eq_true rfl)) dX7_rounds_62 ⟨Nat.zero_le _, Nat.zero_le _⟩) hP hD hS hA hfo (fun H locs hP hD hS => ?_)
          refine lv_iload_n hx hb dX7_rounds_65 rfl (lv_at hl 1 rfl) ?_
          obtain ⟨rfl, rfl⟩ := so2 hf
          exact ret_i hx hb hr hlocks hK hP hD hS dX7_rounds_66
        refine lv_icmp_ne (tgt := 59) hx hb dX7_rounds_49 (by decide) (fun c19 => ?_) (fun c19 => ?_)
        · have hf := if_f c19 hf
          exact B59_k16 _ _ _ _ hP hD hS _ (lv_sub hl [0, 2] rfl) hf
        · have hf := if_t c19 hf
          refine lv_iload_n hx hb dX7_rounds_52 rfl (lv_at hl 2 rfl) ?_
          refine lv_aload_n hx hb dX7_rounds_53 rfl (lv_at hl 0 rfl) ?_
          obtain ⟨r20, y21, q22, hf⟩ := bd2_use hf
          have hfo : Foc (WMod z a1 y12) (WMod z a1 y12) (WMod z a1 y21) (WMod z a1 y21) := foc_all
          refine z_goI (ws1 := (WMod z a1 y21)) (va_runV (As := []) (rest := [.int x11]) ⟨hx, hb, hml, hown, hts⟩ (tX7_leastOfOneKind l D z tt a1 y12  fu r20 y21 q22 _) (cwV 0 hts (gV4 aw1057 aw1059 aw38 aw52 aw1060) rfl rfl rfl (by decide +kernel) ⟨Nat.le_of_ble_eq_true rfl, Nat.le_of_ble_eq_true rfl⟩) (z_preV hK hP hD hS hA hT hN hfo (va_recv hK hP (ci := 7) (q0 := 0) rfl rfl)) rfl rfl hl.1 rfl (lv_room (Nat.le_of_ble_eq_true rfl)) dX7_rounds_54 ⟨Nat.zero_le _, Nat.zero_le _⟩) hP hD hS hA hfo (fun H locs hP hD hS => ?_)
          refine lv_isub hx hb dX7_rounds_57 ?_
          refine lv_topi (fun x23 ex23 => ?_)
          have hf := lt_use ex23 hf
          refine lv_istore_n (lv' := [(2, .int x23), (0, .ref (a1 0)), (1, .int p1)]) hx hb dX7_rounds_58 rfl hl (by decide) rfl (fun ls hl => ?_)
          exact B59_k16 _ _ _ _ hP hD hS _ (lv_sub hl [1, 0] rfl) hf
      refine lv_icmp_le (tgt := 47) hx hb dX7_rounds_39 (by decide) (fun c24 => ?_) (fun c24 => ?_)
      · have hf := if_t c24 hf
        exact B47_k13 _ _ _ _ hP hD hS _ (lv_sub hl [0, 1, 2] rfl) hf
      · have hf := if_f c24 hf
        refine lv_aload_n hx hb dX7_rounds_42 rfl (lv_at hl 0 rfl) ?_
        obtain ⟨r25, y26, q27, hf⟩ := bd2_use hf
        have hfo : Foc (WMod z a1 y7) (WMod z a1 y7) (WMod z a1 y26) (WMod z a1 y26) := foc_all
        refine z_goI (ws1 := (WMod z a1 y26)) (va_runV (As := []) (rest := []) ⟨hx, hb, hml, hown, hts⟩ (tX7_costAnew l D z tt a1 y7  fu r25 y26 q27 _) (cwV 0 hts (gV4 aw1037 aw1039 aw34 aw52 aw1040) rfl rfl rfl (by decide +kernel) ⟨Nat.le_of_ble_eq_true rfl, Nat.le_of_ble_eq_true rfl⟩) (z_preV hK hP hD hS hA hT hN hfo (va_recv hK hP (ci := 7) (q0 := 0) rfl rfl)) rfl rfl hl.1 rfl (lv_room (Nat.le_of_ble_eq_true rfl)) dX7_rounds_43 ⟨Nat.zero_le _, Nat.zero_le _⟩) hP hD hS hA hfo (fun H locs hP hD hS => ?_)
        refine lv_istore_n (lv' := [(2, .int r25), (0, .ref (a1 0)), (1, .int p1)]) hx hb dX7_rounds_46 rfl hl (by decide) rfl (fun ls hl => ?_)
        exact B47_k13 _ _ _ _ hP hD hS _ (lv_sub hl [1, 2, 0] rfl) hf
    refine lv_icmp_ne (tgt := 37) hx hb dX7_rounds_29 (by decide) (fun c28 => ?_) (fun c28 => ?_)
    · have hf := if_f c28 hf
      exact B37_k10 _ _ _ hP hD hS _ (lv_sub hl [1, 2, 0] rfl) hf
    · have hf := if_t c28 hf
      refine lv_aload_n hx hb dX7_rounds_32 rfl (lv_at hl 1 rfl) ?_
      obtain ⟨r29, q30, hf⟩ := bd_use hf
      have hfo : Foc (WMod z a1 y7) (WMod z a1 y7) (WMod z a1 y7) (WMod z a1 y7) := foc_all
      refine z_goI (ws1 := (WMod z a1 y7)) (va_runV (As := []) (rest := []) ⟨hx, hb, hml, hown, hts⟩ (tX7_kindsDigits l D z tt a1 y7  fu r29 q30 _) (cwV 0 hts (gV4 aw1053 aw1055 aw37 aw52 aw1056) rfl rfl rfl (by decide +kernel) ⟨Nat.le_of_ble_eq_true rfl, Nat.le_of_ble_eq_true rfl⟩) (z_preV hK hP hD hS hA hT hN hfo (va_recv hK hP (ci := 7) (q0 := 0) rfl rfl)) rfl rfl hl.1 rfl (lv_room (Nat.le_of_ble_eq_true rfl)) dX7_rounds_33 ⟨Nat.zero_le _, Nat.zero_le _⟩) hP hD hS hA hfo (fun H locs hP hD hS => ?_)
      refine lv_istore_n (lv' := [(2, .int r29), (0, .ref (a1 0)), (1, .int p1)]) hx hb dX7_rounds_36 rfl hl (by decide) rfl (fun ls hl => ?_)
      exact B37_k10 _ _ _ hP hD hS _ (lv_sub hl [1, 2, 0] rfl) hf
  · have hf := if_t c3 hf
    refine lv_aload_n hx hb dX7_rounds_9 rfl (lv_at hl 0 rfl) ?_
    refine lv_bipush (v := (-2)) hx hb dX7_rounds_10 (by decide) ?_
    obtain ⟨r31, y32, q33, hf⟩ := bd2_use hf
    have hfo : Foc (WMod z a1 m1) (WMod z a1 m1) (WMod z a1 y32) (WMod z a1 y32) := foc_all
    refine z_goI (ws1 := (WMod z a1 y32)) (va_runV (As := [.int (-2)]) (rest := []) ⟨hx, hb, hml, hown, hts⟩ (tX7_lower l D z tt a1 m1 (-2) fu r31 y32 q33 _) (cwV 1 hts (gV4 aw1045 aw1047 aw35 aw52 aw1048) rfl rfl rfl (by decide +kernel) ⟨Nat.le_of_ble_eq_true rfl, Nat.le_of_ble_eq_true rfl⟩) (z_preV hK hP hD hS hA hT hN hfo (va_recv hK hP (ci := 7) (q0 := 0) rfl rfl)) rfl rfl hl.1 rfl (lv_room (Nat.le_of_ble_eq_true rfl)) dX7_rounds_12 ⟨Nat.zero_le _, Nat.zero_le _⟩) hP hD hS hA hfo (fun H locs hP hD hS => ?_)
    obtain ⟨rfl, rfl⟩ := so2 hf
    exact ret_i hx hb hr hlocks hK hP hD hS dX7_rounds_15
def pX7_marks (fu : Nat) (m1 : Mem) (p1 : Int32) : Option (Int32 × Mem) :=
  bd (pX7_isIn fu p1 0 1) fun r1 =>
  if r1 = 0 then
    bd2 (pX7_no fu m1 (-2)) fun r24 y25 =>
    some (r24, y25)
  else
    bd (pX7_passesAll fu m1 1 1) fun y4 =>
    zl4 (fun g11 (x6 : Int32) (x7 : Int32) (x8 : Int32) (y9 : Mem) =>
      if (y9 2 0) < x8 then
        bd (pX7_passesAll fu y9 1 0) fun y14 =>
        if p1 = 0 then
          some (x6, y14)
        else
          some (x7, y14)
      else
        lt' (up2 y9 2 6 x8) fun y17 =>
        bd2 (pX7_costAnew fu y17) fun r18 y19 =>
        if r18 < x7 then
          lt' (x8 + 1) fun x22 =>
          g11 x8 r18 x22 y19
        else
          lt' (x8 + 1) fun x23 =>
          g11 x6 x7 x23 y19) fu 0 1000000000 0 y4
set_option maxHeartbeats 4000000 in
set_option maxRecDepth 100000 in
theorem tX7_marks (l : Launch) (D : va_G) (z tt : Nat → Nat) (a1 : Nat → Nat) (m1 : Mem) (p1 : Int32) (fu : Nat) (rr : Int32) (m1' : Mem) (hf : pX7_marks fu m1 p1 = some (rr, m1')) : MetI l yX7_marks wsX7_marks ({ frames := 8, cells := 0, slots := 0, locals := 176 } : Room) D z tt ([.ref (a1 0), .int p1] : List Value) (WMod z a1 m1) rr (WMod z a1 m1') := by
  intro sz
  refine Met.ofW (cc := cX7_marks) (maxL := 6) (ret := (some .int)) (by decide) rfl ?_
  intro p e s m args below meth c s₁ B hml hv
  obtain ⟨rfl, hsz, hP, hK, hD0, hT, hN⟩ := hv
  have hx := B.exec
  have hb := B.bytes
  have hr := B.returns
  have hts : ∀ w ∈ wsA, w.before ([.ref (a1 0), .int p1] : List Value).toArray s = true := fun w h => atoms_spec (ws := wsX7_marks) B.pre w (List.mem_cons_of_mem _ h)
  have hown : s.vm.findClass RX7 = some m.cls := findClass_of_methodNamed B.named
  have hlocks := B.notSynchronized
  subst hsz
  have hD := hD0.self (sz := s.heap.size)
  generalize hAe : va_A (WMod z a1 m1) s.heap.size = A at hD hT ⊢
  have hA : ∀ q : Nat, s.heap.size ≤ q → A q := fun q h => by rw [← hAe]; exact Or.inr h
  have hS : va_S A s.heap s.heap [] := va_S.rf
  have hl := lv_entry ([.ref (a1 0), .int p1] : List Value) (n := 6) (Nat.le_of_ble_eq_true rfl)
  rw [lg_entry_eq]
  generalize (lg_sl ([.ref (a1 0), .int p1] : List Value) ++ List.replicate (6 - (lg_sl ([.ref (a1 0), .int p1] : List Value)).length) Slot.unset).toArray = ls at hl ⊢
  have hl : lv_has ls 6 [(0, .ref (a1 0)), (1, .int p1)] := hl
  unfold pX7_marks at hf
  refine lv_iload_n hx hb dX7_marks_0 rfl (lv_at hl 1 rfl) ?_
  refine lv_iconst (v := 0) hx hb dX7_marks_1 (by decide) ?_
  refine lv_iconst (v := 1) hx hb dX7_marks_2 (by decide) ?_
  obtain ⟨r1, q2, hf⟩ := bd_use hf
  have hfo : Foc (WMod z a1 m1) ([] : va_W) (WMod z a1 m1) ([] : va_W) := foc_nil
  refine z_goI (ws1 := (WMod z a1 m1)) (va_runS (As := [.int p1, .int 0, .int 1]) (rest := []) ⟨hx, hb, hml, hown, hts⟩ (tX7_isIn l D z tt  p1 0 1 fu r1 q2 _) (va_cwS 3 hts (gS3 aw867 aw868 aw52 aw869) rfl rfl rfl (by decide +kernel) ⟨Nat.le_of_ble_eq_true rfl, Nat.le_of_ble_eq_true rfl⟩) (z_preS hK hP hD hS hA hT hN hfo) rfl rfl hl.1 rfl (lv_room (Nat.le_of_ble_eq_true rfl)) dX7_marks_3 ⟨Nat.zero_le _, Nat.zero_le _⟩) hP hD hS hA hfo (fun H locs hP hD hS => ?_)
  refine lv_if_ne (tgt := 16) hx hb dX7_marks_6 (by decide) (fun c3 => ?_) (fun c3 => ?_)
  · have hf := if_f c3 hf
    refine lv_aload_n hx hb dX7_marks_16 rfl (lv_at hl 0 rfl) ?_
    refine lv_iconst (v := 1) hx hb dX7_marks_17 (by decide) ?_
    refine lv_iconst (v := 1) hx hb dX7_marks_18 (by decide) ?_
    obtain ⟨y4, q5, hf⟩ := bd_use hf
    have hfo : Foc (WMod z a1 m1) (WMod z a1 m1) (WMod z a1 y4) (WMod z a1 y4) := foc_all
    refine z_goV (ws1 := (WMod z a1 y4)) (va_runV (As := [.int 1, .int 1]) (rest := []) ⟨hx, hb, hml, hown, hts⟩ (tX7_passesAll l D z tt a1 m1 1 1 fu y4 q5 _) (cwV 2 hts (gV4 aw874 aw876 aw7 aw52 aw877) rfl rfl rfl (by decide +kernel) ⟨Nat.le_of_ble_eq_true rfl, Nat.le_of_ble_eq_true rfl⟩) (z_preV hK hP hD hS hA hT hN hfo (va_recv hK hP (ci := 7) (q0 := 0) rfl rfl)) rfl rfl hl.1 rfl (lv_room (Nat.le_of_ble_eq_true rfl)) dX7_marks_19 ⟨Nat.zero_le _, Nat.zero_le _⟩) hP hD hS hA hfo (fun H locs hP hD hS => ?_)
    refine lv_iconst (v := 0) hx hb dX7_marks_22 (by decide) ?_
    refine lv_istore_n (lv' := [(2, .int 0), (0, .ref (a1 0)), (1, .int p1)]) hx hb dX7_marks_23 rfl hl (by decide) rfl (fun ls hl => ?_)
    refine lv_ldc (v := 1000000000) hx hb hown (hts _ aw1036) dX7_marks_24 ?_
    refine lv_istore_n (lv' := [(3, .int 1000000000), (2, .int 0), (0, .ref (a1 0)), (1, .int p1)]) hx hb dX7_marks_26 rfl hl (by decide) rfl (fun ls hl => ?_)
    refine lv_iconst (v := 0) hx hb dX7_marks_27 (by decide) ?_
    refine lv_istore (lv' := [(4, .int 0), (3, .int 1000000000), (2, .int 0), (0, .ref (a1 0)), (1, .int p1)]) hx hb dX7_marks_28 hl (by decide) rfl (fun ls hl => ?_)
    obtain ⟨F10, eF10, hf⟩ := zl4_use hf
    have L30_F10 : ∀ (n : Nat) (x6 : Int32) (x7 : Int32) (x8 : Int32) (y9 : Mem) (H : Heap) (locs : List Loc), va_P D vwCl (WMod z a1 y9) H → va_D A (WMod z a1 y9) → va_S A s.heap H locs → ∀ (ls : Array Slot), lv_has ls 6 [(0, .ref (a1 0)), (1, .int p1), (2, .int x6), (3, .int x7), (4, .int x8)] → zl4 F10 n x6 x7 x8 y9 = some (rr, m1') → GI p l e (headSpec wsX7_marks ({ frames := 8, cells := 0, slots := 0, locals := 176 } : Room)).room s m ([.ref (a1 0), .int p1] : List Value).toArray below meth c A D z rr (WMod z a1 m1') H locs (F0 m 30 ls []) := by
      intro n
      induction n with
      | zero =>
        intro x6 x7 x8 y9 H locs hP hD hS ls hl hf
        exact no_none hf
      | succ n ih12 =>
        intro x6 x7 x8 y9 H locs hP hD hS ls hl hf
        have hf := zl4_s eF10 hf
        refine lv_iload hx hb dX7_marks_30 (lv_at hl 4 rfl) ?_
        refine lv_aload_n hx hb dX7_marks_32 rfl (lv_at hl 0 rfl) ?_
        refine va_get (D := D) (ci := 7) (v := .ref (a1 2)) (C := RX7) (T := TX7) (N := 33) hx hb hts iX7 hown hK hP 0 rfl rfl 1 (by decide) (hts _ aw737) (fun _ h9 => h9) rfl dX7_marks_33 ?_
        refine lv_iconst (v := 0) hx hb dX7_marks_36 (by decide) ?_
        refine z_ialdc hx hb hK hP 2 rfl (i := 0) (k := 0) (by decide) (Nat.le_of_ble_eq_true rfl) dX7_marks_37 ?_
        refine lv_icmp_gt (tgt := 77) hx hb dX7_marks_38 (by decide) (fun c13 => ?_) (fun c13 => ?_)
        · have hf := if_t c13 hf
          refine lv_aload_n hx hb dX7_marks_77 rfl (lv_at hl 0 rfl) ?_
          refine lv_iconst (v := 1) hx hb dX7_marks_78 (by decide) ?_
          refine lv_iconst (v := 0) hx hb dX7_marks_79 (by decide) ?_
          obtain ⟨y14, q15, hf⟩ := bd_use hf
          have hfo : Foc (WMod z a1 y9) (WMod z a1 y9) (WMod z a1 y14) (WMod z a1 y14) := foc_all
          refine z_goV (ws1 := (WMod z a1 y14)) (va_runV (As := [.int 1, .int 0]) (rest := []) ⟨hx, hb, hml, hown, hts⟩ (tX7_passesAll l D z tt a1 y9 1 0 fu y14 q15 _) (cwV 2 hts (gV4 aw874 aw876 aw7 aw52 aw877) rfl rfl rfl (by decide +kernel) ⟨Nat.le_of_ble_eq_true rfl, Nat.le_of_ble_eq_true rfl⟩) (z_preV hK hP hD hS hA hT hN hfo (va_recv hK hP (ci := 7) (q0 := 0) rfl rfl)) rfl rfl hl.1 rfl (lv_room (Nat.le_of_ble_eq_true rfl)) dX7_marks_80 ⟨Nat.zero_le _, Nat.zero_le _⟩) hP hD hS hA hfo (fun H locs hP hD hS => ?_)
          refine lv_iload_n hx hb dX7_marks_83 rfl (lv_at hl 1 rfl) ?_
          refine lv_if_ne (tgt := 91) hx hb dX7_marks_84 (by decide) (fun c16 => ?_) (fun c16 => ?_)
          · have hf := if_f c16 hf
            refine lv_iload_n hx hb dX7_marks_91 rfl (lv_at hl 3 rfl) ?_
            obtain ⟨rfl, rfl⟩ := so2 hf
            exact ret_i hx hb hr hlocks hK hP hD hS dX7_marks_92
          · have hf := if_t c16 hf
            refine lv_iload_n hx hb dX7_marks_87 rfl (lv_at hl 2 rfl) ?_
            refine lv_goto (tgt := 92) hx hb dX7_marks_88 (by decide) ?_
            obtain ⟨rfl, rfl⟩ := so2 hf
            exact ret_i hx hb hr hlocks hK hP hD hS dX7_marks_92
        · have hf := if_f c13 hf
          refine lv_aload_n hx hb dX7_marks_41 rfl (lv_at hl 0 rfl) ?_
          refine va_get (D := D) (ci := 7) (v := .ref (a1 2)) (C := RX7) (T := TX7) (N := 33) hx hb hts iX7 hown hK hP 0 rfl rfl 1 (by decide) (hts _ aw737) (fun _ h9 => h9) rfl dX7_marks_42 ?_
          refine lv_bipush (v := 6) hx hb dX7_marks_45 (by decide) ?_
          refine lv_iload hx hb dX7_marks_47 (lv_at hl 4 rfl) ?_
          refine z_iastc hx hb hK hP hD hS 2 rfl (i := 6) (k := 6) (by decide) (Nat.le_of_ble_eq_true rfl) dX7_marks_49 (fun (w9 : Mem) => (WMod z a1 w9)) (up2 y9 2 6 x8) rfl (fun y17 ey17 H locs hP hD hS => ?_)
          have hf := lt_use ey17 hf
          refine lv_aload_n hx hb dX7_marks_50 rfl (lv_at hl 0 rfl) ?_
          obtain ⟨r18, y19, q20, hf⟩ := bd2_use hf
          have hfo : Foc (WMod z a1 y17) (WMod z a1 y17) (WMod z a1 y19) (WMod z a1 y19) := foc_all
          refine z_goI (ws1 := (WMod z a1 y19)) (va_runV (As := []) (rest := []) ⟨hx, hb, hml, hown, hts⟩ (tX7_costAnew l D z tt a1 y17  fu r18 y19 q20 _) (cwV 0 hts (gV4 aw1037 aw1039 aw34 aw52 aw1040) rfl rfl rfl (by decide +kernel) ⟨Nat.le_of_ble_eq_true rfl, Nat.le_of_ble_eq_true rfl⟩) (z_preV hK hP hD hS hA hT hN hfo (va_recv hK hP (ci := 7) (q0 := 0) rfl rfl)) rfl rfl hl.1 rfl (lv_room (Nat.le_of_ble_eq_true rfl)) dX7_marks_51 ⟨Nat.zero_le _, Nat.zero_le _⟩) hP hD hS hA hfo (fun H locs hP hD hS => ?_)
          refine lv_istore (lv' := [(5, .int r18), (0, .ref (a1 0)), (1, .int p1), (2, .int x6), (3, .int x7), (4, .int x8)]) hx hb dX7_marks_54 hl (by decide) rfl (fun ls hl => ?_)
          refine lv_iload hx hb dX7_marks_56 (lv_at hl 0 rfl) ?_
          refine lv_iload_n hx hb dX7_marks_58 rfl (lv_at hl 4 rfl) ?_
          refine lv_icmp_lt (tgt := 65) hx hb dX7_marks_59 (by decide) (fun c21 => ?_) (fun c21 => ?_)
          · have hf := if_t c21 hf
            refine lv_iload hx hb dX7_marks_65 (lv_at hl 5 rfl) ?_
            refine lv_istore_n (lv' := [(2, .int x8), (5, .int r18), (0, .ref (a1 0)), (1, .int p1), (3, .int x7), (4, .int x8)]) hx hb dX7_marks_67 rfl hl (by decide) rfl (fun ls hl => ?_)
            refine lv_iload hx hb dX7_marks_68 (lv_at hl 1 rfl) ?_
            refine lv_istore_n (lv' := [(3, .int r18), (2, .int x8), (5, .int r18), (0, .ref (a1 0)), (1, .int p1), (4, .int x8)]) hx hb dX7_marks_70 rfl hl (by decide) rfl (fun ls hl => ?_)
            obtain ⟨x22, ex22⟩ : ∃ y : Int32, y = x8 + 1 := ⟨_, rfl⟩
            have hf := lt_use ex22 hf
            refine lv_iinc (v := x22) (lv' := [(4, .int x22), (3, .int r18), (2, .int x8), (5, .int r18), (0, .ref (a1 0)), (1, .int p1)]) hx hb dX7_marks_71 hl (k := 5) rfl (by rw [ex22]; rfl) (by decide) rfl (fun ls hl => ?_)
            refine lv_goto (tgt := 30) hx hb dX7_marks_74 (by decide) ?_
            exact ih12 _ _ _ _ _ _ hP hD hS _ (lv_sub hl [4, 5, 2, 1, 0] rfl) hf
          · have hf := if_f c21 hf
            refine lv_goto (tgt := 71) hx hb dX7_marks_62 (by decide) ?_
            obtain ⟨x23, ex23⟩ : ∃ y : Int32, y = x8 + 1 := ⟨_, rfl⟩
            have hf := lt_use ex23 hf
            refine lv_iinc (v := x23) (lv' := [(4, .int x23), (5, .int r18), (0, .ref (a1 0)), (1, .int p1), (2, .int x6), (3, .int x7)]) hx hb dX7_marks_71 hl (k := 5) rfl (by rw [ex23]; rfl) (by decide) rfl (fun ls hl => ?_)
            refine lv_goto (tgt := 30) hx hb dX7_marks_74 (by decide) ?_
            exact ih12 _ _ _ _ _ _ hP hD hS _ (lv_sub hl [2, 3, 4, 5, 0] rfl) hf
    exact L30_F10 fu _ _ _ _ _ _ hP hD hS _ (lv_sub hl [3, 4, 2, 1, 0] rfl) hf
  · have hf := if_t c3 hf
    refine lv_aload_n hx hb dX7_marks_9 rfl (lv_at hl 0 rfl) ?_
    refine lv_bipush (v := (-2)) hx hb dX7_marks_10 (by decide) ?_
    obtain ⟨r24, y25, q26, hf⟩ := bd2_use hf
    have hfo : Foc (WMod z a1 m1) (WMod z a1 m1) (WMod z a1 y25) (WMod z a1 y25) := foc_all
    refine z_goI (ws1 := (WMod z a1 y25)) (va_runV (As := [.int (-2)]) (rest := []) ⟨hx, hb, hml, hown, hts⟩ (tX7_no l D z tt a1 m1 (-2) fu r24 y25 q26 _) (cwV 1 hts (gV4 aw843 aw845 aw1 aw52 aw846) rfl rfl rfl (by decide +kernel) ⟨Nat.le_of_ble_eq_true rfl, Nat.le_of_ble_eq_true rfl⟩) (z_preV hK hP hD hS hA hT hN hfo (va_recv hK hP (ci := 7) (q0 := 0) rfl rfl)) rfl rfl hl.1 rfl (lv_room (Nat.le_of_ble_eq_true rfl)) dX7_marks_12 ⟨Nat.zero_le _, Nat.zero_le _⟩) hP hD hS hA hfo (fun H locs hP hD hS => ?_)
    obtain ⟨rfl, rfl⟩ := so2 hf
    exact ret_i hx hb hr hlocks hK hP hD hS dX7_marks_15
def pX7_second (fu : Nat) (m1 : Mem) : Option (Int32 × Mem) :=
  bd (pX7_passesAll fu m1 1 1) fun y1 =>
  lt' (up2 y1 2 7 1) fun y3 =>
  bd2 (pX7_costAnew fu y3) fun r4 y5 =>
  lt' (up2 y5 2 7 2) fun y7 =>
  bd2 (pX7_costAnew fu y7) fun r8 y9 =>
  lt' ((r4 - r8) : Int32) fun x11 =>
  bd (pX7_passesAll fu y9 1 0) fun y12 =>
  some (x11, y12)
set_option maxHeartbeats 4000000 in
set_option maxRecDepth 100000 in
theorem tX7_second (l : Launch) (D : va_G) (z tt : Nat → Nat) (a1 : Nat → Nat) (m1 : Mem)  (fu : Nat) (rr : Int32) (m1' : Mem) (hf : pX7_second fu m1 = some (rr, m1')) : MetI l yX7_second wsX7_second ({ frames := 8, cells := 0, slots := 0, locals := 176 } : Room) D z tt ([.ref (a1 0)] : List Value) (WMod z a1 m1) rr (WMod z a1 m1') := by
  intro sz
  refine Met.ofW (cc := cX7_second) (maxL := 2) (ret := (some .int)) (by decide) rfl ?_
  intro p e s m args below meth c s₁ B hml hv
  obtain ⟨rfl, hsz, hP, hK, hD0, hT, hN⟩ := hv
  have hx := B.exec
  have hb := B.bytes
  have hr := B.returns
  have hts : ∀ w ∈ wsA, w.before ([.ref (a1 0)] : List Value).toArray s = true := fun w h => atoms_spec (ws := wsX7_second) B.pre w (List.mem_cons_of_mem _ h)
  have hown : s.vm.findClass RX7 = some m.cls := findClass_of_methodNamed B.named
  have hlocks := B.notSynchronized
  subst hsz
  have hD := hD0.self (sz := s.heap.size)
  generalize hAe : va_A (WMod z a1 m1) s.heap.size = A at hD hT ⊢
  have hA : ∀ q : Nat, s.heap.size ≤ q → A q := fun q h => by rw [← hAe]; exact Or.inr h
  have hS : va_S A s.heap s.heap [] := va_S.rf
  have hl := lv_entry ([.ref (a1 0)] : List Value) (n := 2) (Nat.le_of_ble_eq_true rfl)
  rw [lg_entry_eq]
  generalize (lg_sl ([.ref (a1 0)] : List Value) ++ List.replicate (2 - (lg_sl ([.ref (a1 0)] : List Value)).length) Slot.unset).toArray = ls at hl ⊢
  have hl : lv_has ls 2 [(0, .ref (a1 0))] := hl
  unfold pX7_second at hf
  refine lv_aload_n hx hb dX7_second_0 rfl (lv_at hl 0 rfl) ?_
  refine lv_iconst (v := 1) hx hb dX7_second_1 (by decide) ?_
  refine lv_iconst (v := 1) hx hb dX7_second_2 (by decide) ?_
  obtain ⟨y1, q2, hf⟩ := bd_use hf
  have hfo : Foc (WMod z a1 m1) (WMod z a1 m1) (WMod z a1 y1) (WMod z a1 y1) := foc_all
  refine z_goV (ws1 := (WMod z a1 y1)) (va_runV (As := [.int 1, .int 1]) (rest := []) ⟨hx, hb, hml, hown, hts⟩ (tX7_passesAll l D z tt a1 m1 1 1 fu y1 q2 _) (cwV 2 hts (gV4 aw874 aw876 aw7 aw52 aw877) rfl rfl rfl (by decide +kernel) ⟨Nat.le_of_ble_eq_true rfl, Nat.le_of_ble_eq_true rfl⟩) (z_preV hK hP hD hS hA hT hN hfo (va_recv hK hP (ci := 7) (q0 := 0) rfl rfl)) rfl rfl hl.1 rfl (lv_room (Nat.le_of_ble_eq_true rfl)) dX7_second_3 ⟨Nat.zero_le _, Nat.zero_le _⟩) hP hD hS hA hfo (fun H locs hP hD hS => ?_)
  refine lv_aload_n hx hb dX7_second_6 rfl (lv_at hl 0 rfl) ?_
  refine va_get (D := D) (ci := 7) (v := .ref (a1 2)) (C := RX7) (T := TX7) (N := 33) hx hb hts iX7 hown hK hP 0 rfl rfl 1 (by decide) (hts _ aw737) (fun _ h9 => h9) rfl dX7_second_7 ?_
  refine lv_bipush (v := 7) hx hb dX7_second_10 (by decide) ?_
  refine lv_iconst (v := 1) hx hb dX7_second_12 (by decide) ?_
  refine z_iastc hx hb hK hP hD hS 2 rfl (i := 7) (k := 7) (by decide) (Nat.le_of_ble_eq_true rfl) dX7_second_13 (fun (w9 : Mem) => (WMod z a1 w9)) (up2 y1 2 7 1) rfl (fun y3 ey3 H locs hP hD hS => ?_)
  have hf := lt_use ey3 hf
  refine lv_aload_n hx hb dX7_second_14 rfl (lv_at hl 0 rfl) ?_
  obtain ⟨r4, y5, q6, hf⟩ := bd2_use hf
  have hfo : Foc (WMod z a1 y3) (WMod z a1 y3) (WMod z a1 y5) (WMod z a1 y5) := foc_all
  refine z_goI (ws1 := (WMod z a1 y5)) (va_runV (As := []) (rest := []) ⟨hx, hb, hml, hown, hts⟩ (tX7_costAnew l D z tt a1 y3  fu r4 y5 q6 _) (cwV 0 hts (gV4 aw1037 aw1039 aw34 aw52 aw1040) rfl rfl rfl (by decide +kernel) ⟨Nat.le_of_ble_eq_true rfl, Nat.le_of_ble_eq_true rfl⟩) (z_preV hK hP hD hS hA hT hN hfo (va_recv hK hP (ci := 7) (q0 := 0) rfl rfl)) rfl rfl hl.1 rfl (lv_room (Nat.le_of_ble_eq_true rfl)) dX7_second_15 ⟨Nat.zero_le _, Nat.zero_le _⟩) hP hD hS hA hfo (fun H locs hP hD hS => ?_)
  refine lv_istore_n (lv' := [(1, .int r4), (0, .ref (a1 0))]) hx hb dX7_second_18 rfl hl (by decide) rfl (fun ls hl => ?_)
  refine lv_aload_n hx hb dX7_second_19 rfl (lv_at hl 1 rfl) ?_
  refine va_get (D := D) (ci := 7) (v := .ref (a1 2)) (C := RX7) (T := TX7) (N := 33) hx hb hts iX7 hown hK hP 0 rfl rfl 1 (by decide) (hts _ aw737) (fun _ h9 => h9) rfl dX7_second_20 ?_
  refine lv_bipush (v := 7) hx hb dX7_second_23 (by decide) ?_
  refine lv_iconst (v := 2) hx hb dX7_second_25 (by decide) ?_
  refine z_iastc hx hb hK hP hD hS 2 rfl (i := 7) (k := 7) (by decide) (Nat.le_of_ble_eq_true rfl) dX7_second_26 (fun (w9 : Mem) => (WMod z a1 w9)) (up2 y5 2 7 2) rfl (fun y7 ey7 H locs hP hD hS => ?_)
  have hf := lt_use ey7 hf
  refine lv_iload_n hx hb dX7_second_27 rfl (lv_at hl 0 rfl) ?_
  refine lv_aload_n hx hb dX7_second_28 rfl (lv_at hl 1 rfl) ?_
  obtain ⟨r8, y9, q10, hf⟩ := bd2_use hf
  have hfo : Foc (WMod z a1 y7) (WMod z a1 y7) (WMod z a1 y9) (WMod z a1 y9) := foc_all
  refine z_goI (ws1 := (WMod z a1 y9)) (va_runV (As := []) (rest := [.int r4]) ⟨hx, hb, hml, hown, hts⟩ (tX7_costAnew l D z tt a1 y7  fu r8 y9 q10 _) (cwV 0 hts (gV4 aw1037 aw1039 aw34 aw52 aw1040) rfl rfl rfl (by decide +kernel) ⟨Nat.le_of_ble_eq_true rfl, Nat.le_of_ble_eq_true rfl⟩) (z_preV hK hP hD hS hA hT hN hfo (va_recv hK hP (ci := 7) (q0 := 0) rfl rfl)) rfl rfl hl.1 rfl (lv_room (Nat.le_of_ble_eq_true rfl)) dX7_second_29 ⟨Nat.zero_le _, Nat.zero_le _⟩) hP hD hS hA hfo (fun H locs hP hD hS => ?_)
  refine lv_isub hx hb dX7_second_32 ?_
  refine lv_topi (fun x11 ex11 => ?_)
  have hf := lt_use ex11 hf
  refine lv_istore_n (lv' := [(1, .int x11), (0, .ref (a1 0))]) hx hb dX7_second_33 rfl hl (by decide) rfl (fun ls hl => ?_)
  refine lv_aload_n hx hb dX7_second_34 rfl (lv_at hl 1 rfl) ?_
  refine lv_iconst (v := 1) hx hb dX7_second_35 (by decide) ?_
  refine lv_iconst (v := 0) hx hb dX7_second_36 (by decide) ?_
  obtain ⟨y12, q13, hf⟩ := bd_use hf
  have hfo : Foc (WMod z a1 y9) (WMod z a1 y9) (WMod z a1 y12) (WMod z a1 y12) := foc_all
  refine z_goV (ws1 := (WMod z a1 y12)) (va_runV (As := [.int 1, .int 0]) (rest := []) ⟨hx, hb, hml, hown, hts⟩ (tX7_passesAll l D z tt a1 y9 1 0 fu y12 q13 _) (cwV 2 hts (gV4 aw874 aw876 aw7 aw52 aw877) rfl rfl rfl (by decide +kernel) ⟨Nat.le_of_ble_eq_true rfl, Nat.le_of_ble_eq_true rfl⟩) (z_preV hK hP hD hS hA hT hN hfo (va_recv hK hP (ci := 7) (q0 := 0) rfl rfl)) rfl rfl hl.1 rfl (lv_room (Nat.le_of_ble_eq_true rfl)) dX7_second_37 ⟨Nat.zero_le _, Nat.zero_le _⟩) hP hD hS hA hfo (fun H locs hP hD hS => ?_)
  refine lv_iload_n hx hb dX7_second_40 rfl (lv_at hl 0 rfl) ?_
  obtain ⟨rfl, rfl⟩ := so2 hf
  exact ret_i hx hb hr hlocks hK hP hD hS dX7_second_41
def pX7_hours (fu : Nat) (m1 : Mem) : Option Int32 :=
  zl3 (fun g5 (x1 : Int32) (x2 : Int32) (x3 : Int32) =>
    if (m1 0 15) ≤ x3 then
      if (m1 0 15) = 0 then
        some 0
      else
        if 60 < (x2 - x1) then
          some (((x2 - x1) + 59) / 60)
        else
          some 1
    else
      ck x3 8 <|
      jn1 (fun (x11 : Int32) =>
        ck x3 8 <|
        if (m1 5 x3.toNatClampNeg) ≤ x2 then
          lt' (x3 + 1) fun x15 =>
          g5 x11 x2 x15
        else
          ck x3 8 <|
          lt' ((m1 5 x3.toNatClampNeg) : Int32) fun x17 =>
          lt' (x3 + 1) fun x18 =>
          g5 x11 x17 x18) fun k12 =>
      if x1 ≤ (m1 5 x3.toNatClampNeg) then
        k12 x1
      else
        ck x3 8 <|
        k12 (m1 5 x3.toNatClampNeg)) fu 180 0 0
set_option maxHeartbeats 4000000 in
set_option maxRecDepth 100000 in
theorem tX7_hours (l : Launch) (D : va_G) (z tt : Nat → Nat) (a1 : Nat → Nat) (m1 : Mem)  (fu : Nat) (rr : Int32) (hf : pX7_hours fu m1 = some rr) : MetI l yX7_hours wsX7_hours ({ frames := 0, cells := 0, slots := 0, locals := 0 } : Room) D z tt ([.ref (a1 0)] : List Value) (WMod z a1 m1) rr (WMod z a1 m1) := by
  intro sz
  refine Met.ofW (cc := cX7_hours) (maxL := 4) (ret := (some .int)) (by decide) rfl ?_
  intro p e s m args below meth c s₁ B hml hv
  obtain ⟨rfl, hsz, hP, hK, hD0, hT, hN⟩ := hv
  have hx := B.exec
  have hb := B.bytes
  have hr := B.returns
  have hts : ∀ w ∈ wsA, w.before ([.ref (a1 0)] : List Value).toArray s = true := fun w h => atoms_spec (ws := wsX7_hours) B.pre w (List.mem_cons_of_mem _ h)
  have hown : s.vm.findClass RX7 = some m.cls := findClass_of_methodNamed B.named
  have hlocks := B.notSynchronized
  subst hsz
  have hD := hD0.self (sz := s.heap.size)
  generalize hAe : va_A (WMod z a1 m1) s.heap.size = A at hD hT ⊢
  have hA : ∀ q : Nat, s.heap.size ≤ q → A q := fun q h => by rw [← hAe]; exact Or.inr h
  have hS : va_S A s.heap s.heap [] := va_S.rf
  have hl := lv_entry ([.ref (a1 0)] : List Value) (n := 4) (Nat.le_of_ble_eq_true rfl)
  rw [lg_entry_eq]
  generalize (lg_sl ([.ref (a1 0)] : List Value) ++ List.replicate (4 - (lg_sl ([.ref (a1 0)] : List Value)).length) Slot.unset).toArray = ls at hl ⊢
  have hl : lv_has ls 4 [(0, .ref (a1 0))] := hl
  unfold pX7_hours at hf
  refine lv_sipush (v := 180) hx hb dX7_hours_0 (by decide) ?_
  refine lv_istore_n (lv' := [(1, .int 180), (0, .ref (a1 0))]) hx hb dX7_hours_3 rfl hl (by decide) rfl (fun ls hl => ?_)
  refine lv_iconst (v := 0) hx hb dX7_hours_4 (by decide) ?_
  refine lv_istore_n (lv' := [(2, .int 0), (1, .int 180), (0, .ref (a1 0))]) hx hb dX7_hours_5 rfl hl (by decide) rfl (fun ls hl => ?_)
  refine lv_iconst (v := 0) hx hb dX7_hours_6 (by decide) ?_
  refine lv_istore_n (lv' := [(3, .int 0), (2, .int 0), (1, .int 180), (0, .ref (a1 0))]) hx hb dX7_hours_7 rfl hl (by decide) rfl (fun ls hl => ?_)
  obtain ⟨F4, eF4, hf⟩ := zl3_use hf
  have L8_F4 : ∀ (n : Nat) (x1 : Int32) (x2 : Int32) (x3 : Int32) (H : Heap) (locs : List Loc), va_P D vwCl (WMod z a1 m1) H → va_D A (WMod z a1 m1) → va_S A s.heap H locs → ∀ (ls : Array Slot), lv_has ls 4 [(0, .ref (a1 0)), (1, .int x1), (2, .int x2), (3, .int x3)] → zl3 F4 n x1 x2 x3 = some rr → GI p l e (headSpec wsX7_hours ({ frames := 0, cells := 0, slots := 0, locals := 0 } : Room)).room s m ([.ref (a1 0)] : List Value).toArray below meth c A D z rr (WMod z a1 m1) H locs (F0 m 8 ls []) := by
    intro n
    induction n with
    | zero =>
      intro x1 x2 x3 H locs hP hD hS ls hl hf
      exact no_none hf
    | succ n ih6 =>
      intro x1 x2 x3 H locs hP hD hS ls hl hf
      have hf := zl3_s eF4 hf
      refine lv_iload_n hx hb dX7_hours_8 rfl (lv_at hl 3 rfl) ?_
      refine lv_aload_n hx hb dX7_hours_9 rfl (lv_at hl 0 rfl) ?_
      refine va_get (D := D) (ci := 7) (v := .int (m1 0 15)) (C := RX7) (T := TX7) (N := 33) hx hb hts iX7 hown hK hP 0 rfl rfl 15 (by decide) (hts _ aw751) (fun _ h9 => h9) rfl dX7_hours_10 ?_
      refine lv_icmp_ge (tgt := 64) hx hb dX7_hours_13 (by decide) (fun c7 => ?_) (fun c7 => ?_)
      · have hf := if_t c7 hf
        refine lv_aload_n hx hb dX7_hours_64 rfl (lv_at hl 0 rfl) ?_
        refine va_get (D := D) (ci := 7) (v := .int (m1 0 15)) (C := RX7) (T := TX7) (N := 33) hx hb hts iX7 hown hK hP 0 rfl rfl 15 (by decide) (hts _ aw751) (fun _ h9 => h9) rfl dX7_hours_65 ?_
        refine lv_if_ne (tgt := 75) hx hb dX7_hours_68 (by decide) (fun c8 => ?_) (fun c8 => ?_)
        · have hf := if_f c8 hf
          refine lv_iload_n hx hb dX7_hours_75 rfl (lv_at hl 2 rfl) ?_
          refine lv_iload_n hx hb dX7_hours_76 rfl (lv_at hl 1 rfl) ?_
          refine lv_isub hx hb dX7_hours_77 ?_
          refine lv_bipush (v := 60) hx hb dX7_hours_78 (by decide) ?_
          refine lv_icmp_gt (tgt := 87) hx hb dX7_hours_80 (by decide) (fun c9 => ?_) (fun c9 => ?_)
          · have hf := if_t c9 hf
            refine lv_iload_n hx hb dX7_hours_87 rfl (lv_at hl 2 rfl) ?_
            refine lv_iload_n hx hb dX7_hours_88 rfl (lv_at hl 1 rfl) ?_
            refine lv_isub hx hb dX7_hours_89 ?_
            refine lv_bipush (v := 59) hx hb dX7_hours_90 (by decide) ?_
            refine lv_iadd hx hb dX7_hours_92 ?_
            refine lv_bipush (v := 60) hx hb dX7_hours_93 (by decide) ?_
            refine lv_idiv hx hb dX7_hours_95 (by decide) ?_
            obtain rfl := so1 hf
            exact ret_i hx hb hr hlocks hK hP hD hS dX7_hours_96
          · have hf := if_f c9 hf
            refine lv_iconst (v := 1) hx hb dX7_hours_83 (by decide) ?_
            refine lv_goto (tgt := 96) hx hb dX7_hours_84 (by decide) ?_
            obtain rfl := so1 hf
            exact ret_i hx hb hr hlocks hK hP hD hS dX7_hours_96
        · have hf := if_t c8 hf
          refine lv_iconst (v := 0) hx hb dX7_hours_71 (by decide) ?_
          refine lv_goto (tgt := 96) hx hb dX7_hours_72 (by decide) ?_
          obtain rfl := so1 hf
          exact ret_i hx hb hr hlocks hK hP hD hS dX7_hours_96
      · have hf := if_f c7 hf
        refine lv_aload_n hx hb dX7_hours_16 rfl (lv_at hl 0 rfl) ?_
        refine va_get (D := D) (ci := 7) (v := .ref (a1 5)) (C := RX7) (T := TX7) (N := 33) hx hb hts iX7 hown hK hP 0 rfl rfl 4 (by decide) (hts _ aw740) (fun _ h9 => h9) rfl dX7_hours_17 ?_
        refine lv_iload_n hx hb dX7_hours_20 rfl (lv_at hl 3 rfl) ?_
        obtain ⟨h10, hf⟩ := ck_use hf
        refine z_iald hx hb hK hP 5 rfl h10 dX7_hours_21 ?_
        refine lv_iload_n hx hb dX7_hours_22 rfl (lv_at hl 1 rfl) ?_
        obtain ⟨k12, ek12, hf⟩ := jn1_use hf
        have B36_k12 : ∀ (x11 : Int32) (H : Heap) (locs : List Loc), va_P D vwCl (WMod z a1 m1) H → va_D A (WMod z a1 m1) → va_S A s.heap H locs → ∀ (ls : Array Slot), lv_has ls 4 [(0, .ref (a1 0)), (2, .int x2), (3, .int x3)] → k12 x11 = some rr → GI p l e (headSpec wsX7_hours ({ frames := 0, cells := 0, slots := 0, locals := 0 } : Room)).room s m ([.ref (a1 0)] : List Value).toArray below meth c A D z rr (WMod z a1 m1) H locs (F0 m 36 ls [.int x11]) := by
          intro x11 H locs hP hD hS ls hl hf
          have hf := jn1_ap ek12 hf
          refine lv_istore_n (lv' := [(1, .int x11), (0, .ref (a1 0)), (2, .int x2), (3, .int x3)]) hx hb dX7_hours_36 rfl hl (by decide) rfl (fun ls hl => ?_)
          refine lv_aload_n hx hb dX7_hours_37 rfl (lv_at hl 1 rfl) ?_
          refine va_get (D := D) (ci := 7) (v := .ref (a1 5)) (C := RX7) (T := TX7) (N := 33) hx hb hts iX7 hown hK hP 0 rfl rfl 4 (by decide) (hts _ aw740) (fun _ h9 => h9) rfl dX7_hours_38 ?_
          refine lv_iload_n hx hb dX7_hours_41 rfl (lv_at hl 3 rfl) ?_
          obtain ⟨h13, hf⟩ := ck_use hf
          refine z_iald hx hb hK hP 5 rfl h13 dX7_hours_42 ?_
          refine lv_iload_n hx hb dX7_hours_43 rfl (lv_at hl 2 rfl) ?_
          refine lv_icmp_le (tgt := 56) hx hb dX7_hours_44 (by decide) (fun c14 => ?_) (fun c14 => ?_)
          · have hf := if_t c14 hf
            refine lv_iload_n hx hb dX7_hours_56 rfl (lv_at hl 2 rfl) ?_
            refine lv_istore_n (lv' := [(2, .int x2), (1, .int x11), (0, .ref (a1 0)), (3, .int x3)]) hx hb dX7_hours_57 rfl hl (by decide) rfl (fun ls hl => ?_)
            obtain ⟨x15, ex15⟩ : ∃ y : Int32, y = x3 + 1 := ⟨_, rfl⟩
            have hf := lt_use ex15 hf
            refine lv_iinc (v := x15) (lv' := [(3, .int x15), (2, .int x2), (1, .int x11), (0, .ref (a1 0))]) hx hb dX7_hours_58 hl (k := 3) rfl (by rw [ex15]; rfl) (by decide) rfl (fun ls hl => ?_)
            refine lv_goto (tgt := 8) hx hb dX7_hours_61 (by decide) ?_
            exact ih6 _ _ _ _ _ hP hD hS _ (lv_sub hl [3, 2, 1, 0] rfl) hf
          · have hf := if_f c14 hf
            refine lv_aload_n hx hb dX7_hours_47 rfl (lv_at hl 1 rfl) ?_
            refine va_get (D := D) (ci := 7) (v := .ref (a1 5)) (C := RX7) (T := TX7) (N := 33) hx hb hts iX7 hown hK hP 0 rfl rfl 4 (by decide) (hts _ aw740) (fun _ h9 => h9) rfl dX7_hours_48 ?_
            refine lv_iload_n hx hb dX7_hours_51 rfl (lv_at hl 3 rfl) ?_
            obtain ⟨h16, hf⟩ := ck_use hf
            refine z_iald hx hb hK hP 5 rfl h16 dX7_hours_52 ?_
            refine lv_goto (tgt := 57) hx hb dX7_hours_53 (by decide) ?_
            refine lv_topi (fun x17 ex17 => ?_)
            have hf := lt_use ex17 hf
            refine lv_istore_n (lv' := [(2, .int x17), (1, .int x11), (0, .ref (a1 0)), (3, .int x3)]) hx hb dX7_hours_57 rfl hl (by decide) rfl (fun ls hl => ?_)
            obtain ⟨x18, ex18⟩ : ∃ y : Int32, y = x3 + 1 := ⟨_, rfl⟩
            have hf := lt_use ex18 hf
            refine lv_iinc (v := x18) (lv' := [(3, .int x18), (2, .int x17), (1, .int x11), (0, .ref (a1 0))]) hx hb dX7_hours_58 hl (k := 3) rfl (by rw [ex18]; rfl) (by decide) rfl (fun ls hl => ?_)
            refine lv_goto (tgt := 8) hx hb dX7_hours_61 (by decide) ?_
            exact ih6 _ _ _ _ _ hP hD hS _ (lv_sub hl [3, 2, 1, 0] rfl) hf
        refine lv_icmp_ge (tgt := 35) hx hb dX7_hours_23 (by decide) (fun c19 => ?_) (fun c19 => ?_)
        · have hf := if_t c19 hf
          refine lv_iload_n hx hb dX7_hours_35 rfl (lv_at hl 1 rfl) ?_
          exact B36_k12 _ _ _ hP hD hS _ (lv_sub hl [0, 2, 3] rfl) hf
        · have hf := if_f c19 hf
          refine lv_aload_n hx hb dX7_hours_26 rfl (lv_at hl 0 rfl) ?_
          refine va_get (D := D) (ci := 7) (v := .ref (a1 5)) (C := RX7) (T := TX7) (N := 33) hx hb hts iX7 hown hK hP 0 rfl rfl 4 (by decide) (hts _ aw740) (fun _ h9 => h9) rfl dX7_hours_27 ?_
          refine lv_iload_n hx hb dX7_hours_30 rfl (lv_at hl 3 rfl) ?_
          obtain ⟨h20, hf⟩ := ck_use hf
          refine z_iald hx hb hK hP 5 rfl h20 dX7_hours_31 ?_
          refine lv_goto (tgt := 36) hx hb dX7_hours_32 (by decide) ?_
          exact B36_k12 _ _ _ hP hD hS _ (lv_sub hl [0, 2, 3] rfl) hf
  exact L8_F4 fu _ _ _ _ _ hP hD hS _ (lv_sub hl [3, 2, 1, 0] rfl) hf
def pX7_urn (fu : Nat) (m1 : Mem) (p1 : Int32) : Option (Int32 × Mem) :=
  bd (pX7_bound fu p1 0 99) fun r1 =>
  if r1 = 0 then
    bd (pX7_passesAll fu m1 1 1) fun y4 =>
    bd2 (pX7_costAnew fu y4) fun r6 y7 =>
    bd (pX7_passesAll fu y7 1 0) fun y9 =>
    bd (pX7_hours fu y9) fun r11 =>
    if r6 ≤ (r11 * p1) then
      some (0, y9)
    else
      some (1, y9)
  else
    bd2 (pX7_no fu m1 r1) fun r14 y15 =>
    some (r14, y15)
set_option maxHeartbeats 4000000 in
set_option maxRecDepth 100000 in
theorem tX7_urn (l : Launch) (D : va_G) (z tt : Nat → Nat) (a1 : Nat → Nat) (m1 : Mem) (p1 : Int32) (fu : Nat) (rr : Int32) (m1' : Mem) (hf : pX7_urn fu m1 p1 = some (rr, m1')) : MetI l yX7_urn wsX7_urn ({ frames := 8, cells := 0, slots := 0, locals := 176 } : Room) D z tt ([.ref (a1 0), .int p1] : List Value) (WMod z a1 m1) rr (WMod z a1 m1') := by
  intro sz
  refine Met.ofW (cc := cX7_urn) (maxL := 4) (ret := (some .int)) (by decide) rfl ?_
  intro p e s m args below meth c s₁ B hml hv
  obtain ⟨rfl, hsz, hP, hK, hD0, hT, hN⟩ := hv
  have hx := B.exec
  have hb := B.bytes
  have hr := B.returns
  have hts : ∀ w ∈ wsA, w.before ([.ref (a1 0), .int p1] : List Value).toArray s = true := fun w h => atoms_spec (ws := wsX7_urn) B.pre w (List.mem_cons_of_mem _ h)
  have hown : s.vm.findClass RX7 = some m.cls := findClass_of_methodNamed B.named
  have hlocks := B.notSynchronized
  subst hsz
  have hD := hD0.self (sz := s.heap.size)
  generalize hAe : va_A (WMod z a1 m1) s.heap.size = A at hD hT ⊢
  have hA : ∀ q : Nat, s.heap.size ≤ q → A q := fun q h => by rw [← hAe]; exact Or.inr h
  have hS : va_S A s.heap s.heap [] := va_S.rf
  have hl := lv_entry ([.ref (a1 0), .int p1] : List Value) (n := 4) (Nat.le_of_ble_eq_true rfl)
  rw [lg_entry_eq]
  generalize (lg_sl ([.ref (a1 0), .int p1] : List Value) ++ List.replicate (4 - (lg_sl ([.ref (a1 0), .int p1] : List Value)).length) Slot.unset).toArray = ls at hl ⊢
  have hl : lv_has ls 4 [(0, .ref (a1 0)), (1, .int p1)] := hl
  unfold pX7_urn at hf
  refine lv_iload_n hx hb dX7_urn_0 rfl (lv_at hl 1 rfl) ?_
  refine lv_iconst (v := 0) hx hb dX7_urn_1 (by decide) ?_
  refine lv_bipush (v := 99) hx hb dX7_urn_2 (by decide) ?_
  obtain ⟨r1, q2, hf⟩ := bd_use hf
  have hfo : Foc (WMod z a1 m1) ([] : va_W) (WMod z a1 m1) ([] : va_W) := foc_nil
  refine z_goI (ws1 := (WMod z a1 m1)) (va_runS (As := [.int p1, .int 0, .int 99]) (rest := []) ⟨hx, hb, hml, hown, hts⟩ (tX7_bound l D z tt  p1 0 99 fu r1 q2 _) (va_cwS 3 hts (gS3 aw840 aw841 aw52 aw842) rfl rfl rfl (by decide +kernel) ⟨Nat.le_of_ble_eq_true rfl, Nat.le_of_ble_eq_true rfl⟩) (z_preS hK hP hD hS hA hT hN hfo) rfl rfl hl.1 rfl (lv_room (Nat.le_of_ble_eq_true rfl)) dX7_urn_4 ⟨Nat.zero_le _, Nat.zero_le _⟩) hP hD hS hA hfo (fun H locs hP hD hS => ?_)
  refine lv_istore_n (lv' := [(2, .int r1), (0, .ref (a1 0)), (1, .int p1)]) hx hb dX7_urn_7 rfl hl (by decide) rfl (fun ls hl => ?_)
  refine lv_iload_n hx hb dX7_urn_8 rfl (lv_at hl 0 rfl) ?_
  refine lv_if_eq (tgt := 18) hx hb dX7_urn_9 (by decide) (fun c3 => ?_) (fun c3 => ?_)
  · have hf := if_t c3 hf
    refine lv_aload_n hx hb dX7_urn_18 rfl (lv_at hl 1 rfl) ?_
    refine lv_iconst (v := 1) hx hb dX7_urn_19 (by decide) ?_
    refine lv_iconst (v := 1) hx hb dX7_urn_20 (by decide) ?_
    obtain ⟨y4, q5, hf⟩ := bd_use hf
    have hfo : Foc (WMod z a1 m1) (WMod z a1 m1) (WMod z a1 y4) (WMod z a1 y4) := foc_all
    refine z_goV (ws1 := (WMod z a1 y4)) (va_runV (As := [.int 1, .int 1]) (rest := []) ⟨hx, hb, hml, hown, hts⟩ (tX7_passesAll l D z tt a1 m1 1 1 fu y4 q5 _) (cwV 2 hts (gV4 aw874 aw876 aw7 aw52 aw877) rfl rfl rfl (by decide +kernel) ⟨Nat.le_of_ble_eq_true rfl, Nat.le_of_ble_eq_true rfl⟩) (z_preV hK hP hD hS hA hT hN hfo (va_recv hK hP (ci := 7) (q0 := 0) rfl rfl)) rfl rfl hl.1 rfl (lv_room (Nat.le_of_ble_eq_true rfl)) dX7_urn_21 ⟨Nat.zero_le _, Nat.zero_le _⟩) hP hD hS hA hfo (fun H locs hP hD hS => ?_)
    refine lv_aload_n hx hb dX7_urn_24 rfl (lv_at hl 1 rfl) ?_
    obtain ⟨r6, y7, q8, hf⟩ := bd2_use hf
    have hfo : Foc (WMod z a1 y4) (WMod z a1 y4) (WMod z a1 y7) (WMod z a1 y7) := foc_all
    refine z_goI (ws1 := (WMod z a1 y7)) (va_runV (As := []) (rest := []) ⟨hx, hb, hml, hown, hts⟩ (tX7_costAnew l D z tt a1 y4  fu r6 y7 q8 _) (cwV 0 hts (gV4 aw1037 aw1039 aw34 aw52 aw1040) rfl rfl rfl (by decide +kernel) ⟨Nat.le_of_ble_eq_true rfl, Nat.le_of_ble_eq_true rfl⟩) (z_preV hK hP hD hS hA hT hN hfo (va_recv hK hP (ci := 7) (q0 := 0) rfl rfl)) rfl rfl hl.1 rfl (lv_room (Nat.le_of_ble_eq_true rfl)) dX7_urn_25 ⟨Nat.zero_le _, Nat.zero_le _⟩) hP hD hS hA hfo (fun H locs hP hD hS => ?_)
    refine lv_istore_n (lv' := [(3, .int r6), (2, .int r1), (0, .ref (a1 0)), (1, .int p1)]) hx hb dX7_urn_28 rfl hl (by decide) rfl (fun ls hl => ?_)
    refine lv_aload_n hx hb dX7_urn_29 rfl (lv_at hl 2 rfl) ?_
    refine lv_iconst (v := 1) hx hb dX7_urn_30 (by decide) ?_
    refine lv_iconst (v := 0) hx hb dX7_urn_31 (by decide) ?_
    obtain ⟨y9, q10, hf⟩ := bd_use hf
    have hfo : Foc (WMod z a1 y7) (WMod z a1 y7) (WMod z a1 y9) (WMod z a1 y9) := foc_all
    refine z_goV (ws1 := (WMod z a1 y9)) (va_runV (As := [.int 1, .int 0]) (rest := []) ⟨hx, hb, hml, hown, hts⟩ (tX7_passesAll l D z tt a1 y7 1 0 fu y9 q10 _) (cwV 2 hts (gV4 aw874 aw876 aw7 aw52 aw877) rfl rfl rfl (by decide +kernel) ⟨Nat.le_of_ble_eq_true rfl, Nat.le_of_ble_eq_true rfl⟩) (z_preV hK hP hD hS hA hT hN hfo (va_recv hK hP (ci := 7) (q0 := 0) rfl rfl)) rfl rfl hl.1 rfl (lv_room (Nat.le_of_ble_eq_true rfl)) dX7_urn_32 ⟨Nat.zero_le _, Nat.zero_le _⟩) hP hD hS hA hfo (fun H locs hP hD hS => ?_)
    refine lv_aload_n hx hb dX7_urn_35 rfl (lv_at hl 2 rfl) ?_
    obtain ⟨r11, q12, hf⟩ := bd_use hf
    have hfo : Foc (WMod z a1 y9) (WMod z a1 y9) (WMod z a1 y9) (WMod z a1 y9) := foc_all
    refine z_goI (ws1 := (WMod z a1 y9)) (va_runV (As := []) (rest := []) ⟨hx, hb, hml, hown, hts⟩ (tX7_hours l D z tt a1 y9  fu r11 q12 _) (cwV 0 hts (gV4 aw1073 aw1075 aw39 aw52 aw1076) rfl rfl rfl (by decide +kernel) ⟨Nat.le_of_ble_eq_true rfl, Nat.le_of_ble_eq_true rfl⟩) (z_preV hK hP hD hS hA hT hN hfo (va_recv hK hP (ci := 7) (q0 := 0) rfl rfl)) rfl rfl hl.1 rfl (lv_room (Nat.le_of_ble_eq_true rfl)) dX7_urn_36 ⟨Nat.zero_le _, Nat.zero_le _⟩) hP hD hS hA hfo (fun H locs hP hD hS => ?_)
    refine lv_iload_n hx hb dX7_urn_39 rfl (lv_at hl 3 rfl) ?_
    refine lv_imul hx hb dX7_urn_40 ?_
    refine lv_iload_n hx hb dX7_urn_41 rfl (lv_at hl 0 rfl) ?_
    refine lv_icmp_ge (tgt := 49) hx hb dX7_urn_42 (by decide) (fun c13 => ?_) (fun c13 => ?_)
    · have hf := if_t c13 hf
      refine lv_iconst (v := 0) hx hb dX7_urn_49 (by decide) ?_
      obtain ⟨rfl, rfl⟩ := so2 hf
      exact ret_i hx hb hr hlocks hK hP hD hS dX7_urn_50
    · have hf := if_f c13 hf
      refine lv_iconst (v := 1) hx hb dX7_urn_45 (by decide) ?_
      refine lv_goto (tgt := 50) hx hb dX7_urn_46 (by decide) ?_
      obtain ⟨rfl, rfl⟩ := so2 hf
      exact ret_i hx hb hr hlocks hK hP hD hS dX7_urn_50
  · have hf := if_f c3 hf
    refine lv_aload_n hx hb dX7_urn_12 rfl (lv_at hl 1 rfl) ?_
    refine lv_iload_n hx hb dX7_urn_13 rfl (lv_at hl 0 rfl) ?_
    obtain ⟨r14, y15, q16, hf⟩ := bd2_use hf
    have hfo : Foc (WMod z a1 m1) (WMod z a1 m1) (WMod z a1 y15) (WMod z a1 y15) := foc_all
    refine z_goI (ws1 := (WMod z a1 y15)) (va_runV (As := [.int r1]) (rest := []) ⟨hx, hb, hml, hown, hts⟩ (tX7_no l D z tt a1 m1 r1 fu r14 y15 q16 _) (cwV 1 hts (gV4 aw843 aw845 aw1 aw52 aw846) rfl rfl rfl (by decide +kernel) ⟨Nat.le_of_ble_eq_true rfl, Nat.le_of_ble_eq_true rfl⟩) (z_preV hK hP hD hS hA hT hN hfo (va_recv hK hP (ci := 7) (q0 := 0) rfl rfl)) rfl rfl hl.1 rfl (lv_room (Nat.le_of_ble_eq_true rfl)) dX7_urn_14 ⟨Nat.zero_le _, Nat.zero_le _⟩) hP hD hS hA hfo (fun H locs hP hD hS => ?_)
    obtain ⟨rfl, rfl⟩ := so2 hf
    exact ret_i hx hb hr hlocks hK hP hD hS dX7_urn_17
def pX7_sorts (fu : Nat) (m1 : Mem) : Option Mem :=
  zl2 (fun g4 (x1 : Int32) (y2 : Mem) =>
    if (y2 0 15) ≤ x1 then
      some y2
    else
      zl2 (fun g10 (x7 : Int32) (y8 : Mem) =>
        if x7 ≤ 0 then
          ck x7 8 <|
          lt' (up2 y8 21 x7.toNatClampNeg x1) fun y13 =>
          lt' (x1 + 1) fun x15 =>
          g4 x15 y13
        else
          ck (x7 - 1) 8 <|
          ck (y8 21 (x7 - 1).toNatClampNeg) 8 <|
          ck x1 8 <|
          if (y8 5 (y8 21 (x7 - 1).toNatClampNeg).toNatClampNeg) ≤ (y8 5 x1.toNatClampNeg) then
            ck x7 8 <|
            lt' (up2 y8 21 x7.toNatClampNeg x1) fun y20 =>
            lt' (x1 + 1) fun x22 =>
            g4 x22 y20
          else
            ck (x7 - 1) 8 <|
            ck x7 8 <|
            lt' (up2 y8 21 x7.toNatClampNeg (y8 21 (x7 - 1).toNatClampNeg)) fun y24 =>
            lt' (x7 + (-1)) fun x26 =>
            g10 x26 y24) fu x1 y2) fu 0 m1
set_option maxHeartbeats 4000000 in
set_option maxRecDepth 100000 in
theorem tX7_sorts (l : Launch) (D : va_G) (z tt : Nat → Nat) (a1 : Nat → Nat) (m1 : Mem)  (fu : Nat) (m1' : Mem) (hf : pX7_sorts fu m1 = some m1') : MetV l yX7_sorts wsX7_sorts ({ frames := 0, cells := 0, slots := 0, locals := 0 } : Room) D z tt ([.ref (a1 0)] : List Value) (WMod z a1 m1) (WMod z a1 m1') := by
  intro sz
  refine Met.ofW (cc := cX7_sorts) (maxL := 3) (ret := none) (by decide) rfl ?_
  intro p e s m args below meth c s₁ B hml hv
  obtain ⟨rfl, hsz, hP, hK, hD0, hT, hN⟩ := hv
  have hx := B.exec
  have hb := B.bytes
  have hr := B.returns
  have hts : ∀ w ∈ wsA, w.before ([.ref (a1 0)] : List Value).toArray s = true := fun w h => atoms_spec (ws := wsX7_sorts) B.pre w (List.mem_cons_of_mem _ h)
  have hown : s.vm.findClass RX7 = some m.cls := findClass_of_methodNamed B.named
  have hlocks := B.notSynchronized
  subst hsz
  have hD := hD0.self (sz := s.heap.size)
  generalize hAe : va_A (WMod z a1 m1) s.heap.size = A at hD hT ⊢
  have hA : ∀ q : Nat, s.heap.size ≤ q → A q := fun q h => by rw [← hAe]; exact Or.inr h
  have hS : va_S A s.heap s.heap [] := va_S.rf
  have hl := lv_entry ([.ref (a1 0)] : List Value) (n := 3) (Nat.le_of_ble_eq_true rfl)
  rw [lg_entry_eq]
  generalize (lg_sl ([.ref (a1 0)] : List Value) ++ List.replicate (3 - (lg_sl ([.ref (a1 0)] : List Value)).length) Slot.unset).toArray = ls at hl ⊢
  have hl : lv_has ls 3 [(0, .ref (a1 0))] := hl
  unfold pX7_sorts at hf
  refine lv_iconst (v := 0) hx hb dX7_sorts_0 (by decide) ?_
  refine lv_istore_n (lv' := [(1, .int 0), (0, .ref (a1 0))]) hx hb dX7_sorts_1 rfl hl (by decide) rfl (fun ls hl => ?_)
  obtain ⟨F3, eF3, hf⟩ := zl2_use hf
  have L2_F3 : ∀ (n : Nat) (x1 : Int32) (y2 : Mem) (H : Heap) (locs : List Loc), va_P D vwCl (WMod z a1 y2) H → va_D A (WMod z a1 y2) → va_S A s.heap H locs → ∀ (ls : Array Slot), lv_has ls 3 [(0, .ref (a1 0)), (1, .int x1)] → zl2 F3 n x1 y2 = some m1' → GV p l e (headSpec wsX7_sorts ({ frames := 0, cells := 0, slots := 0, locals := 0 } : Room)).room s m ([.ref (a1 0)] : List Value).toArray below meth c A D z (WMod z a1 m1') H locs (F0 m 2 ls []) := by
    intro n
    induction n with
    | zero =>
      intro x1 y2 H locs hP hD hS ls hl hf
      exact no_none hf
    | succ n ih5 =>
      intro x1 y2 H locs hP hD hS ls hl hf
      have hf := zl2_s eF3 hf
      refine lv_iload_n hx hb dX7_sorts_2 rfl (lv_at hl 1 rfl) ?_
      refine lv_aload_n hx hb dX7_sorts_3 rfl (lv_at hl 0 rfl) ?_
      refine va_get (D := D) (ci := 7) (v := .int (y2 0 15)) (C := RX7) (T := TX7) (N := 33) hx hb hts iX7 hown hK hP 0 rfl rfl 15 (by decide) (hts _ aw751) (fun _ h9 => h9) rfl dX7_sorts_4 ?_
      refine lv_icmp_ge (tgt := 71) hx hb dX7_sorts_7 (by decide) (fun c6 => ?_) (fun c6 => ?_)
      · have hf := if_t c6 hf
        obtain rfl := so1 hf
        exact ret_v hx hb hr hlocks hK hP hD hS dX7_sorts_71
      · have hf := if_f c6 hf
        refine lv_iload_n hx hb dX7_sorts_10 rfl (lv_at hl 1 rfl) ?_
        refine lv_istore_n (lv' := [(2, .int x1), (0, .ref (a1 0)), (1, .int x1)]) hx hb dX7_sorts_11 rfl hl (by decide) rfl (fun ls hl => ?_)
        obtain ⟨F9, eF9, hf⟩ := zl2_use hf
        have L12_F9 : ∀ (n : Nat) (x7 : Int32) (y8 : Mem) (H : Heap) (locs : List Loc), va_P D vwCl (WMod z a1 y8) H → va_D A (WMod z a1 y8) → va_S A s.heap H locs → ∀ (ls : Array Slot), lv_has ls 3 [(0, .ref (a1 0)), (1, .int x1), (2, .int x7)] → zl2 F9 n x7 y8 = some m1' → GV p l e (headSpec wsX7_sorts ({ frames := 0, cells := 0, slots := 0, locals := 0 } : Room)).room s m ([.ref (a1 0)] : List Value).toArray below meth c A D z (WMod z a1 m1') H locs (F0 m 12 ls []) := by
          intro n
          induction n with
          | zero =>
            intro x7 y8 H locs hP hD hS ls hl hf
            exact no_none hf
          | succ n ih11 =>
            intro x7 y8 H locs hP hD hS ls hl hf
            have hf := zl2_s eF9 hf
            refine lv_iload_n hx hb dX7_sorts_12 rfl (lv_at hl 2 rfl) ?_
            refine lv_if_le (tgt := 58) hx hb dX7_sorts_13 (by decide) (fun c12 => ?_) (fun c12 => ?_)
            · have hf := if_t c12 hf
              refine lv_aload_n hx hb dX7_sorts_58 rfl (lv_at hl 0 rfl) ?_
              refine va_get (D := D) (ci := 7) (v := .ref (a1 21)) (C := RX7) (T := TX7) (N := 33) hx hb hts iX7 hown hK hP 0 rfl rfl 30 (by decide) (hts _ aw766) (fun _ h9 => h9) rfl dX7_sorts_59 ?_
              refine lv_iload_n hx hb dX7_sorts_62 rfl (lv_at hl 2 rfl) ?_
              refine lv_iload_n hx hb dX7_sorts_63 rfl (lv_at hl 1 rfl) ?_
              obtain ⟨h14, hf⟩ := ck_use hf
              refine z_iast hx hb hK hP hD hS 21 rfl h14 dX7_sorts_64 (fun (w9 : Mem) => (WMod z a1 w9)) (up2 y8 21 x7.toNatClampNeg x1) rfl (fun y13 ey13 H locs hP hD hS => ?_)
              have hf := lt_use ey13 hf
              obtain ⟨x15, ex15⟩ : ∃ y : Int32, y = x1 + 1 := ⟨_, rfl⟩
              have hf := lt_use ex15 hf
              refine lv_iinc (v := x15) (lv' := [(1, .int x15), (0, .ref (a1 0)), (2, .int x7)]) hx hb dX7_sorts_65 hl (k := 1) rfl (by rw [ex15]; rfl) (by decide) rfl (fun ls hl => ?_)
              refine lv_goto (tgt := 2) hx hb dX7_sorts_68 (by decide) ?_
              exact ih5 _ _ _ _ hP hD hS _ (lv_sub hl [1, 0] rfl) hf
            · have hf := if_f c12 hf
              refine lv_aload_n hx hb dX7_sorts_16 rfl (lv_at hl 0 rfl) ?_
              refine va_get (D := D) (ci := 7) (v := .ref (a1 5)) (C := RX7) (T := TX7) (N := 33) hx hb hts iX7 hown hK hP 0 rfl rfl 4 (by decide) (hts _ aw740) (fun _ h9 => h9) rfl dX7_sorts_17 ?_
              refine lv_aload_n hx hb dX7_sorts_20 rfl (lv_at hl 0 rfl) ?_
              refine va_get (D := D) (ci := 7) (v := .ref (a1 21)) (C := RX7) (T := TX7) (N := 33) hx hb hts iX7 hown hK hP 0 rfl rfl 30 (by decide) (hts _ aw766) (fun _ h9 => h9) rfl dX7_sorts_21 ?_
              refine lv_iload_n hx hb dX7_sorts_24 rfl (lv_at hl 2 rfl) ?_
              refine lv_iconst (v := 1) hx hb dX7_sorts_25 (by decide) ?_
              refine lv_isub hx hb dX7_sorts_26 ?_
              obtain ⟨h16, hf⟩ := ck_use hf
              refine z_iald hx hb hK hP 21 rfl h16 dX7_sorts_27 ?_
              obtain ⟨h17, hf⟩ := ck_use hf
              refine z_iald hx hb hK hP 5 rfl h17 dX7_sorts_28 ?_
              refine lv_aload_n hx hb dX7_sorts_29 rfl (lv_at hl 0 rfl) ?_
              refine va_get (D := D) (ci := 7) (v := .ref (a1 5)) (C := RX7) (T := TX7) (N := 33) hx hb hts iX7 hown hK hP 0 rfl rfl 4 (by decide) (hts _ aw740) (fun _ h9 => h9) rfl dX7_sorts_30 ?_
              refine lv_iload_n hx hb dX7_sorts_33 rfl (lv_at hl 1 rfl) ?_
              obtain ⟨h18, hf⟩ := ck_use hf
              refine z_iald hx hb hK hP 5 rfl h18 dX7_sorts_34 ?_
              refine lv_icmp_le (tgt := 58) hx hb dX7_sorts_35 (by decide) (fun c19 => ?_) (fun c19 => ?_)
              · have hf := if_t c19 hf
                refine lv_aload_n hx hb dX7_sorts_58 rfl (lv_at hl 0 rfl) ?_
                refine va_get (D := D) (ci := 7) (v := .ref (a1 21)) (C := RX7) (T := TX7) (N := 33) hx hb hts iX7 hown hK hP 0 rfl rfl 30 (by decide) (hts _ aw766) (fun _ h9 => h9) rfl dX7_sorts_59 ?_
                refine lv_iload_n hx hb dX7_sorts_62 rfl (lv_at hl 2 rfl) ?_
                refine lv_iload_n hx hb dX7_sorts_63 rfl (lv_at hl 1 rfl) ?_
                obtain ⟨h21, hf⟩ := ck_use hf
                refine z_iast hx hb hK hP hD hS 21 rfl h21 dX7_sorts_64 (fun (w9 : Mem) => (WMod z a1 w9)) (up2 y8 21 x7.toNatClampNeg x1) rfl (fun y20 ey20 H locs hP hD hS => ?_)
                have hf := lt_use ey20 hf
                obtain ⟨x22, ex22⟩ : ∃ y : Int32, y = x1 + 1 := ⟨_, rfl⟩
                have hf := lt_use ex22 hf
                refine lv_iinc (v := x22) (lv' := [(1, .int x22), (0, .ref (a1 0)), (2, .int x7)]) hx hb dX7_sorts_65 hl (k := 1) rfl (by rw [ex22]; rfl) (by decide) rfl (fun ls hl => ?_)
                refine lv_goto (tgt := 2) hx hb dX7_sorts_68 (by decide) ?_
                exact ih5 _ _ _ _ hP hD hS _ (lv_sub hl [1, 0] rfl) hf
              · have hf := if_f c19 hf
                refine lv_aload_n hx hb dX7_sorts_38 rfl (lv_at hl 0 rfl) ?_
                refine va_get (D := D) (ci := 7) (v := .ref (a1 21)) (C := RX7) (T := TX7) (N := 33) hx hb hts iX7 hown hK hP 0 rfl rfl 30 (by decide) (hts _ aw766) (fun _ h9 => h9) rfl dX7_sorts_39 ?_
                refine lv_iload_n hx hb dX7_sorts_42 rfl (lv_at hl 2 rfl) ?_
                refine lv_aload_n hx hb dX7_sorts_43 rfl (lv_at hl 0 rfl) ?_
                refine va_get (D := D) (ci := 7) (v := .ref (a1 21)) (C := RX7) (T := TX7) (N := 33) hx hb hts iX7 hown hK hP 0 rfl rfl 30 (by decide) (hts _ aw766) (fun _ h9 => h9) rfl dX7_sorts_44 ?_
                refine lv_iload_n hx hb dX7_sorts_47 rfl (lv_at hl 2 rfl) ?_
                refine lv_iconst (v := 1) hx hb dX7_sorts_48 (by decide) ?_
                refine lv_isub hx hb dX7_sorts_49 ?_
                obtain ⟨h23, hf⟩ := ck_use hf
                refine z_iald hx hb hK hP 21 rfl h23 dX7_sorts_50 ?_
                obtain ⟨h25, hf⟩ := ck_use hf
                refine z_iast hx hb hK hP hD hS 21 rfl h25 dX7_sorts_51 (fun (w9 : Mem) => (WMod z a1 w9)) (up2 y8 21 x7.toNatClampNeg (y8 21 (x7 - 1).toNatClampNeg)) rfl (fun y24 ey24 H locs hP hD hS => ?_)
                have hf := lt_use ey24 hf
                obtain ⟨x26, ex26⟩ : ∃ y : Int32, y = x7 + (-1) := ⟨_, rfl⟩
                have hf := lt_use ex26 hf
                refine lv_iinc (v := x26) (lv' := [(2, .int x26), (0, .ref (a1 0)), (1, .int x1)]) hx hb dX7_sorts_52 hl (k := 2) rfl (by rw [ex26]; rfl) (by decide) rfl (fun ls hl => ?_)
                refine lv_goto (tgt := 12) hx hb dX7_sorts_55 (by decide) ?_
                exact ih11 _ _ _ _ hP hD hS _ (lv_sub hl [1, 2, 0] rfl) hf
        exact L12_F9 fu _ _ _ _ hP hD hS _ (lv_sub hl [1, 2, 0] rfl) hf
  exact L2_F3 fu _ _ _ _ hP hD hS _ (lv_sub hl [1, 0] rfl) hf
