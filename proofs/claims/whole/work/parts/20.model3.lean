def pX7_office (fu : Nat) (m1 : Mem) : Option (Int32 × Mem) :=
  lt' (up2 m1 0 24 0) fun y1 =>
  lt' (up2 y1 0 25 0) fun y2 =>
  zl2 (fun g6 (x3 : Int32) (y4 : Mem) =>
    jn1 (fun (u0 : Unit) =>
      lt' (up2 y4 0 23 0) fun y9 =>
      if x3 = 0 then
        some (((-1000) - (y9 0 24)), y9)
      else
        bd (pX7_passesAll fu y9 1 1) fun y11 =>
        zl2 (fun g16 (x13 : Int32) (y14 : Mem) =>
          if (y14 0 25) ≤ x13 then
            some ((y14 0 25), y14)
          else
            bd2 (pX7_comesAs fu y14 x13) fun r19 y20 =>
            if r19 = 0 then
              bd (pX7_passesAll fu y20 1 0) fun y23 =>
              ck x13 48 <|
              some (((-2000) - (y23 18 x13.toNatClampNeg)), y23)
            else
              lt' (x13 + 1) fun x26 =>
              g16 x26 y20) fu 0 y11) fun k8 =>
    if x3 = 0 then
      k8 ()
    else
      jn1 (fun (u0 : Unit) =>
        bd2 (pX7_statement fu y4) fun r29 y30 =>
        if r29 = 0 then
          lt' (up2 y30 0 25 ((y30 0 25) + 0)) fun y33 =>
          g6 r29 y33
        else
          lt' (up2 y30 0 25 ((y30 0 25) + 1)) fun y34 =>
          g6 r29 y34) fun k28 =>
      if (y4 0 24) < (y4 0 23) then
        k28 ()
      else
        if (y4 0 25) = 0 then
          k28 ()
        else
          k8 ()) fu 1 y2
set_option maxHeartbeats 4000000 in
set_option maxRecDepth 100000 in
theorem tX7_office (l : Launch) (D : va_G) (z tt : Nat → Nat) (a1 : Nat → Nat) (m1 : Mem)  (fu : Nat) (rr : Int32) (m1' : Mem) (hf : pX7_office fu m1 = some (rr, m1')) : MetI l yX7_office wsX7_office ({ frames := 4, cells := 0, slots := 0, locals := 91 } : Room) D z tt ([.ref (a1 0)] : List Value) (WMod z a1 m1) rr (WMod z a1 m1') := by
  intro sz
  refine Met.ofW (cc := cX7_office) (maxL := 3) (ret := (some .int)) (by decide) rfl ?_
  intro p e s m args below meth c s₁ B hml hv
  obtain ⟨rfl, hsz, hP, hK, hD0, hT, hN⟩ := hv
  have hx := B.exec
  have hb := B.bytes
  have hr := B.returns
  have hts : ∀ w ∈ wsA, w.before ([.ref (a1 0)] : List Value).toArray s = true := fun w h => atoms_spec (ws := wsX7_office) B.pre w (List.mem_cons_of_mem _ h)
  have hown : s.vm.findClass RX7 = some m.cls := findClass_of_methodNamed B.named
  have hlocks := B.notSynchronized
  subst hsz
  have hD := hD0.self (sz := s.heap.size)
  generalize hAe : va_A (WMod z a1 m1) s.heap.size = A at hD hT ⊢
  have hA : ∀ q : Nat, s.heap.size ≤ q → A q := fun q h => by rw [← hAe]; exact Or.inr h
  have hS : va_S A s.heap s.heap [] := va_S.rf
  have hl := lv_entry ([.ref (a1 0)] : List Value) (n := 3) (Nat.le_of_ble_eq_true rfl)
  rw [lg_entry_eq]
  generalize (lg_sl ([.ref (a1 0)] : List Value) ++ List.replicate (3 - (lg_sl ([.ref (a1 0)] : List Value)).length) Slot.unset).toArray = ls at hl ⊢
  have hl : lv_has ls 3 [(0, .ref (a1 0))] := hl
  unfold pX7_office at hf
  refine lv_aload_n hx hb dX7_office_0 rfl (lv_at hl 0 rfl) ?_
  refine lv_iconst (v := 0) hx hb dX7_office_1 (by decide) ?_
  refine z_put (ci := 7) (v := .int 0) (ty := .int) (C := RX7) (T := TX7) (N := 33) hx hb hts iX7 tyX7 tyX7_ok nmX7 hown hK hP hD hS 0 rfl rfl 24 (by decide) (hts _ aw760) (fun _ h9 => h9) rfl (by decide +kernel) rfl rfl (Nat.le_of_ble_eq_true rfl) dX7_office_2 (fun (w9 : Mem) => (WMod z a1 w9)) (up2 m1 0 24 0) rfl (fun y1 ey1 H locs hP hD hS => ?_)
  have hf := lt_use ey1 hf
  refine lv_aload_n hx hb dX7_office_5 rfl (lv_at hl 0 rfl) ?_
  refine lv_iconst (v := 0) hx hb dX7_office_6 (by decide) ?_
  refine z_put (ci := 7) (v := .int 0) (ty := .int) (C := RX7) (T := TX7) (N := 33) hx hb hts iX7 tyX7 tyX7_ok nmX7 hown hK hP hD hS 0 rfl rfl 25 (by decide) (hts _ aw761) (fun _ h9 => h9) rfl (by decide +kernel) rfl rfl (Nat.le_of_ble_eq_true rfl) dX7_office_7 (fun (w9 : Mem) => (WMod z a1 w9)) (up2 y1 0 25 0) rfl (fun y2 ey2 H locs hP hD hS => ?_)
  have hf := lt_use ey2 hf
  refine lv_iconst (v := 1) hx hb dX7_office_10 (by decide) ?_
  refine lv_istore_n (lv' := [(1, .int 1), (0, .ref (a1 0))]) hx hb dX7_office_11 rfl hl (by decide) rfl (fun ls hl => ?_)
  obtain ⟨F5, eF5, hf⟩ := zl2_use hf
  have L12_F5 : ∀ (n : Nat) (x3 : Int32) (y4 : Mem) (H : Heap) (locs : List Loc), va_P D vwCl (WMod z a1 y4) H → va_D A (WMod z a1 y4) → va_S A s.heap H locs → ∀ (ls : Array Slot), lv_has ls 3 [(0, .ref (a1 0)), (1, .int x3)] → zl2 F5 n x3 y4 = some (rr, m1') → GI p l e (headSpec wsX7_office ({ frames := 4, cells := 0, slots := 0, locals := 91 } : Room)).room s m ([.ref (a1 0)] : List Value).toArray below meth c A D z rr (WMod z a1 m1') H locs (F0 m 12 ls []) := by
    intro n
    induction n with
    | zero =>
      intro x3 y4 H locs hP hD hS ls hl hf
      exact no_none hf
    | succ n ih7 =>
      intro x3 y4 H locs hP hD hS ls hl hf
      have hf := zl2_s eF5 hf
      refine lv_iload_n hx hb dX7_office_12 rfl (lv_at hl 1 rfl) ?_
      obtain ⟨k8, ek8, hf⟩ := jn1_use hf
      have B60_k8 : ∀ (u0 : Unit) (H : Heap) (locs : List Loc), va_P D vwCl (WMod z a1 y4) H → va_D A (WMod z a1 y4) → va_S A s.heap H locs → ∀ (ls : Array Slot), lv_has ls 3 [(0, .ref (a1 0)), (1, .int x3)] → k8 u0 = some (rr, m1') → GI p l e (headSpec wsX7_office ({ frames := 4, cells := 0, slots := 0, locals := 91 } : Room)).room s m ([.ref (a1 0)] : List Value).toArray below meth c A D z rr (WMod z a1 m1') H locs (F0 m 60 ls []) := by
        intro u0 H locs hP hD hS ls hl hf
        have hf := jn1_ap ek8 hf
        refine lv_aload_n hx hb dX7_office_60 rfl (lv_at hl 0 rfl) ?_
        refine lv_iconst (v := 0) hx hb dX7_office_61 (by decide) ?_
        refine z_put (ci := 7) (v := .int 0) (ty := .int) (C := RX7) (T := TX7) (N := 33) hx hb hts iX7 tyX7 tyX7_ok nmX7 hown hK hP hD hS 0 rfl rfl 23 (by decide) (hts _ aw759) (fun _ h9 => h9) rfl (by decide +kernel) rfl rfl (Nat.le_of_ble_eq_true rfl) dX7_office_62 (fun (w9 : Mem) => (WMod z a1 w9)) (up2 y4 0 23 0) rfl (fun y9 ey9 H locs hP hD hS => ?_)
        have hf := lt_use ey9 hf
        refine lv_iload_n hx hb dX7_office_65 rfl (lv_at hl 1 rfl) ?_
        refine lv_if_ne (tgt := 78) hx hb dX7_office_66 (by decide) (fun c10 => ?_) (fun c10 => ?_)
        · have hf := if_f c10 hf
          refine lv_aload_n hx hb dX7_office_78 rfl (lv_at hl 0 rfl) ?_
          refine lv_iconst (v := 1) hx hb dX7_office_79 (by decide) ?_
          refine lv_iconst (v := 1) hx hb dX7_office_80 (by decide) ?_
          obtain ⟨y11, q12, hf⟩ := bd_use hf
          have hfo : Foc (WMod z a1 y9) (WMod z a1 y9) (WMod z a1 y11) (WMod z a1 y11) := foc_all
          refine z_goV (ws1 := (WMod z a1 y11)) (va_runV (As := [.int 1, .int 1]) (rest := []) ⟨hx, hb, hml, hown, hts⟩ (tX7_passesAll l D z tt a1 y9 1 1 fu y11 q12 _) (cwV 2 hts (gV4 aw874 aw876 aw7 aw52 aw877) rfl rfl rfl (by decide +kernel) ⟨Nat.le_of_ble_eq_true rfl, Nat.le_of_ble_eq_true rfl⟩) (z_preV hK hP hD hS hA hT hN hfo (va_recv hK hP (ci := 7) (q0 := 0) rfl rfl)) rfl rfl hl.1 rfl (lv_room (Nat.le_of_ble_eq_true rfl)) dX7_office_81 ⟨Nat.zero_le _, Nat.zero_le _⟩) hP hD hS hA hfo (fun H locs hP hD hS => ?_)
          refine lv_iconst (v := 0) hx hb dX7_office_84 (by decide) ?_
          refine lv_istore_n (lv' := [(2, .int 0), (0, .ref (a1 0)), (1, .int x3)]) hx hb dX7_office_85 rfl hl (by decide) rfl (fun ls hl => ?_)
          obtain ⟨F15, eF15, hf⟩ := zl2_use hf
          have L86_F15 : ∀ (n : Nat) (x13 : Int32) (y14 : Mem) (H : Heap) (locs : List Loc), va_P D vwCl (WMod z a1 y14) H → va_D A (WMod z a1 y14) → va_S A s.heap H locs → ∀ (ls : Array Slot), lv_has ls 3 [(0, .ref (a1 0)), (2, .int x13)] → zl2 F15 n x13 y14 = some (rr, m1') → GI p l e (headSpec wsX7_office ({ frames := 4, cells := 0, slots := 0, locals := 91 } : Room)).room s m ([.ref (a1 0)] : List Value).toArray below meth c A D z rr (WMod z a1 m1') H locs (F0 m 86 ls []) := by
            intro n
            induction n with
            | zero =>
              intro x13 y14 H locs hP hD hS ls hl hf
              exact no_none hf
            | succ n ih17 =>
              intro x13 y14 H locs hP hD hS ls hl hf
              have hf := zl2_s eF15 hf
              refine lv_iload_n hx hb dX7_office_86 rfl (lv_at hl 1 rfl) ?_
              refine lv_aload_n hx hb dX7_office_87 rfl (lv_at hl 0 rfl) ?_
              refine va_get (D := D) (ci := 7) (v := .int (y14 0 25)) (C := RX7) (T := TX7) (N := 33) hx hb hts iX7 hown hK hP 0 rfl rfl 25 (by decide) (hts _ aw761) (fun _ h9 => h9) rfl dX7_office_88 ?_
              refine lv_icmp_ge (tgt := 128) hx hb dX7_office_91 (by decide) (fun c18 => ?_) (fun c18 => ?_)
              · have hf := if_t c18 hf
                refine lv_aload_n hx hb dX7_office_128 rfl (lv_at hl 0 rfl) ?_
                refine va_get (D := D) (ci := 7) (v := .int (y14 0 25)) (C := RX7) (T := TX7) (N := 33) hx hb hts iX7 hown hK hP 0 rfl rfl 25 (by decide) (hts _ aw761) (fun _ h9 => h9) rfl dX7_office_129 ?_
                obtain ⟨rfl, rfl⟩ := so2 hf
                exact ret_i hx hb hr hlocks hK hP hD hS dX7_office_132
              · have hf := if_f c18 hf
                refine lv_aload_n hx hb dX7_office_94 rfl (lv_at hl 0 rfl) ?_
                refine lv_iload_n hx hb dX7_office_95 rfl (lv_at hl 1 rfl) ?_
                obtain ⟨r19, y20, q21, hf⟩ := bd2_use hf
                have hfo : Foc (WMod z a1 y14) (WMod z a1 y14) (WMod z a1 y20) (WMod z a1 y20) := foc_all
                refine z_goI (ws1 := (WMod z a1 y20)) (va_runV (As := [.int x13]) (rest := []) ⟨hx, hb, hml, hown, hts⟩ (tX7_comesAs l D z tt a1 y14 x13 fu r19 y20 q21 _) (cwV 1 hts (gV4 aw886 aw888 aw10 aw52 aw889) rfl rfl rfl (by decide +kernel) ⟨Nat.le_of_ble_eq_true rfl, Nat.le_of_ble_eq_true rfl⟩) (z_preV hK hP hD hS hA hT hN hfo (va_recv hK hP (ci := 7) (q0 := 0) rfl rfl)) rfl rfl hl.1 rfl (lv_room (Nat.le_of_ble_eq_true rfl)) dX7_office_96 ⟨Nat.zero_le _, Nat.zero_le _⟩) hP hD hS hA hfo (fun H locs hP hD hS => ?_)
                refine lv_if_eq (tgt := 105) hx hb dX7_office_99 (by decide) (fun c22 => ?_) (fun c22 => ?_)
                · have hf := if_t c22 hf
                  refine lv_aload_n hx hb dX7_office_105 rfl (lv_at hl 0 rfl) ?_
                  refine lv_iconst (v := 1) hx hb dX7_office_106 (by decide) ?_
                  refine lv_iconst (v := 0) hx hb dX7_office_107 (by decide) ?_
                  obtain ⟨y23, q24, hf⟩ := bd_use hf
                  have hfo : Foc (WMod z a1 y20) (WMod z a1 y20) (WMod z a1 y23) (WMod z a1 y23) := foc_all
                  refine z_goV (ws1 := (WMod z a1 y23)) (va_runV (As := [.int 1, .int 0]) (rest := []) ⟨hx, hb, hml, hown, hts⟩ (tX7_passesAll l D z tt a1 y20 1 0 fu y23 q24 _) (cwV 2 hts (gV4 aw874 aw876 aw7 aw52 aw877) rfl rfl rfl (by decide +kernel) ⟨Nat.le_of_ble_eq_true rfl, Nat.le_of_ble_eq_true rfl⟩) (z_preV hK hP hD hS hA hT hN hfo (va_recv hK hP (ci := 7) (q0 := 0) rfl rfl)) rfl rfl hl.1 rfl (lv_room (Nat.le_of_ble_eq_true rfl)) dX7_office_108 ⟨Nat.zero_le _, Nat.zero_le _⟩) hP hD hS hA hfo (fun H locs hP hD hS => ?_)
                  refine lv_sipush (v := (-2000)) hx hb dX7_office_111 (by decide) ?_
                  refine lv_aload_n hx hb dX7_office_114 rfl (lv_at hl 0 rfl) ?_
                  refine va_get (D := D) (ci := 7) (v := .ref (a1 18)) (C := RX7) (T := TX7) (N := 33) hx hb hts iX7 hown hK hP 0 rfl rfl 21 (by decide) (hts _ aw757) (fun _ h9 => h9) rfl dX7_office_115 ?_
                  refine lv_iload_n hx hb dX7_office_118 rfl (lv_at hl 1 rfl) ?_
                  obtain ⟨h25, hf⟩ := ck_use hf
                  refine z_iald hx hb hK hP 18 rfl h25 dX7_office_119 ?_
                  refine lv_isub hx hb dX7_office_120 ?_
                  obtain ⟨rfl, rfl⟩ := so2 hf
                  exact ret_i hx hb hr hlocks hK hP hD hS dX7_office_121
                · have hf := if_f c22 hf
                  refine lv_goto (tgt := 122) hx hb dX7_office_102 (by decide) ?_
                  obtain ⟨x26, ex26⟩ : ∃ y : Int32, y = x13 + 1 := ⟨_, rfl⟩
                  have hf := lt_use ex26 hf
                  refine lv_iinc (v := x26) (lv' := [(2, .int x26), (0, .ref (a1 0))]) hx hb dX7_office_122 hl (k := 1) rfl (by rw [ex26]; rfl) (by decide) rfl (fun ls hl => ?_)
                  refine lv_goto (tgt := 86) hx hb dX7_office_125 (by decide) ?_
                  exact ih17 _ _ _ _ hP hD hS _ (lv_sub hl [1, 0] rfl) hf
          exact L86_F15 fu _ _ _ _ hP hD hS _ (lv_sub hl [1, 0] rfl) hf
        · have hf := if_t c10 hf
          refine lv_sipush (v := (-1000)) hx hb dX7_office_69 (by decide) ?_
          refine lv_aload_n hx hb dX7_office_72 rfl (lv_at hl 0 rfl) ?_
          refine va_get (D := D) (ci := 7) (v := .int (y9 0 24)) (C := RX7) (T := TX7) (N := 33) hx hb hts iX7 hown hK hP 0 rfl rfl 24 (by decide) (hts _ aw760) (fun _ h9 => h9) rfl dX7_office_73 ?_
          refine lv_isub hx hb dX7_office_76 ?_
          obtain ⟨rfl, rfl⟩ := so2 hf
          exact ret_i hx hb hr hlocks hK hP hD hS dX7_office_77
      refine lv_if_eq (tgt := 60) hx hb dX7_office_13 (by decide) (fun c27 => ?_) (fun c27 => ?_)
      · have hf := if_t c27 hf
        exact B60_k8 _ _ _ hP hD hS _ (lv_sub hl [0, 1] rfl) hf
      · have hf := if_f c27 hf
        refine lv_aload_n hx hb dX7_office_16 rfl (lv_at hl 0 rfl) ?_
        refine va_get (D := D) (ci := 7) (v := .int (y4 0 24)) (C := RX7) (T := TX7) (N := 33) hx hb hts iX7 hown hK hP 0 rfl rfl 24 (by decide) (hts _ aw760) (fun _ h9 => h9) rfl dX7_office_17 ?_
        refine lv_aload_n hx hb dX7_office_20 rfl (lv_at hl 0 rfl) ?_
        refine va_get (D := D) (ci := 7) (v := .int (y4 0 23)) (C := RX7) (T := TX7) (N := 33) hx hb hts iX7 hown hK hP 0 rfl rfl 23 (by decide) (hts _ aw759) (fun _ h9 => h9) rfl dX7_office_21 ?_
        obtain ⟨k28, ek28, hf⟩ := jn1_use hf
        have B34_k28 : ∀ (u0 : Unit) (H : Heap) (locs : List Loc), va_P D vwCl (WMod z a1 y4) H → va_D A (WMod z a1 y4) → va_S A s.heap H locs → ∀ (ls : Array Slot), lv_has ls 3 [(0, .ref (a1 0))] → k28 u0 = some (rr, m1') → GI p l e (headSpec wsX7_office ({ frames := 4, cells := 0, slots := 0, locals := 91 } : Room)).room s m ([.ref (a1 0)] : List Value).toArray below meth c A D z rr (WMod z a1 m1') H locs (F0 m 34 ls []) := by
          intro u0 H locs hP hD hS ls hl hf
          have hf := jn1_ap ek28 hf
          refine lv_aload_n hx hb dX7_office_34 rfl (lv_at hl 0 rfl) ?_
          obtain ⟨r29, y30, q31, hf⟩ := bd2_use hf
          have hfo : Foc (WMod z a1 y4) (WMod z a1 y4) (WMod z a1 y30) (WMod z a1 y30) := foc_all
          refine z_goI (ws1 := (WMod z a1 y30)) (va_runV (As := []) (rest := []) ⟨hx, hb, hml, hown, hts⟩ (tX7_statement l D z tt a1 y4  fu r29 y30 q31 _) (cwV 0 hts (gV4 aw851 aw853 aw2 aw52 aw854) rfl rfl rfl (by decide +kernel) ⟨Nat.le_of_ble_eq_true rfl, Nat.le_of_ble_eq_true rfl⟩) (z_preV hK hP hD hS hA hT hN hfo (va_recv hK hP (ci := 7) (q0 := 0) rfl rfl)) rfl rfl hl.1 rfl (lv_room (Nat.le_of_ble_eq_true rfl)) dX7_office_35 ⟨Nat.zero_le _, Nat.zero_le _⟩) hP hD hS hA hfo (fun H locs hP hD hS => ?_)
          refine lv_istore_n (lv' := [(1, .int r29), (0, .ref (a1 0))]) hx hb dX7_office_38 rfl hl (by decide) rfl (fun ls hl => ?_)
          refine lv_aload_n hx hb dX7_office_39 rfl (lv_at hl 1 rfl) ?_
          refine lv_dup hx hb dX7_office_40 rfl ?_
          refine va_get (D := D) (ci := 7) (v := .int (y30 0 25)) (C := RX7) (T := TX7) (N := 33) hx hb hts iX7 hown hK hP 0 rfl rfl 25 (by decide) (hts _ aw761) (fun _ h9 => h9) rfl dX7_office_41 ?_
          refine lv_iload_n hx hb dX7_office_44 rfl (lv_at hl 0 rfl) ?_
          refine lv_if_eq (tgt := 52) hx hb dX7_office_45 (by decide) (fun c32 => ?_) (fun c32 => ?_)
          · have hf := if_t c32 hf
            refine lv_iconst (v := 0) hx hb dX7_office_52 (by decide) ?_
            refine lv_iadd hx hb dX7_office_53 ?_
            refine z_put (ci := 7) (v := .int ((y30 0 25) + 0)) (ty := .int) (C := RX7) (T := TX7) (N := 33) hx hb hts iX7 tyX7 tyX7_ok nmX7 hown hK hP hD hS 0 rfl rfl 25 (by decide) (hts _ aw761) (fun _ h9 => h9) rfl (by decide +kernel) rfl rfl (Nat.le_of_ble_eq_true rfl) dX7_office_54 (fun (w9 : Mem) => (WMod z a1 w9)) (up2 y30 0 25 ((y30 0 25) + 0)) rfl (fun y33 ey33 H locs hP hD hS => ?_)
            have hf := lt_use ey33 hf
            refine lv_goto (tgt := 12) hx hb dX7_office_57 (by decide) ?_
            exact ih7 _ _ _ _ hP hD hS _ (lv_sub hl [1, 0] rfl) hf
          · have hf := if_f c32 hf
            refine lv_iconst (v := 1) hx hb dX7_office_48 (by decide) ?_
            refine lv_goto (tgt := 53) hx hb dX7_office_49 (by decide) ?_
            refine lv_iadd hx hb dX7_office_53 ?_
            refine z_put (ci := 7) (v := .int ((y30 0 25) + 1)) (ty := .int) (C := RX7) (T := TX7) (N := 33) hx hb hts iX7 tyX7 tyX7_ok nmX7 hown hK hP hD hS 0 rfl rfl 25 (by decide) (hts _ aw761) (fun _ h9 => h9) rfl (by decide +kernel) rfl rfl (Nat.le_of_ble_eq_true rfl) dX7_office_54 (fun (w9 : Mem) => (WMod z a1 w9)) (up2 y30 0 25 ((y30 0 25) + 1)) rfl (fun y34 ey34 H locs hP hD hS => ?_)
            have hf := lt_use ey34 hf
            refine lv_goto (tgt := 12) hx hb dX7_office_57 (by decide) ?_
            exact ih7 _ _ _ _ hP hD hS _ (lv_sub hl [1, 0] rfl) hf
        refine lv_icmp_lt (tgt := 34) hx hb dX7_office_24 (by decide) (fun c35 => ?_) (fun c35 => ?_)
        · have hf := if_t c35 hf
          exact B34_k28 _ _ _ hP hD hS _ (lv_sub hl [0] rfl) hf
        · have hf := if_f c35 hf
          refine lv_aload_n hx hb dX7_office_27 rfl (lv_at hl 0 rfl) ?_
          refine va_get (D := D) (ci := 7) (v := .int (y4 0 25)) (C := RX7) (T := TX7) (N := 33) hx hb hts iX7 hown hK hP 0 rfl rfl 25 (by decide) (hts _ aw761) (fun _ h9 => h9) rfl dX7_office_28 ?_
          refine lv_if_ne (tgt := 60) hx hb dX7_office_31 (by decide) (fun c36 => ?_) (fun c36 => ?_)
          · have hf := if_f c36 hf
            exact B60_k8 _ _ _ hP hD hS _ (lv_sub hl [0, 1] rfl) hf
          · have hf := if_t c36 hf
            exact B34_k28 _ _ _ hP hD hS _ (lv_sub hl [0] rfl) hf
  exact L12_F5 fu _ _ _ _ hP hD hS _ (lv_sub hl [1, 0] rfl) hf
def pX7_image (fu : Nat) (m1 : Mem) : Option (Int32 × Mem) :=
  lt' (up2 m1 0 27 1) fun y1 =>
  bd (pX7_passesAll fu y1 0 1) fun y2 =>
  some ((y2 0 16), y2)
set_option maxHeartbeats 4000000 in
set_option maxRecDepth 100000 in
theorem tX7_image (l : Launch) (D : va_G) (z tt : Nat → Nat) (a1 : Nat → Nat) (m1 : Mem)  (fu : Nat) (rr : Int32) (m1' : Mem) (hf : pX7_image fu m1 = some (rr, m1')) : MetI l yX7_image wsX7_image ({ frames := 2, cells := 0, slots := 0, locals := 44 } : Room) D z tt ([.ref (a1 0)] : List Value) (WMod z a1 m1) rr (WMod z a1 m1') := by
  intro sz
  refine Met.ofW (cc := cX7_image) (maxL := 1) (ret := (some .int)) (by decide) rfl ?_
  intro p e s m args below meth c s₁ B hml hv
  obtain ⟨rfl, hsz, hP, hK, hD0, hT, hN⟩ := hv
  have hx := B.exec
  have hb := B.bytes
  have hr := B.returns
  have hts : ∀ w ∈ wsA, w.before ([.ref (a1 0)] : List Value).toArray s = true := fun w h => atoms_spec (ws := wsX7_image) B.pre w (List.mem_cons_of_mem _ h)
  have hown : s.vm.findClass RX7 = some m.cls := findClass_of_methodNamed B.named
  have hlocks := B.notSynchronized
  subst hsz
  have hD := hD0.self (sz := s.heap.size)
  generalize hAe : va_A (WMod z a1 m1) s.heap.size = A at hD hT ⊢
  have hA : ∀ q : Nat, s.heap.size ≤ q → A q := fun q h => by rw [← hAe]; exact Or.inr h
  have hS : va_S A s.heap s.heap [] := va_S.rf
  have hl := lv_entry ([.ref (a1 0)] : List Value) (n := 1) (Nat.le_of_ble_eq_true rfl)
  rw [lg_entry_eq]
  generalize (lg_sl ([.ref (a1 0)] : List Value) ++ List.replicate (1 - (lg_sl ([.ref (a1 0)] : List Value)).length) Slot.unset).toArray = ls at hl ⊢
  have hl : lv_has ls 1 [(0, .ref (a1 0))] := hl
  unfold pX7_image at hf
  refine lv_aload_n hx hb dX7_image_0 rfl (lv_at hl 0 rfl) ?_
  refine lv_iconst (v := 1) hx hb dX7_image_1 (by decide) ?_
  refine z_put (ci := 7) (v := .int 1) (ty := .boolean) (C := RX7) (T := TX7) (N := 33) hx hb hts iX7 tyX7 tyX7_ok nmX7 hown hK hP hD hS 0 rfl rfl 27 (by decide) (hts _ aw763) (fun _ h9 => h9) rfl (by decide +kernel) rfl rfl (Nat.le_of_ble_eq_true rfl) dX7_image_2 (fun (w9 : Mem) => (WMod z a1 w9)) (up2 m1 0 27 1) rfl (fun y1 ey1 H locs hP hD hS => ?_)
  have hf := lt_use ey1 hf
  refine lv_aload_n hx hb dX7_image_5 rfl (lv_at hl 0 rfl) ?_
  refine lv_iconst (v := 0) hx hb dX7_image_6 (by decide) ?_
  refine lv_iconst (v := 1) hx hb dX7_image_7 (by decide) ?_
  obtain ⟨y2, q3, hf⟩ := bd_use hf
  have hfo : Foc (WMod z a1 y1) (WMod z a1 y1) (WMod z a1 y2) (WMod z a1 y2) := foc_all
  refine z_goV (ws1 := (WMod z a1 y2)) (va_runV (As := [.int 0, .int 1]) (rest := []) ⟨hx, hb, hml, hown, hts⟩ (tX7_passesAll l D z tt a1 y1 0 1 fu y2 q3 _) (cwV 2 hts (gV4 aw874 aw876 aw7 aw52 aw877) rfl rfl rfl (by decide +kernel) ⟨Nat.le_of_ble_eq_true rfl, Nat.le_of_ble_eq_true rfl⟩) (z_preV hK hP hD hS hA hT hN hfo (va_recv hK hP (ci := 7) (q0 := 0) rfl rfl)) rfl rfl hl.1 rfl (lv_room (Nat.le_of_ble_eq_true rfl)) dX7_image_8 ⟨Nat.zero_le _, Nat.zero_le _⟩) hP hD hS hA hfo (fun H locs hP hD hS => ?_)
  refine lv_aload_n hx hb dX7_image_11 rfl (lv_at hl 0 rfl) ?_
  refine va_get (D := D) (ci := 7) (v := .int (y2 0 16)) (C := RX7) (T := TX7) (N := 33) hx hb hts iX7 hown hK hP 0 rfl rfl 16 (by decide) (hts _ aw752) (fun _ h9 => h9) rfl dX7_image_12 ?_
  obtain ⟨rfl, rfl⟩ := so2 hf
  exact ret_i hx hb hr hlocks hK hP hD hS dX7_image_15
def pX7_restore (fu : Nat) (m1 : Mem) : Option (Int32 × Mem) :=
  if (m1 0 27) = 0 then
    bd2 (pX7_no fu m1 (-3)) fun r4 y5 =>
    some (r4, y5)
  else
    bd (pX7_passesAll fu m1 0 0) fun y2 =>
    some ((y2 0 16), y2)
set_option maxHeartbeats 4000000 in
set_option maxRecDepth 100000 in
theorem tX7_restore (l : Launch) (D : va_G) (z tt : Nat → Nat) (a1 : Nat → Nat) (m1 : Mem)  (fu : Nat) (rr : Int32) (m1' : Mem) (hf : pX7_restore fu m1 = some (rr, m1')) : MetI l yX7_restore wsX7_restore ({ frames := 2, cells := 0, slots := 0, locals := 44 } : Room) D z tt ([.ref (a1 0)] : List Value) (WMod z a1 m1) rr (WMod z a1 m1') := by
  intro sz
  refine Met.ofW (cc := cX7_restore) (maxL := 1) (ret := (some .int)) (by decide) rfl ?_
  intro p e s m args below meth c s₁ B hml hv
  obtain ⟨rfl, hsz, hP, hK, hD0, hT, hN⟩ := hv
  have hx := B.exec
  have hb := B.bytes
  have hr := B.returns
  have hts : ∀ w ∈ wsA, w.before ([.ref (a1 0)] : List Value).toArray s = true := fun w h => atoms_spec (ws := wsX7_restore) B.pre w (List.mem_cons_of_mem _ h)
  have hown : s.vm.findClass RX7 = some m.cls := findClass_of_methodNamed B.named
  have hlocks := B.notSynchronized
  subst hsz
  have hD := hD0.self (sz := s.heap.size)
  generalize hAe : va_A (WMod z a1 m1) s.heap.size = A at hD hT ⊢
  have hA : ∀ q : Nat, s.heap.size ≤ q → A q := fun q h => by rw [← hAe]; exact Or.inr h
  have hS : va_S A s.heap s.heap [] := va_S.rf
  have hl := lv_entry ([.ref (a1 0)] : List Value) (n := 1) (Nat.le_of_ble_eq_true rfl)
  rw [lg_entry_eq]
  generalize (lg_sl ([.ref (a1 0)] : List Value) ++ List.replicate (1 - (lg_sl ([.ref (a1 0)] : List Value)).length) Slot.unset).toArray = ls at hl ⊢
  have hl : lv_has ls 1 [(0, .ref (a1 0))] := hl
  unfold pX7_restore at hf
  refine lv_aload_n hx hb dX7_restore_0 rfl (lv_at hl 0 rfl) ?_
  refine va_get (D := D) (ci := 7) (v := .int (m1 0 27)) (C := RX7) (T := TX7) (N := 33) hx hb hts iX7 hown hK hP 0 rfl rfl 27 (by decide) (hts _ aw763) (fun _ h9 => h9) rfl dX7_restore_1 ?_
  refine lv_if_ne (tgt := 14) hx hb dX7_restore_4 (by decide) (fun c1 => ?_) (fun c1 => ?_)
  · have hf := if_f c1 hf
    refine lv_aload_n hx hb dX7_restore_14 rfl (lv_at hl 0 rfl) ?_
    refine lv_iconst (v := 0) hx hb dX7_restore_15 (by decide) ?_
    refine lv_iconst (v := 0) hx hb dX7_restore_16 (by decide) ?_
    obtain ⟨y2, q3, hf⟩ := bd_use hf
    have hfo : Foc (WMod z a1 m1) (WMod z a1 m1) (WMod z a1 y2) (WMod z a1 y2) := foc_all
    refine z_goV (ws1 := (WMod z a1 y2)) (va_runV (As := [.int 0, .int 0]) (rest := []) ⟨hx, hb, hml, hown, hts⟩ (tX7_passesAll l D z tt a1 m1 0 0 fu y2 q3 _) (cwV 2 hts (gV4 aw874 aw876 aw7 aw52 aw877) rfl rfl rfl (by decide +kernel) ⟨Nat.le_of_ble_eq_true rfl, Nat.le_of_ble_eq_true rfl⟩) (z_preV hK hP hD hS hA hT hN hfo (va_recv hK hP (ci := 7) (q0 := 0) rfl rfl)) rfl rfl hl.1 rfl (lv_room (Nat.le_of_ble_eq_true rfl)) dX7_restore_17 ⟨Nat.zero_le _, Nat.zero_le _⟩) hP hD hS hA hfo (fun H locs hP hD hS => ?_)
    refine lv_aload_n hx hb dX7_restore_20 rfl (lv_at hl 0 rfl) ?_
    refine va_get (D := D) (ci := 7) (v := .int (y2 0 16)) (C := RX7) (T := TX7) (N := 33) hx hb hts iX7 hown hK hP 0 rfl rfl 16 (by decide) (hts _ aw752) (fun _ h9 => h9) rfl dX7_restore_21 ?_
    obtain ⟨rfl, rfl⟩ := so2 hf
    exact ret_i hx hb hr hlocks hK hP hD hS dX7_restore_24
  · have hf := if_t c1 hf
    refine lv_aload_n hx hb dX7_restore_7 rfl (lv_at hl 0 rfl) ?_
    refine lv_bipush (v := (-3)) hx hb dX7_restore_8 (by decide) ?_
    obtain ⟨r4, y5, q6, hf⟩ := bd2_use hf
    have hfo : Foc (WMod z a1 m1) (WMod z a1 m1) (WMod z a1 y5) (WMod z a1 y5) := foc_all
    refine z_goI (ws1 := (WMod z a1 y5)) (va_runV (As := [.int (-3)]) (rest := []) ⟨hx, hb, hml, hown, hts⟩ (tX7_no l D z tt a1 m1 (-3) fu r4 y5 q6 _) (cwV 1 hts (gV4 aw843 aw845 aw1 aw52 aw846) rfl rfl rfl (by decide +kernel) ⟨Nat.le_of_ble_eq_true rfl, Nat.le_of_ble_eq_true rfl⟩) (z_preV hK hP hD hS hA hT hN hfo (va_recv hK hP (ci := 7) (q0 := 0) rfl rfl)) rfl rfl hl.1 rfl (lv_room (Nat.le_of_ble_eq_true rfl)) dX7_restore_10 ⟨Nat.zero_le _, Nat.zero_le _⟩) hP hD hS hA hfo (fun H locs hP hD hS => ?_)
    obtain ⟨rfl, rfl⟩ := so2 hf
    exact ret_i hx hb hr hlocks hK hP hD hS dX7_restore_13
def pX7_wantsInLine (fu : Nat) (m1 : Mem) : Option Int32 :=
  zl2 (fun g4 (x1 : Int32) (x2 : Int32) =>
    if (m1 0 17) ≤ x2 then
      some x1
    else
      ck x2 8 <|
      ck (m1 10 x2.toNatClampNeg) 8 <|
      lt' ((x1 + (m1 6 (m1 10 x2.toNatClampNeg).toNatClampNeg)) : Int32) fun x9 =>
      lt' (x2 + 1) fun x10 =>
      g4 x9 x10) fu 0 0
set_option maxHeartbeats 4000000 in
set_option maxRecDepth 100000 in
theorem tX7_wantsInLine (l : Launch) (D : va_G) (z tt : Nat → Nat) (a1 : Nat → Nat) (m1 : Mem)  (fu : Nat) (rr : Int32) (hf : pX7_wantsInLine fu m1 = some rr) : MetI l yX7_wantsInLine wsX7_wantsInLine ({ frames := 0, cells := 0, slots := 0, locals := 0 } : Room) D z tt ([.ref (a1 0)] : List Value) (WMod z a1 m1) rr (WMod z a1 m1) := by
  intro sz
  refine Met.ofW (cc := cX7_wantsInLine) (maxL := 3) (ret := (some .int)) (by decide) rfl ?_
  intro p e s m args below meth c s₁ B hml hv
  obtain ⟨rfl, hsz, hP, hK, hD0, hT, hN⟩ := hv
  have hx := B.exec
  have hb := B.bytes
  have hr := B.returns
  have hts : ∀ w ∈ wsA, w.before ([.ref (a1 0)] : List Value).toArray s = true := fun w h => atoms_spec (ws := wsX7_wantsInLine) B.pre w (List.mem_cons_of_mem _ h)
  have hown : s.vm.findClass RX7 = some m.cls := findClass_of_methodNamed B.named
  have hlocks := B.notSynchronized
  subst hsz
  have hD := hD0.self (sz := s.heap.size)
  generalize hAe : va_A (WMod z a1 m1) s.heap.size = A at hD hT ⊢
  have hA : ∀ q : Nat, s.heap.size ≤ q → A q := fun q h => by rw [← hAe]; exact Or.inr h
  have hS : va_S A s.heap s.heap [] := va_S.rf
  have hl := lv_entry ([.ref (a1 0)] : List Value) (n := 3) (Nat.le_of_ble_eq_true rfl)
  rw [lg_entry_eq]
  generalize (lg_sl ([.ref (a1 0)] : List Value) ++ List.replicate (3 - (lg_sl ([.ref (a1 0)] : List Value)).length) Slot.unset).toArray = ls at hl ⊢
  have hl : lv_has ls 3 [(0, .ref (a1 0))] := hl
  unfold pX7_wantsInLine at hf
  refine lv_iconst (v := 0) hx hb dX7_wantsInLine_0 (by decide) ?_
  refine lv_istore_n (lv' := [(1, .int 0), (0, .ref (a1 0))]) hx hb dX7_wantsInLine_1 rfl hl (by decide) rfl (fun ls hl => ?_)
  refine lv_iconst (v := 0) hx hb dX7_wantsInLine_2 (by decide) ?_
  refine lv_istore_n (lv' := [(2, .int 0), (1, .int 0), (0, .ref (a1 0))]) hx hb dX7_wantsInLine_3 rfl hl (by decide) rfl (fun ls hl => ?_)
  obtain ⟨F3, eF3, hf⟩ := zl2_use hf
  have L4_F3 : ∀ (n : Nat) (x1 : Int32) (x2 : Int32) (H : Heap) (locs : List Loc), va_P D vwCl (WMod z a1 m1) H → va_D A (WMod z a1 m1) → va_S A s.heap H locs → ∀ (ls : Array Slot), lv_has ls 3 [(0, .ref (a1 0)), (1, .int x1), (2, .int x2)] → zl2 F3 n x1 x2 = some rr → GI p l e (headSpec wsX7_wantsInLine ({ frames := 0, cells := 0, slots := 0, locals := 0 } : Room)).room s m ([.ref (a1 0)] : List Value).toArray below meth c A D z rr (WMod z a1 m1) H locs (F0 m 4 ls []) := by
    intro n
    induction n with
    | zero =>
      intro x1 x2 H locs hP hD hS ls hl hf
      exact no_none hf
    | succ n ih5 =>
      intro x1 x2 H locs hP hD hS ls hl hf
      have hf := zl2_s eF3 hf
      refine lv_iload_n hx hb dX7_wantsInLine_4 rfl (lv_at hl 2 rfl) ?_
      refine lv_aload_n hx hb dX7_wantsInLine_5 rfl (lv_at hl 0 rfl) ?_
      refine va_get (D := D) (ci := 7) (v := .int (m1 0 17)) (C := RX7) (T := TX7) (N := 33) hx hb hts iX7 hown hK hP 0 rfl rfl 17 (by decide) (hts _ aw753) (fun _ h9 => h9) rfl dX7_wantsInLine_6 ?_
      refine lv_icmp_ge (tgt := 32) hx hb dX7_wantsInLine_9 (by decide) (fun c6 => ?_) (fun c6 => ?_)
      · have hf := if_t c6 hf
        refine lv_iload_n hx hb dX7_wantsInLine_32 rfl (lv_at hl 1 rfl) ?_
        obtain rfl := so1 hf
        exact ret_i hx hb hr hlocks hK hP hD hS dX7_wantsInLine_33
      · have hf := if_f c6 hf
        refine lv_iload_n hx hb dX7_wantsInLine_12 rfl (lv_at hl 1 rfl) ?_
        refine lv_aload_n hx hb dX7_wantsInLine_13 rfl (lv_at hl 0 rfl) ?_
        refine va_get (D := D) (ci := 7) (v := .ref (a1 6)) (C := RX7) (T := TX7) (N := 33) hx hb hts iX7 hown hK hP 0 rfl rfl 5 (by decide) (hts _ aw741) (fun _ h9 => h9) rfl dX7_wantsInLine_14 ?_
        refine lv_aload_n hx hb dX7_wantsInLine_17 rfl (lv_at hl 0 rfl) ?_
        refine va_get (D := D) (ci := 7) (v := .ref (a1 10)) (C := RX7) (T := TX7) (N := 33) hx hb hts iX7 hown hK hP 0 rfl rfl 9 (by decide) (hts _ aw745) (fun _ h9 => h9) rfl dX7_wantsInLine_18 ?_
        refine lv_iload_n hx hb dX7_wantsInLine_21 rfl (lv_at hl 2 rfl) ?_
        obtain ⟨h7, hf⟩ := ck_use hf
        refine z_iald hx hb hK hP 10 rfl h7 dX7_wantsInLine_22 ?_
        obtain ⟨h8, hf⟩ := ck_use hf
        refine z_iald hx hb hK hP 6 rfl h8 dX7_wantsInLine_23 ?_
        refine lv_iadd hx hb dX7_wantsInLine_24 ?_
        refine lv_topi (fun x9 ex9 => ?_)
        have hf := lt_use ex9 hf
        refine lv_istore_n (lv' := [(1, .int x9), (0, .ref (a1 0)), (2, .int x2)]) hx hb dX7_wantsInLine_25 rfl hl (by decide) rfl (fun ls hl => ?_)
        obtain ⟨x10, ex10⟩ : ∃ y : Int32, y = x2 + 1 := ⟨_, rfl⟩
        have hf := lt_use ex10 hf
        refine lv_iinc (v := x10) (lv' := [(2, .int x10), (1, .int x9), (0, .ref (a1 0))]) hx hb dX7_wantsInLine_26 hl (k := 2) rfl (by rw [ex10]; rfl) (by decide) rfl (fun ls hl => ?_)
        refine lv_goto (tgt := 4) hx hb dX7_wantsInLine_29 (by decide) ?_
        exact ih5 _ _ _ _ hP hD hS _ (lv_sub hl [2, 1, 0] rfl) hf
  exact L4_F3 fu _ _ _ _ hP hD hS _ (lv_sub hl [2, 1, 0] rfl) hf
def pX7_wantsSoon (fu : Nat) (m1 : Mem) (p1 : Int32) : Option Int32 :=
  zl2 (fun g4 (x1 : Int32) (x2 : Int32) =>
    if (m1 0 15) ≤ x2 then
      some x1
    else
      ck x2 8 <|
      if (m1 8 x2.toNatClampNeg) = 0 then
        ck x2 8 <|
        if ((m1 0 16) + p1) < (m1 5 x2.toNatClampNeg) then
          lt' ((x1 + 0) : Int32) fun x13 =>
          lt' (x2 + 1) fun x14 =>
          g4 x13 x14
        else
          ck x2 8 <|
          lt' ((x1 + (m1 6 x2.toNatClampNeg)) : Int32) fun x16 =>
          lt' (x2 + 1) fun x17 =>
          g4 x16 x17
      else
        lt' ((x1 + 0) : Int32) fun x9 =>
        lt' (x2 + 1) fun x10 =>
        g4 x9 x10) fu 0 0
set_option maxHeartbeats 4000000 in
set_option maxRecDepth 100000 in
theorem tX7_wantsSoon (l : Launch) (D : va_G) (z tt : Nat → Nat) (a1 : Nat → Nat) (m1 : Mem) (p1 : Int32) (fu : Nat) (rr : Int32) (hf : pX7_wantsSoon fu m1 p1 = some rr) : MetI l yX7_wantsSoon wsX7_wantsSoon ({ frames := 0, cells := 0, slots := 0, locals := 0 } : Room) D z tt ([.ref (a1 0), .int p1] : List Value) (WMod z a1 m1) rr (WMod z a1 m1) := by
  intro sz
  refine Met.ofW (cc := cX7_wantsSoon) (maxL := 4) (ret := (some .int)) (by decide) rfl ?_
  intro p e s m args below meth c s₁ B hml hv
  obtain ⟨rfl, hsz, hP, hK, hD0, hT, hN⟩ := hv
  have hx := B.exec
  have hb := B.bytes
  have hr := B.returns
  have hts : ∀ w ∈ wsA, w.before ([.ref (a1 0), .int p1] : List Value).toArray s = true := fun w h => atoms_spec (ws := wsX7_wantsSoon) B.pre w (List.mem_cons_of_mem _ h)
  have hown : s.vm.findClass RX7 = some m.cls := findClass_of_methodNamed B.named
  have hlocks := B.notSynchronized
  subst hsz
  have hD := hD0.self (sz := s.heap.size)
  generalize hAe : va_A (WMod z a1 m1) s.heap.size = A at hD hT ⊢
  have hA : ∀ q : Nat, s.heap.size ≤ q → A q := fun q h => by rw [← hAe]; exact Or.inr h
  have hS : va_S A s.heap s.heap [] := va_S.rf
  have hl := lv_entry ([.ref (a1 0), .int p1] : List Value) (n := 4) (Nat.le_of_ble_eq_true rfl)
  rw [lg_entry_eq]
  generalize (lg_sl ([.ref (a1 0), .int p1] : List Value) ++ List.replicate (4 - (lg_sl ([.ref (a1 0), .int p1] : List Value)).length) Slot.unset).toArray = ls at hl ⊢
  have hl : lv_has ls 4 [(0, .ref (a1 0)), (1, .int p1)] := hl
  unfold pX7_wantsSoon at hf
  refine lv_iconst (v := 0) hx hb dX7_wantsSoon_0 (by decide) ?_
  refine lv_istore_n (lv' := [(2, .int 0), (0, .ref (a1 0)), (1, .int p1)]) hx hb dX7_wantsSoon_1 rfl hl (by decide) rfl (fun ls hl => ?_)
  refine lv_iconst (v := 0) hx hb dX7_wantsSoon_2 (by decide) ?_
  refine lv_istore_n (lv' := [(3, .int 0), (2, .int 0), (0, .ref (a1 0)), (1, .int p1)]) hx hb dX7_wantsSoon_3 rfl hl (by decide) rfl (fun ls hl => ?_)
  obtain ⟨F3, eF3, hf⟩ := zl2_use hf
  have L4_F3 : ∀ (n : Nat) (x1 : Int32) (x2 : Int32) (H : Heap) (locs : List Loc), va_P D vwCl (WMod z a1 m1) H → va_D A (WMod z a1 m1) → va_S A s.heap H locs → ∀ (ls : Array Slot), lv_has ls 4 [(0, .ref (a1 0)), (1, .int p1), (2, .int x1), (3, .int x2)] → zl2 F3 n x1 x2 = some rr → GI p l e (headSpec wsX7_wantsSoon ({ frames := 0, cells := 0, slots := 0, locals := 0 } : Room)).room s m ([.ref (a1 0), .int p1] : List Value).toArray below meth c A D z rr (WMod z a1 m1) H locs (F0 m 4 ls []) := by
    intro n
    induction n with
    | zero =>
      intro x1 x2 H locs hP hD hS ls hl hf
      exact no_none hf
    | succ n ih5 =>
      intro x1 x2 H locs hP hD hS ls hl hf
      have hf := zl2_s eF3 hf
      refine lv_iload_n hx hb dX7_wantsSoon_4 rfl (lv_at hl 3 rfl) ?_
      refine lv_aload_n hx hb dX7_wantsSoon_5 rfl (lv_at hl 0 rfl) ?_
      refine va_get (D := D) (ci := 7) (v := .int (m1 0 15)) (C := RX7) (T := TX7) (N := 33) hx hb hts iX7 hown hK hP 0 rfl rfl 15 (by decide) (hts _ aw751) (fun _ h9 => h9) rfl dX7_wantsSoon_6 ?_
      refine lv_icmp_ge (tgt := 55) hx hb dX7_wantsSoon_9 (by decide) (fun c6 => ?_) (fun c6 => ?_)
      · have hf := if_t c6 hf
        refine lv_iload_n hx hb dX7_wantsSoon_55 rfl (lv_at hl 2 rfl) ?_
        obtain rfl := so1 hf
        exact ret_i hx hb hr hlocks hK hP hD hS dX7_wantsSoon_56
      · have hf := if_f c6 hf
        refine lv_iload_n hx hb dX7_wantsSoon_12 rfl (lv_at hl 2 rfl) ?_
        refine lv_aload_n hx hb dX7_wantsSoon_13 rfl (lv_at hl 0 rfl) ?_
        refine va_get (D := D) (ci := 7) (v := .ref (a1 8)) (C := RX7) (T := TX7) (N := 33) hx hb hts iX7 hown hK hP 0 rfl rfl 7 (by decide) (hts _ aw743) (fun _ h9 => h9) rfl dX7_wantsSoon_14 ?_
        refine lv_iload_n hx hb dX7_wantsSoon_17 rfl (lv_at hl 3 rfl) ?_
        obtain ⟨h7, hf⟩ := ck_use hf
        refine z_iald hx hb hK hP 8 rfl h7 dX7_wantsSoon_18 ?_
        refine lv_if_ne (tgt := 46) hx hb dX7_wantsSoon_19 (by decide) (fun c8 => ?_) (fun c8 => ?_)
        · have hf := if_f c8 hf
          refine lv_iconst (v := 0) hx hb dX7_wantsSoon_46 (by decide) ?_
          refine lv_iadd hx hb dX7_wantsSoon_47 ?_
          refine lv_topi (fun x9 ex9 => ?_)
          have hf := lt_use ex9 hf
          refine lv_istore_n (lv' := [(2, .int x9), (0, .ref (a1 0)), (1, .int p1), (3, .int x2)]) hx hb dX7_wantsSoon_48 rfl hl (by decide) rfl (fun ls hl => ?_)
          obtain ⟨x10, ex10⟩ : ∃ y : Int32, y = x2 + 1 := ⟨_, rfl⟩
          have hf := lt_use ex10 hf
          refine lv_iinc (v := x10) (lv' := [(3, .int x10), (2, .int x9), (0, .ref (a1 0)), (1, .int p1)]) hx hb dX7_wantsSoon_49 hl (k := 3) rfl (by rw [ex10]; rfl) (by decide) rfl (fun ls hl => ?_)
          refine lv_goto (tgt := 4) hx hb dX7_wantsSoon_52 (by decide) ?_
          exact ih5 _ _ _ _ hP hD hS _ (lv_sub hl [2, 3, 1, 0] rfl) hf
        · have hf := if_t c8 hf
          refine lv_aload_n hx hb dX7_wantsSoon_22 rfl (lv_at hl 0 rfl) ?_
          refine va_get (D := D) (ci := 7) (v := .ref (a1 5)) (C := RX7) (T := TX7) (N := 33) hx hb hts iX7 hown hK hP 0 rfl rfl 4 (by decide) (hts _ aw740) (fun _ h9 => h9) rfl dX7_wantsSoon_23 ?_
          refine lv_iload_n hx hb dX7_wantsSoon_26 rfl (lv_at hl 3 rfl) ?_
          obtain ⟨h11, hf⟩ := ck_use hf
          refine z_iald hx hb hK hP 5 rfl h11 dX7_wantsSoon_27 ?_
          refine lv_aload_n hx hb dX7_wantsSoon_28 rfl (lv_at hl 0 rfl) ?_
          refine va_get (D := D) (ci := 7) (v := .int (m1 0 16)) (C := RX7) (T := TX7) (N := 33) hx hb hts iX7 hown hK hP 0 rfl rfl 16 (by decide) (hts _ aw752) (fun _ h9 => h9) rfl dX7_wantsSoon_29 ?_
          refine lv_iload_n hx hb dX7_wantsSoon_32 rfl (lv_at hl 1 rfl) ?_
          refine lv_iadd hx hb dX7_wantsSoon_33 ?_
          refine lv_icmp_gt (tgt := 46) hx hb dX7_wantsSoon_34 (by decide) (fun c12 => ?_) (fun c12 => ?_)
          · have hf := if_t c12 hf
            refine lv_iconst (v := 0) hx hb dX7_wantsSoon_46 (by decide) ?_
            refine lv_iadd hx hb dX7_wantsSoon_47 ?_
            refine lv_topi (fun x13 ex13 => ?_)
            have hf := lt_use ex13 hf
            refine lv_istore_n (lv' := [(2, .int x13), (0, .ref (a1 0)), (1, .int p1), (3, .int x2)]) hx hb dX7_wantsSoon_48 rfl hl (by decide) rfl (fun ls hl => ?_)
            obtain ⟨x14, ex14⟩ : ∃ y : Int32, y = x2 + 1 := ⟨_, rfl⟩
            have hf := lt_use ex14 hf
            refine lv_iinc (v := x14) (lv' := [(3, .int x14), (2, .int x13), (0, .ref (a1 0)), (1, .int p1)]) hx hb dX7_wantsSoon_49 hl (k := 3) rfl (by rw [ex14]; rfl) (by decide) rfl (fun ls hl => ?_)
            refine lv_goto (tgt := 4) hx hb dX7_wantsSoon_52 (by decide) ?_
            exact ih5 _ _ _ _ hP hD hS _ (lv_sub hl [2, 3, 1, 0] rfl) hf
          · have hf := if_f c12 hf
            refine lv_aload_n hx hb dX7_wantsSoon_37 rfl (lv_at hl 0 rfl) ?_
            refine va_get (D := D) (ci := 7) (v := .ref (a1 6)) (C := RX7) (T := TX7) (N := 33) hx hb hts iX7 hown hK hP 0 rfl rfl 5 (by decide) (hts _ aw741) (fun _ h9 => h9) rfl dX7_wantsSoon_38 ?_
            refine lv_iload_n hx hb dX7_wantsSoon_41 rfl (lv_at hl 3 rfl) ?_
            obtain ⟨h15, hf⟩ := ck_use hf
            refine z_iald hx hb hK hP 6 rfl h15 dX7_wantsSoon_42 ?_
            refine lv_goto (tgt := 47) hx hb dX7_wantsSoon_43 (by decide) ?_
            refine lv_iadd hx hb dX7_wantsSoon_47 ?_
            refine lv_topi (fun x16 ex16 => ?_)
            have hf := lt_use ex16 hf
            refine lv_istore_n (lv' := [(2, .int x16), (0, .ref (a1 0)), (1, .int p1), (3, .int x2)]) hx hb dX7_wantsSoon_48 rfl hl (by decide) rfl (fun ls hl => ?_)
            obtain ⟨x17, ex17⟩ : ∃ y : Int32, y = x2 + 1 := ⟨_, rfl⟩
            have hf := lt_use ex17 hf
            refine lv_iinc (v := x17) (lv' := [(3, .int x17), (2, .int x16), (0, .ref (a1 0)), (1, .int p1)]) hx hb dX7_wantsSoon_49 hl (k := 3) rfl (by rw [ex17]; rfl) (by decide) rfl (fun ls hl => ?_)
            refine lv_goto (tgt := 4) hx hb dX7_wantsSoon_52 (by decide) ?_
            exact ih5 _ _ _ _ hP hD hS _ (lv_sub hl [2, 3, 1, 0] rfl) hf
  exact L4_F3 fu _ _ _ _ hP hD hS _ (lv_sub hl [2, 3, 1, 0] rfl) hf
def pX7_cupsBy (fu : Nat) (m1 : Mem) (p1 : Int32) (p2 : Int32) : Option Int32 :=
  if p2 = 0 then
    ck p1 8 <|
    some ((m1 6 p1.toNatClampNeg) + 1)
  else
  if p2 = 1 then
    ck p1 8 <|
    some (m1 6 p1.toNatClampNeg)
  else
  if p2 = 2 then
    some (m1 2 0)
  else
  if p2 = 3 then
    bd (pX7_wantsInLine fu m1) fun r7 =>
    some r7
  else
  if p2 = 4 then
    bd (pX7_wantsInLine fu m1) fun r10 =>
    ck p1 8 <|
    bd (pX7_wantsSoon fu m1 (m1 4 p1.toNatClampNeg)) fun r13 =>
    some (r10 + r13)
  else
  if p2 = 5 then
    some (m1 2 6)
  else
  if p2 = 6 then
    ck p1 8 <|
    some (m1 4 p1.toNatClampNeg)
  else
  ck p1 8 <|
  some (m1 6 p1.toNatClampNeg)
set_option maxHeartbeats 4000000 in
set_option maxRecDepth 100000 in
theorem tX7_cupsBy (l : Launch) (D : va_G) (z tt : Nat → Nat) (a1 : Nat → Nat) (m1 : Mem) (p1 : Int32) (p2 : Int32) (fu : Nat) (rr : Int32) (hf : pX7_cupsBy fu m1 p1 p2 = some rr) : MetI l yX7_cupsBy wsX7_cupsBy ({ frames := 1, cells := 0, slots := 0, locals := 23 } : Room) D z tt ([.ref (a1 0), .int p1, .int p2] : List Value) (WMod z a1 m1) rr (WMod z a1 m1) := by
  intro sz
  refine Met.ofW (cc := cX7_cupsBy) (maxL := 3) (ret := (some .int)) (by decide) rfl ?_
  intro p e s m args below meth c s₁ B hml hv
  obtain ⟨rfl, hsz, hP, hK, hD0, hT, hN⟩ := hv
  have hx := B.exec
  have hb := B.bytes
  have hr := B.returns
  have hts : ∀ w ∈ wsA, w.before ([.ref (a1 0), .int p1, .int p2] : List Value).toArray s = true := fun w h => atoms_spec (ws := wsX7_cupsBy) B.pre w (List.mem_cons_of_mem _ h)
  have hown : s.vm.findClass RX7 = some m.cls := findClass_of_methodNamed B.named
  have hlocks := B.notSynchronized
  subst hsz
  have hD := hD0.self (sz := s.heap.size)
  generalize hAe : va_A (WMod z a1 m1) s.heap.size = A at hD hT ⊢
  have hA : ∀ q : Nat, s.heap.size ≤ q → A q := fun q h => by rw [← hAe]; exact Or.inr h
  have hS : va_S A s.heap s.heap [] := va_S.rf
  have hl := lv_entry ([.ref (a1 0), .int p1, .int p2] : List Value) (n := 3) (Nat.le_of_ble_eq_true rfl)
  rw [lg_entry_eq]
  generalize (lg_sl ([.ref (a1 0), .int p1, .int p2] : List Value) ++ List.replicate (3 - (lg_sl ([.ref (a1 0), .int p1, .int p2] : List Value)).length) Slot.unset).toArray = ls at hl ⊢
  have hl : lv_has ls 3 [(0, .ref (a1 0)), (1, .int p1), (2, .int p2)] := hl
  unfold pX7_cupsBy at hf
  refine lv_iload_n hx hb dX7_cupsBy_0 rfl (lv_at hl 2 rfl) ?_
  by_cases c1 : p2 = 0
  · have hf := if_t c1 hf
    refine z_tin (K := 0) hx hb c1 dX7_cupsBy_1 ⟨rfl, by decide, by decide⟩ (tgt := 44) (by decide) ?_
    refine lv_aload_n hx hb dX7_cupsBy_44 rfl (lv_at hl 0 rfl) ?_
    refine va_get (D := D) (ci := 7) (v := .ref (a1 6)) (C := RX7) (T := TX7) (N := 33) hx hb hts iX7 hown hK hP 0 rfl rfl 5 (by decide) (hts _ aw741) (fun _ h9 => h9) rfl dX7_cupsBy_45 ?_
    refine lv_iload_n hx hb dX7_cupsBy_48 rfl (lv_at hl 1 rfl) ?_
    obtain ⟨h2, hf⟩ := ck_use hf
    refine z_iald hx hb hK hP 6 rfl h2 dX7_cupsBy_49 ?_
    refine lv_iconst (v := 1) hx hb dX7_cupsBy_50 (by decide) ?_
    refine lv_iadd hx hb dX7_cupsBy_51 ?_
    obtain rfl := so1 hf
    exact ret_i hx hb hr hlocks hK hP hD hS dX7_cupsBy_52
  have hf := if_f c1 hf
  by_cases c3 : p2 = 1
  · have hf := if_t c3 hf
    refine z_tin (K := 1) hx hb c3 dX7_cupsBy_1 ⟨rfl, by decide, by decide⟩ (tgt := 96) (by decide) ?_
    refine lv_aload_n hx hb dX7_cupsBy_96 rfl (lv_at hl 0 rfl) ?_
    refine va_get (D := D) (ci := 7) (v := .ref (a1 6)) (C := RX7) (T := TX7) (N := 33) hx hb hts iX7 hown hK hP 0 rfl rfl 5 (by decide) (hts _ aw741) (fun _ h9 => h9) rfl dX7_cupsBy_97 ?_
    refine lv_iload_n hx hb dX7_cupsBy_100 rfl (lv_at hl 1 rfl) ?_
    obtain ⟨h4, hf⟩ := ck_use hf
    refine z_iald hx hb hK hP 6 rfl h4 dX7_cupsBy_101 ?_
    obtain rfl := so1 hf
    exact ret_i hx hb hr hlocks hK hP hD hS dX7_cupsBy_102
  have hf := if_f c3 hf
  by_cases c5 : p2 = 2
  · have hf := if_t c5 hf
    refine z_tin (K := 2) hx hb c5 dX7_cupsBy_1 ⟨rfl, by decide, by decide⟩ (tgt := 53) (by decide) ?_
    refine lv_aload_n hx hb dX7_cupsBy_53 rfl (lv_at hl 0 rfl) ?_
    refine va_get (D := D) (ci := 7) (v := .ref (a1 2)) (C := RX7) (T := TX7) (N := 33) hx hb hts iX7 hown hK hP 0 rfl rfl 1 (by decide) (hts _ aw737) (fun _ h9 => h9) rfl dX7_cupsBy_54 ?_
    refine lv_iconst (v := 0) hx hb dX7_cupsBy_57 (by decide) ?_
    refine z_ialdc hx hb hK hP 2 rfl (i := 0) (k := 0) (by decide) (Nat.le_of_ble_eq_true rfl) dX7_cupsBy_58 ?_
    obtain rfl := so1 hf
    exact ret_i hx hb hr hlocks hK hP hD hS dX7_cupsBy_59
  have hf := if_f c5 hf
  by_cases c6 : p2 = 3
  · have hf := if_t c6 hf
    refine z_tin (K := 3) hx hb c6 dX7_cupsBy_1 ⟨rfl, by decide, by decide⟩ (tgt := 60) (by decide) ?_
    refine lv_aload_n hx hb dX7_cupsBy_60 rfl (lv_at hl 0 rfl) ?_
    obtain ⟨r7, q8, hf⟩ := bd_use hf
    have hfo : Foc (WMod z a1 m1) (WMod z a1 m1) (WMod z a1 m1) (WMod z a1 m1) := foc_all
    refine z_goI (ws1 := (WMod z a1 m1)) (va_runV (As := []) (rest := []) ⟨hx, hb, hml, hown, hts⟩ (tX7_wantsInLine l D z tt a1 m1  fu r7 q8 _) (cwV 0 hts (gV4 aw928 aw930 aw16 aw52 aw931) rfl rfl rfl (by decide +kernel) ⟨Nat.le_of_ble_eq_true rfl, Nat.le_of_ble_eq_true rfl⟩) (z_preV hK hP hD hS hA hT hN hfo (va_recv hK hP (ci := 7) (q0 := 0) rfl rfl)) rfl rfl hl.1 rfl (lv_room (Nat.le_of_ble_eq_true rfl)) dX7_cupsBy_61 ⟨Nat.zero_le _, Nat.zero_le _⟩) hP hD hS hA hfo (fun H locs hP hD hS => ?_)
    obtain rfl := so1 hf
    exact ret_i hx hb hr hlocks hK hP hD hS dX7_cupsBy_64
  have hf := if_f c6 hf
  by_cases c9 : p2 = 4
  · have hf := if_t c9 hf
    refine z_tin (K := 4) hx hb c9 dX7_cupsBy_1 ⟨rfl, by decide, by decide⟩ (tgt := 65) (by decide) ?_
    refine lv_aload_n hx hb dX7_cupsBy_65 rfl (lv_at hl 0 rfl) ?_
    obtain ⟨r10, q11, hf⟩ := bd_use hf
    have hfo : Foc (WMod z a1 m1) (WMod z a1 m1) (WMod z a1 m1) (WMod z a1 m1) := foc_all
    refine z_goI (ws1 := (WMod z a1 m1)) (va_runV (As := []) (rest := []) ⟨hx, hb, hml, hown, hts⟩ (tX7_wantsInLine l D z tt a1 m1  fu r10 q11 _) (cwV 0 hts (gV4 aw928 aw930 aw16 aw52 aw931) rfl rfl rfl (by decide +kernel) ⟨Nat.le_of_ble_eq_true rfl, Nat.le_of_ble_eq_true rfl⟩) (z_preV hK hP hD hS hA hT hN hfo (va_recv hK hP (ci := 7) (q0 := 0) rfl rfl)) rfl rfl hl.1 rfl (lv_room (Nat.le_of_ble_eq_true rfl)) dX7_cupsBy_66 ⟨Nat.zero_le _, Nat.zero_le _⟩) hP hD hS hA hfo (fun H locs hP hD hS => ?_)
    refine lv_aload_n hx hb dX7_cupsBy_69 rfl (lv_at hl 0 rfl) ?_
    refine lv_aload_n hx hb dX7_cupsBy_70 rfl (lv_at hl 0 rfl) ?_
    refine va_get (D := D) (ci := 7) (v := .ref (a1 4)) (C := RX7) (T := TX7) (N := 33) hx hb hts iX7 hown hK hP 0 rfl rfl 3 (by decide) (hts _ aw739) (fun _ h9 => h9) rfl dX7_cupsBy_71 ?_
    refine lv_iload_n hx hb dX7_cupsBy_74 rfl (lv_at hl 1 rfl) ?_
    obtain ⟨h12, hf⟩ := ck_use hf
    refine z_iald hx hb hK hP 4 rfl h12 dX7_cupsBy_75 ?_
    obtain ⟨r13, q14, hf⟩ := bd_use hf
    have hfo : Foc (WMod z a1 m1) (WMod z a1 m1) (WMod z a1 m1) (WMod z a1 m1) := foc_all
    refine z_goI (ws1 := (WMod z a1 m1)) (va_runV (As := [.int (m1 4 p1.toNatClampNeg)]) (rest := [.int r10]) ⟨hx, hb, hml, hown, hts⟩ (tX7_wantsSoon l D z tt a1 m1 (m1 4 p1.toNatClampNeg) fu r13 q14 _) (cwV 1 hts (gV4 aw932 aw934 aw17 aw52 aw935) rfl rfl rfl (by decide +kernel) ⟨Nat.le_of_ble_eq_true rfl, Nat.le_of_ble_eq_true rfl⟩) (z_preV hK hP hD hS hA hT hN hfo (va_recv hK hP (ci := 7) (q0 := 0) rfl rfl)) rfl rfl hl.1 rfl (lv_room (Nat.le_of_ble_eq_true rfl)) dX7_cupsBy_76 ⟨Nat.zero_le _, Nat.zero_le _⟩) hP hD hS hA hfo (fun H locs hP hD hS => ?_)
    refine lv_iadd hx hb dX7_cupsBy_79 ?_
    obtain rfl := so1 hf
    exact ret_i hx hb hr hlocks hK hP hD hS dX7_cupsBy_80
  have hf := if_f c9 hf
  by_cases c15 : p2 = 5
  · have hf := if_t c15 hf
    refine z_tin (K := 5) hx hb c15 dX7_cupsBy_1 ⟨rfl, by decide, by decide⟩ (tgt := 81) (by decide) ?_
    refine lv_aload_n hx hb dX7_cupsBy_81 rfl (lv_at hl 0 rfl) ?_
    refine va_get (D := D) (ci := 7) (v := .ref (a1 2)) (C := RX7) (T := TX7) (N := 33) hx hb hts iX7 hown hK hP 0 rfl rfl 1 (by decide) (hts _ aw737) (fun _ h9 => h9) rfl dX7_cupsBy_82 ?_
    refine lv_bipush (v := 6) hx hb dX7_cupsBy_85 (by decide) ?_
    refine z_ialdc hx hb hK hP 2 rfl (i := 6) (k := 6) (by decide) (Nat.le_of_ble_eq_true rfl) dX7_cupsBy_87 ?_
    obtain rfl := so1 hf
    exact ret_i hx hb hr hlocks hK hP hD hS dX7_cupsBy_88
  have hf := if_f c15 hf
  by_cases c16 : p2 = 6
  · have hf := if_t c16 hf
    refine z_tin (K := 6) hx hb c16 dX7_cupsBy_1 ⟨rfl, by decide, by decide⟩ (tgt := 89) (by decide) ?_
    refine lv_aload_n hx hb dX7_cupsBy_89 rfl (lv_at hl 0 rfl) ?_
    refine va_get (D := D) (ci := 7) (v := .ref (a1 4)) (C := RX7) (T := TX7) (N := 33) hx hb hts iX7 hown hK hP 0 rfl rfl 3 (by decide) (hts _ aw739) (fun _ h9 => h9) rfl dX7_cupsBy_90 ?_
    refine lv_iload_n hx hb dX7_cupsBy_93 rfl (lv_at hl 1 rfl) ?_
    obtain ⟨h17, hf⟩ := ck_use hf
    refine z_iald hx hb hK hP 4 rfl h17 dX7_cupsBy_94 ?_
    obtain rfl := so1 hf
    exact ret_i hx hb hr hlocks hK hP hD hS dX7_cupsBy_95
  have hf := if_f c16 hf
  refine lv_tableOut (tgt := 96) hx hb dX7_cupsBy_1 (by have qc1 := lv_neT c1 (show (0 : Int32).toInt = 0 from by decide); have qc3 := lv_neT c3 (show (1 : Int32).toInt = 1 from by decide); have qc5 := lv_neT c5 (show (2 : Int32).toInt = 2 from by decide); have qc6 := lv_neT c6 (show (3 : Int32).toInt = 3 from by decide); have qc9 := lv_neT c9 (show (4 : Int32).toInt = 4 from by decide); have qc15 := lv_neT c15 (show (5 : Int32).toInt = 5 from by decide); have qc16 := lv_neT c16 (show (6 : Int32).toInt = 6 from by decide); omega) (by decide) ?_
  refine lv_aload_n hx hb dX7_cupsBy_96 rfl (lv_at hl 0 rfl) ?_
  refine va_get (D := D) (ci := 7) (v := .ref (a1 6)) (C := RX7) (T := TX7) (N := 33) hx hb hts iX7 hown hK hP 0 rfl rfl 5 (by decide) (hts _ aw741) (fun _ h9 => h9) rfl dX7_cupsBy_97 ?_
  refine lv_iload_n hx hb dX7_cupsBy_100 rfl (lv_at hl 1 rfl) ?_
  obtain ⟨h18, hf⟩ := ck_use hf
  refine z_iald hx hb hK hP 6 rfl h18 dX7_cupsBy_101 ?_
  obtain rfl := so1 hf
  exact ret_i hx hb hr hlocks hK hP hD hS dX7_cupsBy_102
def pX7_upTo (fu : Nat) (m1 : Mem) (p1 : Int32) (p2 : Int32) : Option Int32 :=
  bd (pX7_cupsBy fu m1 p1 p2) fun r1 =>
  ck p1 8 <|
  jn1 (fun (x4 : Int32) =>
    if x4 ≤ (m1 2 0) then
      some x4
    else
      some (m1 2 0)) fun k5 =>
  if (m1 6 p1.toNatClampNeg) ≤ r1 then
    k5 r1
  else
    ck p1 8 <|
    k5 (m1 6 p1.toNatClampNeg)
set_option maxHeartbeats 4000000 in
set_option maxRecDepth 100000 in
theorem tX7_upTo (l : Launch) (D : va_G) (z tt : Nat → Nat) (a1 : Nat → Nat) (m1 : Mem) (p1 : Int32) (p2 : Int32) (fu : Nat) (rr : Int32) (hf : pX7_upTo fu m1 p1 p2 = some rr) : MetI l yX7_upTo wsX7_upTo ({ frames := 2, cells := 0, slots := 0, locals := 45 } : Room) D z tt ([.ref (a1 0), .int p1, .int p2] : List Value) (WMod z a1 m1) rr (WMod z a1 m1) := by
  intro sz
  refine Met.ofW (cc := cX7_upTo) (maxL := 4) (ret := (some .int)) (by decide) rfl ?_
  intro p e s m args below meth c s₁ B hml hv
  obtain ⟨rfl, hsz, hP, hK, hD0, hT, hN⟩ := hv
  have hx := B.exec
  have hb := B.bytes
  have hr := B.returns
  have hts : ∀ w ∈ wsA, w.before ([.ref (a1 0), .int p1, .int p2] : List Value).toArray s = true := fun w h => atoms_spec (ws := wsX7_upTo) B.pre w (List.mem_cons_of_mem _ h)
  have hown : s.vm.findClass RX7 = some m.cls := findClass_of_methodNamed B.named
  have hlocks := B.notSynchronized
  subst hsz
  have hD := hD0.self (sz := s.heap.size)
  generalize hAe : va_A (WMod z a1 m1) s.heap.size = A at hD hT ⊢
  have hA : ∀ q : Nat, s.heap.size ≤ q → A q := fun q h => by rw [← hAe]; exact Or.inr h
  have hS : va_S A s.heap s.heap [] := va_S.rf
  have hl := lv_entry ([.ref (a1 0), .int p1, .int p2] : List Value) (n := 4) (Nat.le_of_ble_eq_true rfl)
  rw [lg_entry_eq]
  generalize (lg_sl ([.ref (a1 0), .int p1, .int p2] : List Value) ++ List.replicate (4 - (lg_sl ([.ref (a1 0), .int p1, .int p2] : List Value)).length) Slot.unset).toArray = ls at hl ⊢
  have hl : lv_has ls 4 [(0, .ref (a1 0)), (1, .int p1), (2, .int p2)] := hl
  unfold pX7_upTo at hf
  refine lv_aload_n hx hb dX7_upTo_0 rfl (lv_at hl 0 rfl) ?_
  refine lv_iload_n hx hb dX7_upTo_1 rfl (lv_at hl 1 rfl) ?_
  refine lv_iload_n hx hb dX7_upTo_2 rfl (lv_at hl 2 rfl) ?_
  obtain ⟨r1, q2, hf⟩ := bd_use hf
  have hfo : Foc (WMod z a1 m1) (WMod z a1 m1) (WMod z a1 m1) (WMod z a1 m1) := foc_all
  refine z_goI (ws1 := (WMod z a1 m1)) (va_runV (As := [.int p1, .int p2]) (rest := []) ⟨hx, hb, hml, hown, hts⟩ (tX7_cupsBy l D z tt a1 m1 p1 p2 fu r1 q2 _) (cwV 2 hts (gV4 aw924 aw926 aw15 aw52 aw927) rfl rfl rfl (by decide +kernel) ⟨Nat.le_of_ble_eq_true rfl, Nat.le_of_ble_eq_true rfl⟩) (z_preV hK hP hD hS hA hT hN hfo (va_recv hK hP (ci := 7) (q0 := 0) rfl rfl)) rfl rfl hl.1 rfl (lv_room (Nat.le_of_ble_eq_true rfl)) dX7_upTo_3 ⟨Nat.zero_le _, Nat.zero_le _⟩) hP hD hS hA hfo (fun H locs hP hD hS => ?_)
  refine lv_istore_n (lv' := [(3, .int r1), (0, .ref (a1 0)), (1, .int p1), (2, .int p2)]) hx hb dX7_upTo_6 rfl hl (by decide) rfl (fun ls hl => ?_)
  refine lv_iload_n hx hb dX7_upTo_7 rfl (lv_at hl 0 rfl) ?_
  refine lv_aload_n hx hb dX7_upTo_8 rfl (lv_at hl 1 rfl) ?_
  refine va_get (D := D) (ci := 7) (v := .ref (a1 6)) (C := RX7) (T := TX7) (N := 33) hx hb hts iX7 hown hK hP 0 rfl rfl 5 (by decide) (hts _ aw741) (fun _ h9 => h9) rfl dX7_upTo_9 ?_
  refine lv_iload_n hx hb dX7_upTo_12 rfl (lv_at hl 2 rfl) ?_
  obtain ⟨h3, hf⟩ := ck_use hf
  refine z_iald hx hb hK hP 6 rfl h3 dX7_upTo_13 ?_
  obtain ⟨k5, ek5, hf⟩ := jn1_use hf
  have B27_k5 : ∀ (x4 : Int32) (H : Heap) (locs : List Loc), va_P D vwCl (WMod z a1 m1) H → va_D A (WMod z a1 m1) → va_S A s.heap H locs → ∀ (ls : Array Slot), lv_has ls 4 [(0, .ref (a1 0))] → k5 x4 = some rr → GI p l e (headSpec wsX7_upTo ({ frames := 2, cells := 0, slots := 0, locals := 45 } : Room)).room s m ([.ref (a1 0), .int p1, .int p2] : List Value).toArray below meth c A D z rr (WMod z a1 m1) H locs (F0 m 27 ls [.int x4]) := by
    intro x4 H locs hP hD hS ls hl hf
    have hf := jn1_ap ek5 hf
    refine lv_istore_n (lv' := [(3, .int x4), (0, .ref (a1 0))]) hx hb dX7_upTo_27 rfl hl (by decide) rfl (fun ls hl => ?_)
    refine lv_iload_n hx hb dX7_upTo_28 rfl (lv_at hl 0 rfl) ?_
    refine lv_aload_n hx hb dX7_upTo_29 rfl (lv_at hl 1 rfl) ?_
    refine va_get (D := D) (ci := 7) (v := .ref (a1 2)) (C := RX7) (T := TX7) (N := 33) hx hb hts iX7 hown hK hP 0 rfl rfl 1 (by decide) (hts _ aw737) (fun _ h9 => h9) rfl dX7_upTo_30 ?_
    refine lv_iconst (v := 0) hx hb dX7_upTo_33 (by decide) ?_
    refine z_ialdc hx hb hK hP 2 rfl (i := 0) (k := 0) (by decide) (Nat.le_of_ble_eq_true rfl) dX7_upTo_34 ?_
    refine lv_icmp_le (tgt := 47) hx hb dX7_upTo_35 (by decide) (fun c6 => ?_) (fun c6 => ?_)
    · have hf := if_t c6 hf
      refine lv_iload_n hx hb dX7_upTo_47 rfl (lv_at hl 0 rfl) ?_
      obtain rfl := so1 hf
      exact ret_i hx hb hr hlocks hK hP hD hS dX7_upTo_48
    · have hf := if_f c6 hf
      refine lv_aload_n hx hb dX7_upTo_38 rfl (lv_at hl 1 rfl) ?_
      refine va_get (D := D) (ci := 7) (v := .ref (a1 2)) (C := RX7) (T := TX7) (N := 33) hx hb hts iX7 hown hK hP 0 rfl rfl 1 (by decide) (hts _ aw737) (fun _ h9 => h9) rfl dX7_upTo_39 ?_
      refine lv_iconst (v := 0) hx hb dX7_upTo_42 (by decide) ?_
      refine z_ialdc hx hb hK hP 2 rfl (i := 0) (k := 0) (by decide) (Nat.le_of_ble_eq_true rfl) dX7_upTo_43 ?_
      refine lv_goto (tgt := 48) hx hb dX7_upTo_44 (by decide) ?_
      obtain rfl := so1 hf
      exact ret_i hx hb hr hlocks hK hP hD hS dX7_upTo_48
  refine lv_icmp_ge (tgt := 26) hx hb dX7_upTo_14 (by decide) (fun c7 => ?_) (fun c7 => ?_)
  · have hf := if_t c7 hf
    refine lv_iload_n hx hb dX7_upTo_26 rfl (lv_at hl 0 rfl) ?_
    exact B27_k5 _ _ _ hP hD hS _ (lv_sub hl [1] rfl) hf
  · have hf := if_f c7 hf
    refine lv_aload_n hx hb dX7_upTo_17 rfl (lv_at hl 1 rfl) ?_
    refine va_get (D := D) (ci := 7) (v := .ref (a1 6)) (C := RX7) (T := TX7) (N := 33) hx hb hts iX7 hown hK hP 0 rfl rfl 5 (by decide) (hts _ aw741) (fun _ h9 => h9) rfl dX7_upTo_18 ?_
    refine lv_iload_n hx hb dX7_upTo_21 rfl (lv_at hl 2 rfl) ?_
    obtain ⟨h8, hf⟩ := ck_use hf
    refine z_iald hx hb hK hP 6 rfl h8 dX7_upTo_22 ?_
    refine lv_goto (tgt := 27) hx hb dX7_upTo_23 (by decide) ?_
    exact B27_k5 _ _ _ hP hD hS _ (lv_sub hl [1] rfl) hf
def pX7_isFree (fu : Nat) (m1 : Mem) (p1 : Int32) : Option Int32 :=
  ck p1 2 <|
  if (m1 0 16) < (m1 14 p1.toNatClampNeg) then
    some 0
  else
    some 1
set_option maxHeartbeats 4000000 in
set_option maxRecDepth 100000 in
theorem tX7_isFree (l : Launch) (D : va_G) (z tt : Nat → Nat) (a1 : Nat → Nat) (m1 : Mem) (p1 : Int32) (fu : Nat) (rr : Int32) (hf : pX7_isFree fu m1 p1 = some rr) : MetI l yX7_isFree wsX7_isFree ({ frames := 0, cells := 0, slots := 0, locals := 0 } : Room) D z tt ([.ref (a1 0), .int p1] : List Value) (WMod z a1 m1) rr (WMod z a1 m1) := by
  intro sz
  refine Met.ofW (cc := cX7_isFree) (maxL := 2) (ret := (some .boolean)) (by decide) rfl ?_
  intro p e s m args below meth c s₁ B hml hv
  obtain ⟨rfl, hsz, hP, hK, hD0, hT, hN⟩ := hv
  have hx := B.exec
  have hb := B.bytes
  have hr := B.returns
  have hts : ∀ w ∈ wsA, w.before ([.ref (a1 0), .int p1] : List Value).toArray s = true := fun w h => atoms_spec (ws := wsX7_isFree) B.pre w (List.mem_cons_of_mem _ h)
  have hown : s.vm.findClass RX7 = some m.cls := findClass_of_methodNamed B.named
  have hlocks := B.notSynchronized
  subst hsz
  have hD := hD0.self (sz := s.heap.size)
  generalize hAe : va_A (WMod z a1 m1) s.heap.size = A at hD hT ⊢
  have hA : ∀ q : Nat, s.heap.size ≤ q → A q := fun q h => by rw [← hAe]; exact Or.inr h
  have hS : va_S A s.heap s.heap [] := va_S.rf
  have hl := lv_entry ([.ref (a1 0), .int p1] : List Value) (n := 2) (Nat.le_of_ble_eq_true rfl)
  rw [lg_entry_eq]
  generalize (lg_sl ([.ref (a1 0), .int p1] : List Value) ++ List.replicate (2 - (lg_sl ([.ref (a1 0), .int p1] : List Value)).length) Slot.unset).toArray = ls at hl ⊢
  have hl : lv_has ls 2 [(0, .ref (a1 0)), (1, .int p1)] := hl
  unfold pX7_isFree at hf
  refine lv_aload_n hx hb dX7_isFree_0 rfl (lv_at hl 0 rfl) ?_
  refine va_get (D := D) (ci := 7) (v := .ref (a1 14)) (C := RX7) (T := TX7) (N := 33) hx hb hts iX7 hown hK hP 0 rfl rfl 13 (by decide) (hts _ aw749) (fun _ h9 => h9) rfl dX7_isFree_1 ?_
  refine lv_iload_n hx hb dX7_isFree_4 rfl (lv_at hl 1 rfl) ?_
  obtain ⟨h1, hf⟩ := ck_use hf
  refine z_iald hx hb hK hP 14 rfl h1 dX7_isFree_5 ?_
  refine lv_aload_n hx hb dX7_isFree_6 rfl (lv_at hl 0 rfl) ?_
  refine va_get (D := D) (ci := 7) (v := .int (m1 0 16)) (C := RX7) (T := TX7) (N := 33) hx hb hts iX7 hown hK hP 0 rfl rfl 16 (by decide) (hts _ aw752) (fun _ h9 => h9) rfl dX7_isFree_7 ?_
  refine lv_icmp_gt (tgt := 17) hx hb dX7_isFree_10 (by decide) (fun c2 => ?_) (fun c2 => ?_)
  · have hf := if_t c2 hf
    refine lv_iconst (v := 0) hx hb dX7_isFree_17 (by decide) ?_
    obtain rfl := so1 hf
    exact ret_z hx hb hr hlocks hK hP hD hS (by decide) dX7_isFree_18
  · have hf := if_f c2 hf
    refine lv_iconst (v := 1) hx hb dX7_isFree_13 (by decide) ?_
    refine lv_goto (tgt := 18) hx hb dX7_isFree_14 (by decide) ?_
    obtain rfl := so1 hf
    exact ret_z hx hb hr hlocks hK hP hD hS (by decide) dX7_isFree_18
def pX7_boilTime (fu : Nat) (m1 : Mem) (p1 : Int32) (p2 : Int32) : Option Int32 :=
  lt' (((((p1 * p2) * (m1 2 2)) + 99) / 100) : Int32) fun x1 =>
  if 1 ≤ x1 then
    some x1
  else
    some 1
set_option maxHeartbeats 4000000 in
set_option maxRecDepth 100000 in
theorem tX7_boilTime (l : Launch) (D : va_G) (z tt : Nat → Nat) (a1 : Nat → Nat) (m1 : Mem) (p1 : Int32) (p2 : Int32) (fu : Nat) (rr : Int32) (hf : pX7_boilTime fu m1 p1 p2 = some rr) : MetI l yX7_boilTime wsX7_boilTime ({ frames := 0, cells := 0, slots := 0, locals := 0 } : Room) D z tt ([.ref (a1 0), .int p1, .int p2] : List Value) (WMod z a1 m1) rr (WMod z a1 m1) := by
  intro sz
  refine Met.ofW (cc := cX7_boilTime) (maxL := 4) (ret := (some .int)) (by decide) rfl ?_
  intro p e s m args below meth c s₁ B hml hv
  obtain ⟨rfl, hsz, hP, hK, hD0, hT, hN⟩ := hv
  have hx := B.exec
  have hb := B.bytes
  have hr := B.returns
  have hts : ∀ w ∈ wsA, w.before ([.ref (a1 0), .int p1, .int p2] : List Value).toArray s = true := fun w h => atoms_spec (ws := wsX7_boilTime) B.pre w (List.mem_cons_of_mem _ h)
  have hown : s.vm.findClass RX7 = some m.cls := findClass_of_methodNamed B.named
  have hlocks := B.notSynchronized
  subst hsz
  have hD := hD0.self (sz := s.heap.size)
  generalize hAe : va_A (WMod z a1 m1) s.heap.size = A at hD hT ⊢
  have hA : ∀ q : Nat, s.heap.size ≤ q → A q := fun q h => by rw [← hAe]; exact Or.inr h
  have hS : va_S A s.heap s.heap [] := va_S.rf
  have hl := lv_entry ([.ref (a1 0), .int p1, .int p2] : List Value) (n := 4) (Nat.le_of_ble_eq_true rfl)
  rw [lg_entry_eq]
  generalize (lg_sl ([.ref (a1 0), .int p1, .int p2] : List Value) ++ List.replicate (4 - (lg_sl ([.ref (a1 0), .int p1, .int p2] : List Value)).length) Slot.unset).toArray = ls at hl ⊢
  have hl : lv_has ls 4 [(0, .ref (a1 0)), (1, .int p1), (2, .int p2)] := hl
  unfold pX7_boilTime at hf
  refine lv_iload_n hx hb dX7_boilTime_0 rfl (lv_at hl 1 rfl) ?_
  refine lv_iload_n hx hb dX7_boilTime_1 rfl (lv_at hl 2 rfl) ?_
  refine lv_imul hx hb dX7_boilTime_2 ?_
  refine lv_aload_n hx hb dX7_boilTime_3 rfl (lv_at hl 0 rfl) ?_
  refine va_get (D := D) (ci := 7) (v := .ref (a1 2)) (C := RX7) (T := TX7) (N := 33) hx hb hts iX7 hown hK hP 0 rfl rfl 1 (by decide) (hts _ aw737) (fun _ h9 => h9) rfl dX7_boilTime_4 ?_
  refine lv_iconst (v := 2) hx hb dX7_boilTime_7 (by decide) ?_
  refine z_ialdc hx hb hK hP 2 rfl (i := 2) (k := 2) (by decide) (Nat.le_of_ble_eq_true rfl) dX7_boilTime_8 ?_
  refine lv_imul hx hb dX7_boilTime_9 ?_
  refine lv_bipush (v := 99) hx hb dX7_boilTime_10 (by decide) ?_
  refine lv_iadd hx hb dX7_boilTime_12 ?_
  refine lv_bipush (v := 100) hx hb dX7_boilTime_13 (by decide) ?_
  refine lv_idiv hx hb dX7_boilTime_15 (by decide) ?_
  refine lv_topi (fun x1 ex1 => ?_)
  have hf := lt_use ex1 hf
  refine lv_istore_n (lv' := [(3, .int x1), (0, .ref (a1 0)), (1, .int p1), (2, .int p2)]) hx hb dX7_boilTime_16 rfl hl (by decide) rfl (fun ls hl => ?_)
  refine lv_iload_n hx hb dX7_boilTime_17 rfl (lv_at hl 0 rfl) ?_
  refine lv_iconst (v := 1) hx hb dX7_boilTime_18 (by decide) ?_
  refine lv_icmp_ge (tgt := 26) hx hb dX7_boilTime_19 (by decide) (fun c2 => ?_) (fun c2 => ?_)
  · have hf := if_t c2 hf
    refine lv_iload_n hx hb dX7_boilTime_26 rfl (lv_at hl 0 rfl) ?_
    obtain rfl := so1 hf
    exact ret_i hx hb hr hlocks hK hP hD hS dX7_boilTime_27
  · have hf := if_f c2 hf
    refine lv_iconst (v := 1) hx hb dX7_boilTime_22 (by decide) ?_
    refine lv_goto (tgt := 27) hx hb dX7_boilTime_23 (by decide) ?_
    obtain rfl := so1 hf
    exact ret_i hx hb hr hlocks hK hP hD hS dX7_boilTime_27
def pX7_putsOn (fu : Nat) (m1 : Mem) (p1 : Int32) (p2 : Int32) : Option Mem :=
  ck p1 8 <|
  bd (pX7_upTo fu m1 p1 (m1 3 p1.toNatClampNeg)) fun r2 =>
  ck p2 2 <|
  jn2 (fun (x5 : Int32) (y6 : Mem) =>
    ck p2 2 <|
    ck p2 2 <|
    bd (pX7_boilTime fu y6 (y6 11 p2.toNatClampNeg) (10 - (y6 12 p2.toNatClampNeg))) fun r10 =>
    ck p2 2 <|
    lt' (up2 y6 14 p2.toNatClampNeg (((y6 0 16) + x5) + r10)) fun y12 =>
    ck p2 2 <|
    lt' (up2 y12 12 p2.toNatClampNeg 10) fun y14 =>
    ck p2 2 <|
    lt' (up2 y14 13 p2.toNatClampNeg 0) fun y16 =>
    ck p2 2 <|
    lt' (up2 y16 15 p2.toNatClampNeg p1) fun y18 =>
    lt' (up2 y18 0 18 ((y18 0 18) + 1)) fun y20 =>
    some y20) fun k7 =>
  if r2 ≤ (m1 11 p2.toNatClampNeg) then
    k7 0 m1
  else
    ck p2 2 <|
    ck p2 2 <|
    ckn r2 <|
    ck p2 2 <|
    lt' (up2 m1 12 p2.toNatClampNeg (((m1 11 p2.toNatClampNeg) * (m1 12 p2.toNatClampNeg)) / r2)) fun y25 =>
    ck p2 2 <|
    lt' (up2 y25 11 p2.toNatClampNeg r2) fun y27 =>
    lt' ((y27 2 1) : Int32) fun x29 =>
    k7 x29 y27
set_option maxHeartbeats 4000000 in
set_option maxRecDepth 100000 in
theorem tX7_putsOn (l : Launch) (D : va_G) (z tt : Nat → Nat) (a1 : Nat → Nat) (m1 : Mem) (p1 : Int32) (p2 : Int32) (fu : Nat) (m1' : Mem) (hf : pX7_putsOn fu m1 p1 p2 = some m1') : MetV l yX7_putsOn wsX7_putsOn ({ frames := 3, cells := 0, slots := 0, locals := 68 } : Room) D z tt ([.ref (a1 0), .int p1, .int p2] : List Value) (WMod z a1 m1) (WMod z a1 m1') := by
  intro sz
  refine Met.ofW (cc := cX7_putsOn) (maxL := 5) (ret := none) (by decide) rfl ?_
  intro p e s m args below meth c s₁ B hml hv
  obtain ⟨rfl, hsz, hP, hK, hD0, hT, hN⟩ := hv
  have hx := B.exec
  have hb := B.bytes
  have hr := B.returns
  have hts : ∀ w ∈ wsA, w.before ([.ref (a1 0), .int p1, .int p2] : List Value).toArray s = true := fun w h => atoms_spec (ws := wsX7_putsOn) B.pre w (List.mem_cons_of_mem _ h)
  have hown : s.vm.findClass RX7 = some m.cls := findClass_of_methodNamed B.named
  have hlocks := B.notSynchronized
  subst hsz
  have hD := hD0.self (sz := s.heap.size)
  generalize hAe : va_A (WMod z a1 m1) s.heap.size = A at hD hT ⊢
  have hA : ∀ q : Nat, s.heap.size ≤ q → A q := fun q h => by rw [← hAe]; exact Or.inr h
  have hS : va_S A s.heap s.heap [] := va_S.rf
  have hl := lv_entry ([.ref (a1 0), .int p1, .int p2] : List Value) (n := 5) (Nat.le_of_ble_eq_true rfl)
  rw [lg_entry_eq]
  generalize (lg_sl ([.ref (a1 0), .int p1, .int p2] : List Value) ++ List.replicate (5 - (lg_sl ([.ref (a1 0), .int p1, .int p2] : List Value)).length) Slot.unset).toArray = ls at hl ⊢
  have hl : lv_has ls 5 [(0, .ref (a1 0)), (1, .int p1), (2, .int p2)] := hl
  unfold pX7_putsOn at hf
  refine lv_aload_n hx hb dX7_putsOn_0 rfl (lv_at hl 0 rfl) ?_
  refine lv_iload_n hx hb dX7_putsOn_1 rfl (lv_at hl 1 rfl) ?_
  refine lv_aload_n hx hb dX7_putsOn_2 rfl (lv_at hl 0 rfl) ?_
  refine va_get (D := D) (ci := 7) (v := .ref (a1 3)) (C := RX7) (T := TX7) (N := 33) hx hb hts iX7 hown hK hP 0 rfl rfl 2 (by decide) (hts _ aw738) (fun _ h9 => h9) rfl dX7_putsOn_3 ?_
  refine lv_iload_n hx hb dX7_putsOn_6 rfl (lv_at hl 1 rfl) ?_
  obtain ⟨h1, hf⟩ := ck_use hf
  refine z_iald hx hb hK hP 3 rfl h1 dX7_putsOn_7 ?_
  obtain ⟨r2, q3, hf⟩ := bd_use hf
  have hfo : Foc (WMod z a1 m1) (WMod z a1 m1) (WMod z a1 m1) (WMod z a1 m1) := foc_all
  refine z_goI (ws1 := (WMod z a1 m1)) (va_runV (As := [.int p1, .int (m1 3 p1.toNatClampNeg)]) (rest := []) ⟨hx, hb, hml, hown, hts⟩ (tX7_upTo l D z tt a1 m1 p1 (m1 3 p1.toNatClampNeg) fu r2 q3 _) (cwV 2 hts (gV4 aw920 aw922 aw14 aw52 aw923) rfl rfl rfl (by decide +kernel) ⟨Nat.le_of_ble_eq_true rfl, Nat.le_of_ble_eq_true rfl⟩) (z_preV hK hP hD hS hA hT hN hfo (va_recv hK hP (ci := 7) (q0 := 0) rfl rfl)) rfl rfl hl.1 rfl (lv_room (Nat.le_of_ble_eq_true rfl)) dX7_putsOn_8 ⟨Nat.zero_le _, Nat.zero_le _⟩) hP hD hS hA hfo (fun H locs hP hD hS => ?_)
  refine lv_istore_n (lv' := [(3, .int r2), (0, .ref (a1 0)), (1, .int p1), (2, .int p2)]) hx hb dX7_putsOn_11 rfl hl (by decide) rfl (fun ls hl => ?_)
  refine lv_iconst (v := 0) hx hb dX7_putsOn_12 (by decide) ?_
  refine lv_istore (lv' := [(4, .int 0), (3, .int r2), (0, .ref (a1 0)), (1, .int p1), (2, .int p2)]) hx hb dX7_putsOn_13 hl (by decide) rfl (fun ls hl => ?_)
  refine lv_aload_n hx hb dX7_putsOn_15 rfl (lv_at hl 2 rfl) ?_
  refine va_get (D := D) (ci := 7) (v := .ref (a1 11)) (C := RX7) (T := TX7) (N := 33) hx hb hts iX7 hown hK hP 0 rfl rfl 10 (by decide) (hts _ aw746) (fun _ h9 => h9) rfl dX7_putsOn_16 ?_
  refine lv_iload_n hx hb dX7_putsOn_19 rfl (lv_at hl 4 rfl) ?_
  obtain ⟨h4, hf⟩ := ck_use hf
  refine z_iald hx hb hK hP 11 rfl h4 dX7_putsOn_20 ?_
  refine lv_iload_n hx hb dX7_putsOn_21 rfl (lv_at hl 1 rfl) ?_
  obtain ⟨k7, ek7, hf⟩ := jn2_use hf
  have B61_k7 : ∀ (x5 : Int32) (y6 : Mem) (H : Heap) (locs : List Loc), va_P D vwCl (WMod z a1 y6) H → va_D A (WMod z a1 y6) → va_S A s.heap H locs → ∀ (ls : Array Slot), lv_has ls 5 [(0, .ref (a1 0)), (1, .int p1), (2, .int p2), (4, .int x5)] → k7 x5 y6 = some m1' → GV p l e (headSpec wsX7_putsOn ({ frames := 3, cells := 0, slots := 0, locals := 68 } : Room)).room s m ([.ref (a1 0), .int p1, .int p2] : List Value).toArray below meth c A D z (WMod z a1 m1') H locs (F0 m 61 ls []) := by
    intro x5 y6 H locs hP hD hS ls hl hf
    have hf := jn2_ap ek7 hf
    refine lv_aload_n hx hb dX7_putsOn_61 rfl (lv_at hl 0 rfl) ?_
    refine va_get (D := D) (ci := 7) (v := .ref (a1 14)) (C := RX7) (T := TX7) (N := 33) hx hb hts iX7 hown hK hP 0 rfl rfl 13 (by decide) (hts _ aw749) (fun _ h9 => h9) rfl dX7_putsOn_62 ?_
    refine lv_iload_n hx hb dX7_putsOn_65 rfl (lv_at hl 2 rfl) ?_
    refine lv_aload_n hx hb dX7_putsOn_66 rfl (lv_at hl 0 rfl) ?_
    refine va_get (D := D) (ci := 7) (v := .int (y6 0 16)) (C := RX7) (T := TX7) (N := 33) hx hb hts iX7 hown hK hP 0 rfl rfl 16 (by decide) (hts _ aw752) (fun _ h9 => h9) rfl dX7_putsOn_67 ?_
    refine lv_iload hx hb dX7_putsOn_70 (lv_at hl 3 rfl) ?_
    refine lv_iadd hx hb dX7_putsOn_72 ?_
    refine lv_aload_n hx hb dX7_putsOn_73 rfl (lv_at hl 0 rfl) ?_
    refine lv_aload_n hx hb dX7_putsOn_74 rfl (lv_at hl 0 rfl) ?_
    refine va_get (D := D) (ci := 7) (v := .ref (a1 11)) (C := RX7) (T := TX7) (N := 33) hx hb hts iX7 hown hK hP 0 rfl rfl 10 (by decide) (hts _ aw746) (fun _ h9 => h9) rfl dX7_putsOn_75 ?_
    refine lv_iload_n hx hb dX7_putsOn_78 rfl (lv_at hl 2 rfl) ?_
    obtain ⟨h8, hf⟩ := ck_use hf
    refine z_iald hx hb hK hP 11 rfl h8 dX7_putsOn_79 ?_
    refine lv_bipush (v := 10) hx hb dX7_putsOn_80 (by decide) ?_
    refine lv_aload_n hx hb dX7_putsOn_82 rfl (lv_at hl 0 rfl) ?_
    refine va_get (D := D) (ci := 7) (v := .ref (a1 12)) (C := RX7) (T := TX7) (N := 33) hx hb hts iX7 hown hK hP 0 rfl rfl 11 (by decide) (hts _ aw747) (fun _ h9 => h9) rfl dX7_putsOn_83 ?_
    refine lv_iload_n hx hb dX7_putsOn_86 rfl (lv_at hl 2 rfl) ?_
    obtain ⟨h9, hf⟩ := ck_use hf
    refine z_iald hx hb hK hP 12 rfl h9 dX7_putsOn_87 ?_
    refine lv_isub hx hb dX7_putsOn_88 ?_
    obtain ⟨r10, q11, hf⟩ := bd_use hf
    have hfo : Foc (WMod z a1 y6) (WMod z a1 y6) (WMod z a1 y6) (WMod z a1 y6) := foc_all
    refine z_goI (ws1 := (WMod z a1 y6)) (va_runV (As := [.int (y6 11 p2.toNatClampNeg), .int (10 - (y6 12 p2.toNatClampNeg))]) (rest := [.int ((y6 0 16) + x5), .int p2, .ref (a1 14)]) ⟨hx, hb, hml, hown, hts⟩ (tX7_boilTime l D z tt a1 y6 (y6 11 p2.toNatClampNeg) (10 - (y6 12 p2.toNatClampNeg)) fu r10 q11 _) (cwV 2 hts (gV4 aw984 aw986 aw26 aw52 aw987) rfl rfl rfl (by decide +kernel) ⟨Nat.le_of_ble_eq_true rfl, Nat.le_of_ble_eq_true rfl⟩) (z_preV hK hP hD hS hA hT hN hfo (va_recv hK hP (ci := 7) (q0 := 0) rfl rfl)) rfl rfl hl.1 rfl (lv_room (Nat.le_of_ble_eq_true rfl)) dX7_putsOn_89 ⟨Nat.zero_le _, Nat.zero_le _⟩) hP hD hS hA hfo (fun H locs hP hD hS => ?_)
    refine lv_iadd hx hb dX7_putsOn_92 ?_
    obtain ⟨h13, hf⟩ := ck_use hf
    refine z_iast hx hb hK hP hD hS 14 rfl h13 dX7_putsOn_93 (fun (w9 : Mem) => (WMod z a1 w9)) (up2 y6 14 p2.toNatClampNeg (((y6 0 16) + x5) + r10)) rfl (fun y12 ey12 H locs hP hD hS => ?_)
    have hf := lt_use ey12 hf
    refine lv_aload_n hx hb dX7_putsOn_94 rfl (lv_at hl 0 rfl) ?_
    refine va_get (D := D) (ci := 7) (v := .ref (a1 12)) (C := RX7) (T := TX7) (N := 33) hx hb hts iX7 hown hK hP 0 rfl rfl 11 (by decide) (hts _ aw747) (fun _ h9 => h9) rfl dX7_putsOn_95 ?_
    refine lv_iload_n hx hb dX7_putsOn_98 rfl (lv_at hl 2 rfl) ?_
    refine lv_bipush (v := 10) hx hb dX7_putsOn_99 (by decide) ?_
    obtain ⟨h15, hf⟩ := ck_use hf
    refine z_iast hx hb hK hP hD hS 12 rfl h15 dX7_putsOn_101 (fun (w9 : Mem) => (WMod z a1 w9)) (up2 y12 12 p2.toNatClampNeg 10) rfl (fun y14 ey14 H locs hP hD hS => ?_)
    have hf := lt_use ey14 hf
    refine lv_aload_n hx hb dX7_putsOn_102 rfl (lv_at hl 0 rfl) ?_
    refine va_get (D := D) (ci := 7) (v := .ref (a1 13)) (C := RX7) (T := TX7) (N := 33) hx hb hts iX7 hown hK hP 0 rfl rfl 12 (by decide) (hts _ aw748) (fun _ h9 => h9) rfl dX7_putsOn_103 ?_
    refine lv_iload_n hx hb dX7_putsOn_106 rfl (lv_at hl 2 rfl) ?_
    refine lv_iconst (v := 0) hx hb dX7_putsOn_107 (by decide) ?_
    obtain ⟨h17, hf⟩ := ck_use hf
    refine z_iast hx hb hK hP hD hS 13 rfl h17 dX7_putsOn_108 (fun (w9 : Mem) => (WMod z a1 w9)) (up2 y14 13 p2.toNatClampNeg 0) rfl (fun y16 ey16 H locs hP hD hS => ?_)
    have hf := lt_use ey16 hf
    refine lv_aload_n hx hb dX7_putsOn_109 rfl (lv_at hl 0 rfl) ?_
    refine va_get (D := D) (ci := 7) (v := .ref (a1 15)) (C := RX7) (T := TX7) (N := 33) hx hb hts iX7 hown hK hP 0 rfl rfl 14 (by decide) (hts _ aw750) (fun _ h9 => h9) rfl dX7_putsOn_110 ?_
    refine lv_iload_n hx hb dX7_putsOn_113 rfl (lv_at hl 2 rfl) ?_
    refine lv_iload_n hx hb dX7_putsOn_114 rfl (lv_at hl 1 rfl) ?_
    obtain ⟨h19, hf⟩ := ck_use hf
    refine z_iast hx hb hK hP hD hS 15 rfl h19 dX7_putsOn_115 (fun (w9 : Mem) => (WMod z a1 w9)) (up2 y16 15 p2.toNatClampNeg p1) rfl (fun y18 ey18 H locs hP hD hS => ?_)
    have hf := lt_use ey18 hf
    refine lv_aload_n hx hb dX7_putsOn_116 rfl (lv_at hl 0 rfl) ?_
    refine lv_dup hx hb dX7_putsOn_117 rfl ?_
    refine va_get (D := D) (ci := 7) (v := .int (y18 0 18)) (C := RX7) (T := TX7) (N := 33) hx hb hts iX7 hown hK hP 0 rfl rfl 18 (by decide) (hts _ aw754) (fun _ h9 => h9) rfl dX7_putsOn_118 ?_
    refine lv_iconst (v := 1) hx hb dX7_putsOn_121 (by decide) ?_
    refine lv_iadd hx hb dX7_putsOn_122 ?_
    refine z_put (ci := 7) (v := .int ((y18 0 18) + 1)) (ty := .int) (C := RX7) (T := TX7) (N := 33) hx hb hts iX7 tyX7 tyX7_ok nmX7 hown hK hP hD hS 0 rfl rfl 18 (by decide) (hts _ aw754) (fun _ h9 => h9) rfl (by decide +kernel) rfl rfl (Nat.le_of_ble_eq_true rfl) dX7_putsOn_123 (fun (w9 : Mem) => (WMod z a1 w9)) (up2 y18 0 18 ((y18 0 18) + 1)) rfl (fun y20 ey20 H locs hP hD hS => ?_)
    have hf := lt_use ey20 hf
    obtain rfl := so1 hf
    exact ret_v hx hb hr hlocks hK hP hD hS dX7_putsOn_126
  refine lv_icmp_ge (tgt := 61) hx hb dX7_putsOn_22 (by decide) (fun c21 => ?_) (fun c21 => ?_)
  · have hf := if_t c21 hf
    exact B61_k7 _ _ _ _ hP hD hS _ (lv_sub hl [2, 3, 4, 0] rfl) hf
  · have hf := if_f c21 hf
    refine lv_aload_n hx hb dX7_putsOn_25 rfl (lv_at hl 2 rfl) ?_
    refine va_get (D := D) (ci := 7) (v := .ref (a1 12)) (C := RX7) (T := TX7) (N := 33) hx hb hts iX7 hown hK hP 0 rfl rfl 11 (by decide) (hts _ aw747) (fun _ h9 => h9) rfl dX7_putsOn_26 ?_
    refine lv_iload_n hx hb dX7_putsOn_29 rfl (lv_at hl 4 rfl) ?_
    refine lv_aload_n hx hb dX7_putsOn_30 rfl (lv_at hl 2 rfl) ?_
    refine va_get (D := D) (ci := 7) (v := .ref (a1 11)) (C := RX7) (T := TX7) (N := 33) hx hb hts iX7 hown hK hP 0 rfl rfl 10 (by decide) (hts _ aw746) (fun _ h9 => h9) rfl dX7_putsOn_31 ?_
    refine lv_iload_n hx hb dX7_putsOn_34 rfl (lv_at hl 4 rfl) ?_
    obtain ⟨h22, hf⟩ := ck_use hf
    refine z_iald hx hb hK hP 11 rfl h22 dX7_putsOn_35 ?_
    refine lv_aload_n hx hb dX7_putsOn_36 rfl (lv_at hl 2 rfl) ?_
    refine va_get (D := D) (ci := 7) (v := .ref (a1 12)) (C := RX7) (T := TX7) (N := 33) hx hb hts iX7 hown hK hP 0 rfl rfl 11 (by decide) (hts _ aw747) (fun _ h9 => h9) rfl dX7_putsOn_37 ?_
    refine lv_iload_n hx hb dX7_putsOn_40 rfl (lv_at hl 4 rfl) ?_
    obtain ⟨h23, hf⟩ := ck_use hf
    refine z_iald hx hb hK hP 12 rfl h23 dX7_putsOn_41 ?_
    refine lv_imul hx hb dX7_putsOn_42 ?_
    refine lv_iload_n hx hb dX7_putsOn_43 rfl (lv_at hl 1 rfl) ?_
    obtain ⟨h24, hf⟩ := ckn_use hf
    refine lv_idiv hx hb dX7_putsOn_44 h24 ?_
    obtain ⟨h26, hf⟩ := ck_use hf
    refine z_iast hx hb hK hP hD hS 12 rfl h26 dX7_putsOn_45 (fun (w9 : Mem) => (WMod z a1 w9)) (up2 m1 12 p2.toNatClampNeg (((m1 11 p2.toNatClampNeg) * (m1 12 p2.toNatClampNeg)) / r2)) rfl (fun y25 ey25 H locs hP hD hS => ?_)
    have hf := lt_use ey25 hf
    refine lv_aload_n hx hb dX7_putsOn_46 rfl (lv_at hl 2 rfl) ?_
    refine va_get (D := D) (ci := 7) (v := .ref (a1 11)) (C := RX7) (T := TX7) (N := 33) hx hb hts iX7 hown hK hP 0 rfl rfl 10 (by decide) (hts _ aw746) (fun _ h9 => h9) rfl dX7_putsOn_47 ?_
    refine lv_iload_n hx hb dX7_putsOn_50 rfl (lv_at hl 4 rfl) ?_
    refine lv_iload_n hx hb dX7_putsOn_51 rfl (lv_at hl 1 rfl) ?_
    obtain ⟨h28, hf⟩ := ck_use hf
    refine z_iast hx hb hK hP hD hS 11 rfl h28 dX7_putsOn_52 (fun (w9 : Mem) => (WMod z a1 w9)) (up2 y25 11 p2.toNatClampNeg r2) rfl (fun y27 ey27 H locs hP hD hS => ?_)
    have hf := lt_use ey27 hf
    refine lv_aload_n hx hb dX7_putsOn_53 rfl (lv_at hl 2 rfl) ?_
    refine va_get (D := D) (ci := 7) (v := .ref (a1 2)) (C := RX7) (T := TX7) (N := 33) hx hb hts iX7 hown hK hP 0 rfl rfl 1 (by decide) (hts _ aw737) (fun _ h9 => h9) rfl dX7_putsOn_54 ?_
    refine lv_iconst (v := 1) hx hb dX7_putsOn_57 (by decide) ?_
    refine z_ialdc hx hb hK hP 2 rfl (i := 1) (k := 1) (by decide) (Nat.le_of_ble_eq_true rfl) dX7_putsOn_58 ?_
    refine lv_topi (fun x29 ex29 => ?_)
    have hf := lt_use ex29 hf
    refine lv_istore (lv' := [(4, .int x29), (3, .int r2), (0, .ref (a1 0)), (1, .int p1), (2, .int p2)]) hx hb dX7_putsOn_59 hl (by decide) rfl (fun ls hl => ?_)
    exact B61_k7 _ _ _ _ hP hD hS _ (lv_sub hl [2, 3, 4, 0] rfl) hf
def pX7_hotFor (fu : Nat) (m1 : Mem) (p1 : Int32) : Option Int32 :=
  zl1 (fun g3 (x1 : Int32) =>
    if (m1 2 7) ≤ x1 then
      some (-9)
    else
      bd (pX7_isFree fu m1 x1) fun r6 =>
      if r6 = 0 then
        lt' (x1 + 1) fun x9 =>
        g3 x9
      else
        ck x1 2 <|
        if (m1 12 x1.toNatClampNeg) < 8 then
          lt' (x1 + 1) fun x12 =>
          g3 x12
        else
          ck x1 2 <|
          ck p1 8 <|
          if (m1 11 x1.toNatClampNeg) < (m1 6 p1.toNatClampNeg) then
            lt' (x1 + 1) fun x16 =>
            g3 x16
          else
            some x1) fu 0
set_option maxHeartbeats 4000000 in
set_option maxRecDepth 100000 in
theorem tX7_hotFor (l : Launch) (D : va_G) (z tt : Nat → Nat) (a1 : Nat → Nat) (m1 : Mem) (p1 : Int32) (fu : Nat) (rr : Int32) (hf : pX7_hotFor fu m1 p1 = some rr) : MetI l yX7_hotFor wsX7_hotFor ({ frames := 1, cells := 0, slots := 0, locals := 21 } : Room) D z tt ([.ref (a1 0), .int p1] : List Value) (WMod z a1 m1) rr (WMod z a1 m1) := by
  intro sz
  refine Met.ofW (cc := cX7_hotFor) (maxL := 3) (ret := (some .int)) (by decide) rfl ?_
  intro p e s m args below meth c s₁ B hml hv
  obtain ⟨rfl, hsz, hP, hK, hD0, hT, hN⟩ := hv
  have hx := B.exec
  have hb := B.bytes
  have hr := B.returns
  have hts : ∀ w ∈ wsA, w.before ([.ref (a1 0), .int p1] : List Value).toArray s = true := fun w h => atoms_spec (ws := wsX7_hotFor) B.pre w (List.mem_cons_of_mem _ h)
  have hown : s.vm.findClass RX7 = some m.cls := findClass_of_methodNamed B.named
  have hlocks := B.notSynchronized
  subst hsz
  have hD := hD0.self (sz := s.heap.size)
  generalize hAe : va_A (WMod z a1 m1) s.heap.size = A at hD hT ⊢
  have hA : ∀ q : Nat, s.heap.size ≤ q → A q := fun q h => by rw [← hAe]; exact Or.inr h
  have hS : va_S A s.heap s.heap [] := va_S.rf
  have hl := lv_entry ([.ref (a1 0), .int p1] : List Value) (n := 3) (Nat.le_of_ble_eq_true rfl)
  rw [lg_entry_eq]
  generalize (lg_sl ([.ref (a1 0), .int p1] : List Value) ++ List.replicate (3 - (lg_sl ([.ref (a1 0), .int p1] : List Value)).length) Slot.unset).toArray = ls at hl ⊢
  have hl : lv_has ls 3 [(0, .ref (a1 0)), (1, .int p1)] := hl
  unfold pX7_hotFor at hf
  refine lv_iconst (v := 0) hx hb dX7_hotFor_0 (by decide) ?_
  refine lv_istore_n (lv' := [(2, .int 0), (0, .ref (a1 0)), (1, .int p1)]) hx hb dX7_hotFor_1 rfl hl (by decide) rfl (fun ls hl => ?_)
  obtain ⟨F2, eF2, hf⟩ := zl1_use hf
  have L2_F2 : ∀ (n : Nat) (x1 : Int32) (H : Heap) (locs : List Loc), va_P D vwCl (WMod z a1 m1) H → va_D A (WMod z a1 m1) → va_S A s.heap H locs → ∀ (ls : Array Slot), lv_has ls 3 [(0, .ref (a1 0)), (1, .int p1), (2, .int x1)] → zl1 F2 n x1 = some rr → GI p l e (headSpec wsX7_hotFor ({ frames := 1, cells := 0, slots := 0, locals := 21 } : Room)).room s m ([.ref (a1 0), .int p1] : List Value).toArray below meth c A D z rr (WMod z a1 m1) H locs (F0 m 2 ls []) := by
    intro n
    induction n with
    | zero =>
      intro x1 H locs hP hD hS ls hl hf
      exact no_none hf
    | succ n ih4 =>
      intro x1 H locs hP hD hS ls hl hf
      have hf := zl1_s eF2 hf
      refine lv_iload_n hx hb dX7_hotFor_2 rfl (lv_at hl 2 rfl) ?_
      refine lv_aload_n hx hb dX7_hotFor_3 rfl (lv_at hl 0 rfl) ?_
      refine va_get (D := D) (ci := 7) (v := .ref (a1 2)) (C := RX7) (T := TX7) (N := 33) hx hb hts iX7 hown hK hP 0 rfl rfl 1 (by decide) (hts _ aw737) (fun _ h9 => h9) rfl dX7_hotFor_4 ?_
      refine lv_bipush (v := 7) hx hb dX7_hotFor_7 (by decide) ?_
      refine z_ialdc hx hb hK hP 2 rfl (i := 7) (k := 7) (by decide) (Nat.le_of_ble_eq_true rfl) dX7_hotFor_9 ?_
      refine lv_icmp_ge (tgt := 55) hx hb dX7_hotFor_10 (by decide) (fun c5 => ?_) (fun c5 => ?_)
      · have hf := if_t c5 hf
        refine lv_bipush (v := (-9)) hx hb dX7_hotFor_55 (by decide) ?_
        obtain rfl := so1 hf
        exact ret_i hx hb hr hlocks hK hP hD hS dX7_hotFor_57
      · have hf := if_f c5 hf
        refine lv_aload_n hx hb dX7_hotFor_13 rfl (lv_at hl 0 rfl) ?_
        refine lv_iload_n hx hb dX7_hotFor_14 rfl (lv_at hl 2 rfl) ?_
        obtain ⟨r6, q7, hf⟩ := bd_use hf
        have hfo : Foc (WMod z a1 m1) (WMod z a1 m1) (WMod z a1 m1) (WMod z a1 m1) := foc_all
        refine z_goI (ws1 := (WMod z a1 m1)) (va_runV (As := [.int x1]) (rest := []) ⟨hx, hb, hml, hown, hts⟩ (tX7_isFree l D z tt a1 m1 x1 fu r6 q7 _) (cwV 1 hts (gV4 aw944 aw946 aw18 aw52 aw947) rfl rfl rfl (by decide +kernel) ⟨Nat.le_of_ble_eq_true rfl, Nat.le_of_ble_eq_true rfl⟩) (z_preV hK hP hD hS hA hT hN hfo (va_recv hK hP (ci := 7) (q0 := 0) rfl rfl)) rfl rfl hl.1 rfl (lv_room (Nat.le_of_ble_eq_true rfl)) dX7_hotFor_15 ⟨Nat.zero_le _, Nat.zero_le _⟩) hP hD hS hA hfo (fun H locs hP hD hS => ?_)
        refine lv_if_eq (tgt := 49) hx hb dX7_hotFor_18 (by decide) (fun c8 => ?_) (fun c8 => ?_)
        · have hf := if_t c8 hf
          obtain ⟨x9, ex9⟩ : ∃ y : Int32, y = x1 + 1 := ⟨_, rfl⟩
          have hf := lt_use ex9 hf
          refine lv_iinc (v := x9) (lv' := [(2, .int x9), (0, .ref (a1 0)), (1, .int p1)]) hx hb dX7_hotFor_49 hl (k := 2) rfl (by rw [ex9]; rfl) (by decide) rfl (fun ls hl => ?_)
          refine lv_goto (tgt := 2) hx hb dX7_hotFor_52 (by decide) ?_
          exact ih4 _ _ _ hP hD hS _ (lv_sub hl [1, 2, 0] rfl) hf
        · have hf := if_f c8 hf
          refine lv_aload_n hx hb dX7_hotFor_21 rfl (lv_at hl 0 rfl) ?_
          refine va_get (D := D) (ci := 7) (v := .ref (a1 12)) (C := RX7) (T := TX7) (N := 33) hx hb hts iX7 hown hK hP 0 rfl rfl 11 (by decide) (hts _ aw747) (fun _ h9 => h9) rfl dX7_hotFor_22 ?_
          refine lv_iload_n hx hb dX7_hotFor_25 rfl (lv_at hl 2 rfl) ?_
          obtain ⟨h10, hf⟩ := ck_use hf
          refine z_iald hx hb hK hP 12 rfl h10 dX7_hotFor_26 ?_
          refine lv_bipush (v := 8) hx hb dX7_hotFor_27 (by decide) ?_
          refine lv_icmp_lt (tgt := 49) hx hb dX7_hotFor_29 (by decide) (fun c11 => ?_) (fun c11 => ?_)
          · have hf := if_t c11 hf
            obtain ⟨x12, ex12⟩ : ∃ y : Int32, y = x1 + 1 := ⟨_, rfl⟩
            have hf := lt_use ex12 hf
            refine lv_iinc (v := x12) (lv' := [(2, .int x12), (0, .ref (a1 0)), (1, .int p1)]) hx hb dX7_hotFor_49 hl (k := 2) rfl (by rw [ex12]; rfl) (by decide) rfl (fun ls hl => ?_)
            refine lv_goto (tgt := 2) hx hb dX7_hotFor_52 (by decide) ?_
            exact ih4 _ _ _ hP hD hS _ (lv_sub hl [1, 2, 0] rfl) hf
          · have hf := if_f c11 hf
            refine lv_aload_n hx hb dX7_hotFor_32 rfl (lv_at hl 0 rfl) ?_
            refine va_get (D := D) (ci := 7) (v := .ref (a1 11)) (C := RX7) (T := TX7) (N := 33) hx hb hts iX7 hown hK hP 0 rfl rfl 10 (by decide) (hts _ aw746) (fun _ h9 => h9) rfl dX7_hotFor_33 ?_
            refine lv_iload_n hx hb dX7_hotFor_36 rfl (lv_at hl 2 rfl) ?_
            obtain ⟨h13, hf⟩ := ck_use hf
            refine z_iald hx hb hK hP 11 rfl h13 dX7_hotFor_37 ?_
            refine lv_aload_n hx hb dX7_hotFor_38 rfl (lv_at hl 0 rfl) ?_
            refine va_get (D := D) (ci := 7) (v := .ref (a1 6)) (C := RX7) (T := TX7) (N := 33) hx hb hts iX7 hown hK hP 0 rfl rfl 5 (by decide) (hts _ aw741) (fun _ h9 => h9) rfl dX7_hotFor_39 ?_
            refine lv_iload_n hx hb dX7_hotFor_42 rfl (lv_at hl 1 rfl) ?_
            obtain ⟨h14, hf⟩ := ck_use hf
            refine z_iald hx hb hK hP 6 rfl h14 dX7_hotFor_43 ?_
            refine lv_icmp_lt (tgt := 49) hx hb dX7_hotFor_44 (by decide) (fun c15 => ?_) (fun c15 => ?_)
            · have hf := if_t c15 hf
              obtain ⟨x16, ex16⟩ : ∃ y : Int32, y = x1 + 1 := ⟨_, rfl⟩
              have hf := lt_use ex16 hf
              refine lv_iinc (v := x16) (lv' := [(2, .int x16), (0, .ref (a1 0)), (1, .int p1)]) hx hb dX7_hotFor_49 hl (k := 2) rfl (by rw [ex16]; rfl) (by decide) rfl (fun ls hl => ?_)
              refine lv_goto (tgt := 2) hx hb dX7_hotFor_52 (by decide) ?_
              exact ih4 _ _ _ hP hD hS _ (lv_sub hl [1, 2, 0] rfl) hf
            · have hf := if_f c15 hf
              refine lv_iload_n hx hb dX7_hotFor_47 rfl (lv_at hl 2 rfl) ?_
              obtain rfl := so1 hf
              exact ret_i hx hb hr hlocks hK hP hD hS dX7_hotFor_48
  exact L2_F2 fu _ _ _ hP hD hS _ (lv_sub hl [1, 2, 0] rfl) hf
def pX7_freeFor (fu : Nat) (m1 : Mem) (p1 : Int32) : Option Int32 :=
  zl2 (fun g4 (x1 : Int32) (x2 : Int32) =>
    if (m1 2 7) ≤ x2 then
      some x1
    else
      bd (pX7_isFree fu m1 x2) fun r7 =>
      jn1 (fun (u0 : Unit) =>
        bd (pX7_isFree fu m1 x2) fun r10 =>
        if r10 = 0 then
          lt' (x2 + 1) fun x13 =>
          g4 x1 x13
        else
          if 0 ≤ x1 then
            lt' (x2 + 1) fun x15 =>
            g4 x1 x15
          else
            lt' (x2 + 1) fun x16 =>
            g4 x2 x16) fun k9 =>
      if r7 = 0 then
        ck x2 2 <|
        if (m1 15 x2.toNatClampNeg) = p1 then
          some (-9)
        else
          k9 ()
      else
        k9 ()) fu (-9) 0
set_option maxHeartbeats 4000000 in
set_option maxRecDepth 100000 in
theorem tX7_freeFor (l : Launch) (D : va_G) (z tt : Nat → Nat) (a1 : Nat → Nat) (m1 : Mem) (p1 : Int32) (fu : Nat) (rr : Int32) (hf : pX7_freeFor fu m1 p1 = some rr) : MetI l yX7_freeFor wsX7_freeFor ({ frames := 1, cells := 0, slots := 0, locals := 21 } : Room) D z tt ([.ref (a1 0), .int p1] : List Value) (WMod z a1 m1) rr (WMod z a1 m1) := by
  intro sz
  refine Met.ofW (cc := cX7_freeFor) (maxL := 4) (ret := (some .int)) (by decide) rfl ?_
  intro p e s m args below meth c s₁ B hml hv
  obtain ⟨rfl, hsz, hP, hK, hD0, hT, hN⟩ := hv
  have hx := B.exec
  have hb := B.bytes
  have hr := B.returns
  have hts : ∀ w ∈ wsA, w.before ([.ref (a1 0), .int p1] : List Value).toArray s = true := fun w h => atoms_spec (ws := wsX7_freeFor) B.pre w (List.mem_cons_of_mem _ h)
  have hown : s.vm.findClass RX7 = some m.cls := findClass_of_methodNamed B.named
  have hlocks := B.notSynchronized
  subst hsz
  have hD := hD0.self (sz := s.heap.size)
  generalize hAe : va_A (WMod z a1 m1) s.heap.size = A at hD hT ⊢
  have hA : ∀ q : Nat, s.heap.size ≤ q → A q := fun q h => by rw [← hAe]; exact Or.inr h
  have hS : va_S A s.heap s.heap [] := va_S.rf
  have hl := lv_entry ([.ref (a1 0), .int p1] : List Value) (n := 4) (Nat.le_of_ble_eq_true rfl)
  rw [lg_entry_eq]
  generalize (lg_sl ([.ref (a1 0), .int p1] : List Value) ++ List.replicate (4 - (lg_sl ([.ref (a1 0), .int p1] : List Value)).length) Slot.unset).toArray = ls at hl ⊢
  have hl : lv_has ls 4 [(0, .ref (a1 0)), (1, .int p1)] := hl
  unfold pX7_freeFor at hf
  refine lv_bipush (v := (-9)) hx hb dX7_freeFor_0 (by decide) ?_
  refine lv_istore_n (lv' := [(2, .int (-9)), (0, .ref (a1 0)), (1, .int p1)]) hx hb dX7_freeFor_2 rfl hl (by decide) rfl (fun ls hl => ?_)
  refine lv_iconst (v := 0) hx hb dX7_freeFor_3 (by decide) ?_
  refine lv_istore_n (lv' := [(3, .int 0), (2, .int (-9)), (0, .ref (a1 0)), (1, .int p1)]) hx hb dX7_freeFor_4 rfl hl (by decide) rfl (fun ls hl => ?_)
  obtain ⟨F3, eF3, hf⟩ := zl2_use hf
  have L5_F3 : ∀ (n : Nat) (x1 : Int32) (x2 : Int32) (H : Heap) (locs : List Loc), va_P D vwCl (WMod z a1 m1) H → va_D A (WMod z a1 m1) → va_S A s.heap H locs → ∀ (ls : Array Slot), lv_has ls 4 [(0, .ref (a1 0)), (1, .int p1), (2, .int x1), (3, .int x2)] → zl2 F3 n x1 x2 = some rr → GI p l e (headSpec wsX7_freeFor ({ frames := 1, cells := 0, slots := 0, locals := 21 } : Room)).room s m ([.ref (a1 0), .int p1] : List Value).toArray below meth c A D z rr (WMod z a1 m1) H locs (F0 m 5 ls []) := by
    intro n
    induction n with
    | zero =>
      intro x1 x2 H locs hP hD hS ls hl hf
      exact no_none hf
    | succ n ih5 =>
      intro x1 x2 H locs hP hD hS ls hl hf
      have hf := zl2_s eF3 hf
      refine lv_iload_n hx hb dX7_freeFor_5 rfl (lv_at hl 3 rfl) ?_
      refine lv_aload_n hx hb dX7_freeFor_6 rfl (lv_at hl 0 rfl) ?_
      refine va_get (D := D) (ci := 7) (v := .ref (a1 2)) (C := RX7) (T := TX7) (N := 33) hx hb hts iX7 hown hK hP 0 rfl rfl 1 (by decide) (hts _ aw737) (fun _ h9 => h9) rfl dX7_freeFor_7 ?_
      refine lv_bipush (v := 7) hx hb dX7_freeFor_10 (by decide) ?_
      refine z_ialdc hx hb hK hP 2 rfl (i := 7) (k := 7) (by decide) (Nat.le_of_ble_eq_true rfl) dX7_freeFor_12 ?_
      refine lv_icmp_ge (tgt := 57) hx hb dX7_freeFor_13 (by decide) (fun c6 => ?_) (fun c6 => ?_)
      · have hf := if_t c6 hf
        refine lv_iload_n hx hb dX7_freeFor_57 rfl (lv_at hl 2 rfl) ?_
        obtain rfl := so1 hf
        exact ret_i hx hb hr hlocks hK hP hD hS dX7_freeFor_58
      · have hf := if_f c6 hf
        refine lv_aload_n hx hb dX7_freeFor_16 rfl (lv_at hl 0 rfl) ?_
        refine lv_iload_n hx hb dX7_freeFor_17 rfl (lv_at hl 3 rfl) ?_
        obtain ⟨r7, q8, hf⟩ := bd_use hf
        have hfo : Foc (WMod z a1 m1) (WMod z a1 m1) (WMod z a1 m1) (WMod z a1 m1) := foc_all
        refine z_goI (ws1 := (WMod z a1 m1)) (va_runV (As := [.int x2]) (rest := []) ⟨hx, hb, hml, hown, hts⟩ (tX7_isFree l D z tt a1 m1 x2 fu r7 q8 _) (cwV 1 hts (gV4 aw944 aw946 aw18 aw52 aw947) rfl rfl rfl (by decide +kernel) ⟨Nat.le_of_ble_eq_true rfl, Nat.le_of_ble_eq_true rfl⟩) (z_preV hK hP hD hS hA hT hN hfo (va_recv hK hP (ci := 7) (q0 := 0) rfl rfl)) rfl rfl hl.1 rfl (lv_room (Nat.le_of_ble_eq_true rfl)) dX7_freeFor_18 ⟨Nat.zero_le _, Nat.zero_le _⟩) hP hD hS hA hfo (fun H locs hP hD hS => ?_)
        obtain ⟨k9, ek9, hf⟩ := jn1_use hf
        have B37_k9 : ∀ (u0 : Unit) (H : Heap) (locs : List Loc), va_P D vwCl (WMod z a1 m1) H → va_D A (WMod z a1 m1) → va_S A s.heap H locs → ∀ (ls : Array Slot), lv_has ls 4 [(0, .ref (a1 0)), (1, .int p1), (2, .int x1), (3, .int x2)] → k9 u0 = some rr → GI p l e (headSpec wsX7_freeFor ({ frames := 1, cells := 0, slots := 0, locals := 21 } : Room)).room s m ([.ref (a1 0), .int p1] : List Value).toArray below meth c A D z rr (WMod z a1 m1) H locs (F0 m 37 ls []) := by
          intro u0 H locs hP hD hS ls hl hf
          have hf := jn1_ap ek9 hf
          refine lv_aload_n hx hb dX7_freeFor_37 rfl (lv_at hl 0 rfl) ?_
          refine lv_iload_n hx hb dX7_freeFor_38 rfl (lv_at hl 3 rfl) ?_
          obtain ⟨r10, q11, hf⟩ := bd_use hf
          have hfo : Foc (WMod z a1 m1) (WMod z a1 m1) (WMod z a1 m1) (WMod z a1 m1) := foc_all
          refine z_goI (ws1 := (WMod z a1 m1)) (va_runV (As := [.int x2]) (rest := []) ⟨hx, hb, hml, hown, hts⟩ (tX7_isFree l D z tt a1 m1 x2 fu r10 q11 _) (cwV 1 hts (gV4 aw944 aw946 aw18 aw52 aw947) rfl rfl rfl (by decide +kernel) ⟨Nat.le_of_ble_eq_true rfl, Nat.le_of_ble_eq_true rfl⟩) (z_preV hK hP hD hS hA hT hN hfo (va_recv hK hP (ci := 7) (q0 := 0) rfl rfl)) rfl rfl hl.1 rfl (lv_room (Nat.le_of_ble_eq_true rfl)) dX7_freeFor_39 ⟨Nat.zero_le _, Nat.zero_le _⟩) hP hD hS hA hfo (fun H locs hP hD hS => ?_)
          refine lv_if_eq (tgt := 51) hx hb dX7_freeFor_42 (by decide) (fun c12 => ?_) (fun c12 => ?_)
          · have hf := if_t c12 hf
            obtain ⟨x13, ex13⟩ : ∃ y : Int32, y = x2 + 1 := ⟨_, rfl⟩
            have hf := lt_use ex13 hf
            refine lv_iinc (v := x13) (lv' := [(3, .int x13), (0, .ref (a1 0)), (1, .int p1), (2, .int x1)]) hx hb dX7_freeFor_51 hl (k := 3) rfl (by rw [ex13]; rfl) (by decide) rfl (fun ls hl => ?_)
            refine lv_goto (tgt := 5) hx hb dX7_freeFor_54 (by decide) ?_
            exact ih5 _ _ _ _ hP hD hS _ (lv_sub hl [1, 2, 3, 0] rfl) hf
          · have hf := if_f c12 hf
            refine lv_iload_n hx hb dX7_freeFor_45 rfl (lv_at hl 2 rfl) ?_
            refine lv_if_ge (tgt := 51) hx hb dX7_freeFor_46 (by decide) (fun c14 => ?_) (fun c14 => ?_)
            · have hf := if_t c14 hf
              obtain ⟨x15, ex15⟩ : ∃ y : Int32, y = x2 + 1 := ⟨_, rfl⟩
              have hf := lt_use ex15 hf
              refine lv_iinc (v := x15) (lv' := [(3, .int x15), (0, .ref (a1 0)), (1, .int p1), (2, .int x1)]) hx hb dX7_freeFor_51 hl (k := 3) rfl (by rw [ex15]; rfl) (by decide) rfl (fun ls hl => ?_)
              refine lv_goto (tgt := 5) hx hb dX7_freeFor_54 (by decide) ?_
              exact ih5 _ _ _ _ hP hD hS _ (lv_sub hl [1, 2, 3, 0] rfl) hf
            · have hf := if_f c14 hf
              refine lv_iload_n hx hb dX7_freeFor_49 rfl (lv_at hl 3 rfl) ?_
              refine lv_istore_n (lv' := [(2, .int x2), (0, .ref (a1 0)), (1, .int p1), (3, .int x2)]) hx hb dX7_freeFor_50 rfl hl (by decide) rfl (fun ls hl => ?_)
              obtain ⟨x16, ex16⟩ : ∃ y : Int32, y = x2 + 1 := ⟨_, rfl⟩
              have hf := lt_use ex16 hf
              refine lv_iinc (v := x16) (lv' := [(3, .int x16), (2, .int x2), (0, .ref (a1 0)), (1, .int p1)]) hx hb dX7_freeFor_51 hl (k := 3) rfl (by rw [ex16]; rfl) (by decide) rfl (fun ls hl => ?_)
              refine lv_goto (tgt := 5) hx hb dX7_freeFor_54 (by decide) ?_
              exact ih5 _ _ _ _ hP hD hS _ (lv_sub hl [2, 3, 1, 0] rfl) hf
        refine lv_if_ne (tgt := 37) hx hb dX7_freeFor_21 (by decide) (fun c17 => ?_) (fun c17 => ?_)
        · have hf := if_f c17 hf
          exact B37_k9 _ _ _ hP hD hS _ (lv_sub hl [0, 1, 2, 3] rfl) hf
        · have hf := if_t c17 hf
          refine lv_aload_n hx hb dX7_freeFor_24 rfl (lv_at hl 0 rfl) ?_
          refine va_get (D := D) (ci := 7) (v := .ref (a1 15)) (C := RX7) (T := TX7) (N := 33) hx hb hts iX7 hown hK hP 0 rfl rfl 14 (by decide) (hts _ aw750) (fun _ h9 => h9) rfl dX7_freeFor_25 ?_
          refine lv_iload_n hx hb dX7_freeFor_28 rfl (lv_at hl 3 rfl) ?_
          obtain ⟨h18, hf⟩ := ck_use hf
          refine z_iald hx hb hK hP 15 rfl h18 dX7_freeFor_29 ?_
          refine lv_iload_n hx hb dX7_freeFor_30 rfl (lv_at hl 1 rfl) ?_
          refine lv_icmp_ne (tgt := 37) hx hb dX7_freeFor_31 (by decide) (fun c19 => ?_) (fun c19 => ?_)
          · have hf := if_f c19 hf
            exact B37_k9 _ _ _ hP hD hS _ (lv_sub hl [0, 1, 2, 3] rfl) hf
          · have hf := if_t c19 hf
            refine lv_bipush (v := (-9)) hx hb dX7_freeFor_34 (by decide) ?_
            obtain rfl := so1 hf
            exact ret_i hx hb hr hlocks hK hP hD hS dX7_freeFor_36
  exact L5_F3 fu _ _ _ _ hP hD hS _ (lv_sub hl [2, 3, 1, 0] rfl) hf
