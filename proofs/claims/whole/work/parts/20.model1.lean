def pX7_comesOne (fu : Nat) (m1 : Mem) (p1 : Int32) : Option (Int32 × Mem) :=
  ck p1 240 <|
  if 6 < (m1 19 p1.toNatClampNeg) then
    some (0, m1)
  else
    ck (p1 + 2) 240 <|
    if 119 < (m1 19 (p1 + 2).toNatClampNeg) then
      some (0, m1)
    else
      ck (p1 + 2) 240 <|
      if (m1 19 (p1 + 2).toNatClampNeg) < (m1 0 16) then
        some (0, m1)
      else
        ck (p1 + 3) 240 <|
        bd (pX7_isIn fu (m1 19 (p1 + 3).toNatClampNeg) 1 3) fun r8 =>
        if r8 = 0 then
          some (0, m1)
        else
          ck (p1 + 4) 240 <|
          if 30 < (m1 19 (p1 + 4).toNatClampNeg) then
            some (0, m1)
          else
            if (m1 0 15) = 8 then
              some (0, m1)
            else
              ck p1 240 <|
              ck (m1 0 15) 8 <|
              lt' (up2 m1 3 (m1 0 15).toNatClampNeg (m1 19 p1.toNatClampNeg)) fun y15 =>
              ck (p1 + 1) 240 <|
              ck (y15 0 15) 8 <|
              lt' (up2 y15 4 (y15 0 15).toNatClampNeg (y15 19 (p1 + 1).toNatClampNeg)) fun y18 =>
              ck (p1 + 2) 240 <|
              ck (y18 0 15) 8 <|
              lt' (up2 y18 5 (y18 0 15).toNatClampNeg (y18 19 (p1 + 2).toNatClampNeg)) fun y21 =>
              ck (p1 + 3) 240 <|
              ck (y21 0 15) 8 <|
              lt' (up2 y21 6 (y21 0 15).toNatClampNeg (y21 19 (p1 + 3).toNatClampNeg)) fun y24 =>
              ck (p1 + 4) 240 <|
              ck (y24 0 15) 8 <|
              lt' (up2 y24 7 (y24 0 15).toNatClampNeg (y24 19 (p1 + 4).toNatClampNeg)) fun y27 =>
              ck (y27 0 15) 8 <|
              lt' (up2 y27 8 (y27 0 15).toNatClampNeg 0) fun y29 =>
              ck (y29 0 15) 8 <|
              lt' (up2 y29 9 (y29 0 15).toNatClampNeg 0) fun y31 =>
              lt' (up2 y31 0 15 ((y31 0 15) + 1)) fun y33 =>
              some (1, y33)
set_option maxHeartbeats 4000000 in
set_option maxRecDepth 100000 in
theorem tX7_comesOne (l : Launch) (D : va_G) (z tt : Nat → Nat) (a1 : Nat → Nat) (m1 : Mem) (p1 : Int32) (fu : Nat) (rr : Int32) (m1' : Mem) (hf : pX7_comesOne fu m1 p1 = some (rr, m1')) : MetI l yX7_comesOne wsX7_comesOne ({ frames := 1, cells := 0, slots := 0, locals := 22 } : Room) D z tt ([.ref (a1 0), .int p1] : List Value) (WMod z a1 m1) rr (WMod z a1 m1') := by
  intro sz
  refine Met.ofW (cc := cX7_comesOne) (maxL := 2) (ret := (some .boolean)) (by decide) rfl ?_
  intro p e s m args below meth c s₁ B hml hv
  obtain ⟨rfl, hsz, hP, hK, hD0, hT, hN⟩ := hv
  have hx := B.exec
  have hb := B.bytes
  have hr := B.returns
  have hts : ∀ w ∈ wsA, w.before ([.ref (a1 0), .int p1] : List Value).toArray s = true := fun w h => atoms_spec (ws := wsX7_comesOne) B.pre w (List.mem_cons_of_mem _ h)
  have hown : s.vm.findClass RX7 = some m.cls := findClass_of_methodNamed B.named
  have hlocks := B.notSynchronized
  subst hsz
  have hD := hD0.self (sz := s.heap.size)
  generalize hAe : va_A (WMod z a1 m1) s.heap.size = A at hD hT ⊢
  have hA : ∀ q : Nat, s.heap.size ≤ q → A q := fun q h => by rw [← hAe]; exact Or.inr h
  have hS : va_S A s.heap s.heap [] := va_S.rf
  have hl := lv_entry ([.ref (a1 0), .int p1] : List Value) (n := 2) (Nat.le_of_ble_eq_true rfl)
  rw [lg_entry_eq]
  generalize (lg_sl ([.ref (a1 0), .int p1] : List Value) ++ List.replicate (2 - (lg_sl ([.ref (a1 0), .int p1] : List Value)).length) Slot.unset).toArray = ls at hl ⊢
  have hl : lv_has ls 2 [(0, .ref (a1 0)), (1, .int p1)] := hl
  unfold pX7_comesOne at hf
  refine lv_aload_n hx hb dX7_comesOne_0 rfl (lv_at hl 0 rfl) ?_
  refine va_get (D := D) (ci := 7) (v := .ref (a1 19)) (C := RX7) (T := TX7) (N := 33) hx hb hts iX7 hown hK hP 0 rfl rfl 22 (by decide) (hts _ aw758) (fun _ h9 => h9) rfl dX7_comesOne_1 ?_
  refine lv_iload_n hx hb dX7_comesOne_4 rfl (lv_at hl 1 rfl) ?_
  obtain ⟨h1, hf⟩ := ck_use hf
  refine z_iald hx hb hK hP 19 rfl h1 dX7_comesOne_5 ?_
  refine lv_bipush (v := 6) hx hb dX7_comesOne_6 (by decide) ?_
  refine lv_icmp_gt (tgt := 77) hx hb dX7_comesOne_8 (by decide) (fun c2 => ?_) (fun c2 => ?_)
  · have hf := if_t c2 hf
    refine lv_iconst (v := 0) hx hb dX7_comesOne_77 (by decide) ?_
    obtain ⟨rfl, rfl⟩ := so2 hf
    exact ret_z hx hb hr hlocks hK hP hD hS (by decide) dX7_comesOne_78
  · have hf := if_f c2 hf
    refine lv_aload_n hx hb dX7_comesOne_11 rfl (lv_at hl 0 rfl) ?_
    refine va_get (D := D) (ci := 7) (v := .ref (a1 19)) (C := RX7) (T := TX7) (N := 33) hx hb hts iX7 hown hK hP 0 rfl rfl 22 (by decide) (hts _ aw758) (fun _ h9 => h9) rfl dX7_comesOne_12 ?_
    refine lv_iload_n hx hb dX7_comesOne_15 rfl (lv_at hl 1 rfl) ?_
    refine lv_iconst (v := 2) hx hb dX7_comesOne_16 (by decide) ?_
    refine lv_iadd hx hb dX7_comesOne_17 ?_
    obtain ⟨h3, hf⟩ := ck_use hf
    refine z_iald hx hb hK hP 19 rfl h3 dX7_comesOne_18 ?_
    refine lv_bipush (v := 119) hx hb dX7_comesOne_19 (by decide) ?_
    refine lv_icmp_gt (tgt := 77) hx hb dX7_comesOne_21 (by decide) (fun c4 => ?_) (fun c4 => ?_)
    · have hf := if_t c4 hf
      refine lv_iconst (v := 0) hx hb dX7_comesOne_77 (by decide) ?_
      obtain ⟨rfl, rfl⟩ := so2 hf
      exact ret_z hx hb hr hlocks hK hP hD hS (by decide) dX7_comesOne_78
    · have hf := if_f c4 hf
      refine lv_aload_n hx hb dX7_comesOne_24 rfl (lv_at hl 0 rfl) ?_
      refine va_get (D := D) (ci := 7) (v := .ref (a1 19)) (C := RX7) (T := TX7) (N := 33) hx hb hts iX7 hown hK hP 0 rfl rfl 22 (by decide) (hts _ aw758) (fun _ h9 => h9) rfl dX7_comesOne_25 ?_
      refine lv_iload_n hx hb dX7_comesOne_28 rfl (lv_at hl 1 rfl) ?_
      refine lv_iconst (v := 2) hx hb dX7_comesOne_29 (by decide) ?_
      refine lv_iadd hx hb dX7_comesOne_30 ?_
      obtain ⟨h5, hf⟩ := ck_use hf
      refine z_iald hx hb hK hP 19 rfl h5 dX7_comesOne_31 ?_
      refine lv_aload_n hx hb dX7_comesOne_32 rfl (lv_at hl 0 rfl) ?_
      refine va_get (D := D) (ci := 7) (v := .int (m1 0 16)) (C := RX7) (T := TX7) (N := 33) hx hb hts iX7 hown hK hP 0 rfl rfl 16 (by decide) (hts _ aw752) (fun _ h9 => h9) rfl dX7_comesOne_33 ?_
      refine lv_icmp_lt (tgt := 77) hx hb dX7_comesOne_36 (by decide) (fun c6 => ?_) (fun c6 => ?_)
      · have hf := if_t c6 hf
        refine lv_iconst (v := 0) hx hb dX7_comesOne_77 (by decide) ?_
        obtain ⟨rfl, rfl⟩ := so2 hf
        exact ret_z hx hb hr hlocks hK hP hD hS (by decide) dX7_comesOne_78
      · have hf := if_f c6 hf
        refine lv_aload_n hx hb dX7_comesOne_39 rfl (lv_at hl 0 rfl) ?_
        refine va_get (D := D) (ci := 7) (v := .ref (a1 19)) (C := RX7) (T := TX7) (N := 33) hx hb hts iX7 hown hK hP 0 rfl rfl 22 (by decide) (hts _ aw758) (fun _ h9 => h9) rfl dX7_comesOne_40 ?_
        refine lv_iload_n hx hb dX7_comesOne_43 rfl (lv_at hl 1 rfl) ?_
        refine lv_iconst (v := 3) hx hb dX7_comesOne_44 (by decide) ?_
        refine lv_iadd hx hb dX7_comesOne_45 ?_
        obtain ⟨h7, hf⟩ := ck_use hf
        refine z_iald hx hb hK hP 19 rfl h7 dX7_comesOne_46 ?_
        refine lv_iconst (v := 1) hx hb dX7_comesOne_47 (by decide) ?_
        refine lv_iconst (v := 3) hx hb dX7_comesOne_48 (by decide) ?_
        obtain ⟨r8, q9, hf⟩ := bd_use hf
        have hfo : Foc (WMod z a1 m1) ([] : va_W) (WMod z a1 m1) ([] : va_W) := foc_nil
        refine z_goI (ws1 := (WMod z a1 m1)) (va_runS (As := [.int (m1 19 (p1 + 3).toNatClampNeg), .int 1, .int 3]) (rest := []) ⟨hx, hb, hml, hown, hts⟩ (tX7_isIn l D z tt  (m1 19 (p1 + 3).toNatClampNeg) 1 3 fu r8 q9 _) (va_cwS 3 hts (gS3 aw867 aw868 aw52 aw869) rfl rfl rfl (by decide +kernel) ⟨Nat.le_of_ble_eq_true rfl, Nat.le_of_ble_eq_true rfl⟩) (z_preS hK hP hD hS hA hT hN hfo) rfl rfl hl.1 rfl (lv_room (Nat.le_of_ble_eq_true rfl)) dX7_comesOne_49 ⟨Nat.zero_le _, Nat.zero_le _⟩) hP hD hS hA hfo (fun H locs hP hD hS => ?_)
        refine lv_if_eq (tgt := 77) hx hb dX7_comesOne_52 (by decide) (fun c10 => ?_) (fun c10 => ?_)
        · have hf := if_t c10 hf
          refine lv_iconst (v := 0) hx hb dX7_comesOne_77 (by decide) ?_
          obtain ⟨rfl, rfl⟩ := so2 hf
          exact ret_z hx hb hr hlocks hK hP hD hS (by decide) dX7_comesOne_78
        · have hf := if_f c10 hf
          refine lv_aload_n hx hb dX7_comesOne_55 rfl (lv_at hl 0 rfl) ?_
          refine va_get (D := D) (ci := 7) (v := .ref (a1 19)) (C := RX7) (T := TX7) (N := 33) hx hb hts iX7 hown hK hP 0 rfl rfl 22 (by decide) (hts _ aw758) (fun _ h9 => h9) rfl dX7_comesOne_56 ?_
          refine lv_iload_n hx hb dX7_comesOne_59 rfl (lv_at hl 1 rfl) ?_
          refine lv_iconst (v := 4) hx hb dX7_comesOne_60 (by decide) ?_
          refine lv_iadd hx hb dX7_comesOne_61 ?_
          obtain ⟨h11, hf⟩ := ck_use hf
          refine z_iald hx hb hK hP 19 rfl h11 dX7_comesOne_62 ?_
          refine lv_bipush (v := 30) hx hb dX7_comesOne_63 (by decide) ?_
          refine lv_icmp_gt (tgt := 77) hx hb dX7_comesOne_65 (by decide) (fun c12 => ?_) (fun c12 => ?_)
          · have hf := if_t c12 hf
            refine lv_iconst (v := 0) hx hb dX7_comesOne_77 (by decide) ?_
            obtain ⟨rfl, rfl⟩ := so2 hf
            exact ret_z hx hb hr hlocks hK hP hD hS (by decide) dX7_comesOne_78
          · have hf := if_f c12 hf
            refine lv_aload_n hx hb dX7_comesOne_68 rfl (lv_at hl 0 rfl) ?_
            refine va_get (D := D) (ci := 7) (v := .int (m1 0 15)) (C := RX7) (T := TX7) (N := 33) hx hb hts iX7 hown hK hP 0 rfl rfl 15 (by decide) (hts _ aw751) (fun _ h9 => h9) rfl dX7_comesOne_69 ?_
            refine lv_bipush (v := 8) hx hb dX7_comesOne_72 (by decide) ?_
            refine lv_icmp_ne (tgt := 79) hx hb dX7_comesOne_74 (by decide) (fun c13 => ?_) (fun c13 => ?_)
            · have hf := if_f c13 hf
              refine lv_aload_n hx hb dX7_comesOne_79 rfl (lv_at hl 0 rfl) ?_
              refine va_get (D := D) (ci := 7) (v := .ref (a1 3)) (C := RX7) (T := TX7) (N := 33) hx hb hts iX7 hown hK hP 0 rfl rfl 2 (by decide) (hts _ aw738) (fun _ h9 => h9) rfl dX7_comesOne_80 ?_
              refine lv_aload_n hx hb dX7_comesOne_83 rfl (lv_at hl 0 rfl) ?_
              refine va_get (D := D) (ci := 7) (v := .int (m1 0 15)) (C := RX7) (T := TX7) (N := 33) hx hb hts iX7 hown hK hP 0 rfl rfl 15 (by decide) (hts _ aw751) (fun _ h9 => h9) rfl dX7_comesOne_84 ?_
              refine lv_aload_n hx hb dX7_comesOne_87 rfl (lv_at hl 0 rfl) ?_
              refine va_get (D := D) (ci := 7) (v := .ref (a1 19)) (C := RX7) (T := TX7) (N := 33) hx hb hts iX7 hown hK hP 0 rfl rfl 22 (by decide) (hts _ aw758) (fun _ h9 => h9) rfl dX7_comesOne_88 ?_
              refine lv_iload_n hx hb dX7_comesOne_91 rfl (lv_at hl 1 rfl) ?_
              obtain ⟨h14, hf⟩ := ck_use hf
              refine z_iald hx hb hK hP 19 rfl h14 dX7_comesOne_92 ?_
              obtain ⟨h16, hf⟩ := ck_use hf
              refine z_iast hx hb hK hP hD hS 3 rfl h16 dX7_comesOne_93 (fun (w9 : Mem) => (WMod z a1 w9)) (up2 m1 3 (m1 0 15).toNatClampNeg (m1 19 p1.toNatClampNeg)) rfl (fun y15 ey15 H locs hP hD hS => ?_)
              have hf := lt_use ey15 hf
              refine lv_aload_n hx hb dX7_comesOne_94 rfl (lv_at hl 0 rfl) ?_
              refine va_get (D := D) (ci := 7) (v := .ref (a1 4)) (C := RX7) (T := TX7) (N := 33) hx hb hts iX7 hown hK hP 0 rfl rfl 3 (by decide) (hts _ aw739) (fun _ h9 => h9) rfl dX7_comesOne_95 ?_
              refine lv_aload_n hx hb dX7_comesOne_98 rfl (lv_at hl 0 rfl) ?_
              refine va_get (D := D) (ci := 7) (v := .int (y15 0 15)) (C := RX7) (T := TX7) (N := 33) hx hb hts iX7 hown hK hP 0 rfl rfl 15 (by decide) (hts _ aw751) (fun _ h9 => h9) rfl dX7_comesOne_99 ?_
              refine lv_aload_n hx hb dX7_comesOne_102 rfl (lv_at hl 0 rfl) ?_
              refine va_get (D := D) (ci := 7) (v := .ref (a1 19)) (C := RX7) (T := TX7) (N := 33) hx hb hts iX7 hown hK hP 0 rfl rfl 22 (by decide) (hts _ aw758) (fun _ h9 => h9) rfl dX7_comesOne_103 ?_
              refine lv_iload_n hx hb dX7_comesOne_106 rfl (lv_at hl 1 rfl) ?_
              refine lv_iconst (v := 1) hx hb dX7_comesOne_107 (by decide) ?_
              refine lv_iadd hx hb dX7_comesOne_108 ?_
              obtain ⟨h17, hf⟩ := ck_use hf
              refine z_iald hx hb hK hP 19 rfl h17 dX7_comesOne_109 ?_
              obtain ⟨h19, hf⟩ := ck_use hf
              refine z_iast hx hb hK hP hD hS 4 rfl h19 dX7_comesOne_110 (fun (w9 : Mem) => (WMod z a1 w9)) (up2 y15 4 (y15 0 15).toNatClampNeg (y15 19 (p1 + 1).toNatClampNeg)) rfl (fun y18 ey18 H locs hP hD hS => ?_)
              have hf := lt_use ey18 hf
              refine lv_aload_n hx hb dX7_comesOne_111 rfl (lv_at hl 0 rfl) ?_
              refine va_get (D := D) (ci := 7) (v := .ref (a1 5)) (C := RX7) (T := TX7) (N := 33) hx hb hts iX7 hown hK hP 0 rfl rfl 4 (by decide) (hts _ aw740) (fun _ h9 => h9) rfl dX7_comesOne_112 ?_
              refine lv_aload_n hx hb dX7_comesOne_115 rfl (lv_at hl 0 rfl) ?_
              refine va_get (D := D) (ci := 7) (v := .int (y18 0 15)) (C := RX7) (T := TX7) (N := 33) hx hb hts iX7 hown hK hP 0 rfl rfl 15 (by decide) (hts _ aw751) (fun _ h9 => h9) rfl dX7_comesOne_116 ?_
              refine lv_aload_n hx hb dX7_comesOne_119 rfl (lv_at hl 0 rfl) ?_
              refine va_get (D := D) (ci := 7) (v := .ref (a1 19)) (C := RX7) (T := TX7) (N := 33) hx hb hts iX7 hown hK hP 0 rfl rfl 22 (by decide) (hts _ aw758) (fun _ h9 => h9) rfl dX7_comesOne_120 ?_
              refine lv_iload_n hx hb dX7_comesOne_123 rfl (lv_at hl 1 rfl) ?_
              refine lv_iconst (v := 2) hx hb dX7_comesOne_124 (by decide) ?_
              refine lv_iadd hx hb dX7_comesOne_125 ?_
              obtain ⟨h20, hf⟩ := ck_use hf
              refine z_iald hx hb hK hP 19 rfl h20 dX7_comesOne_126 ?_
              obtain ⟨h22, hf⟩ := ck_use hf
              refine z_iast hx hb hK hP hD hS 5 rfl h22 dX7_comesOne_127 (fun (w9 : Mem) => (WMod z a1 w9)) (up2 y18 5 (y18 0 15).toNatClampNeg (y18 19 (p1 + 2).toNatClampNeg)) rfl (fun y21 ey21 H locs hP hD hS => ?_)
              have hf := lt_use ey21 hf
              refine lv_aload_n hx hb dX7_comesOne_128 rfl (lv_at hl 0 rfl) ?_
              refine va_get (D := D) (ci := 7) (v := .ref (a1 6)) (C := RX7) (T := TX7) (N := 33) hx hb hts iX7 hown hK hP 0 rfl rfl 5 (by decide) (hts _ aw741) (fun _ h9 => h9) rfl dX7_comesOne_129 ?_
              refine lv_aload_n hx hb dX7_comesOne_132 rfl (lv_at hl 0 rfl) ?_
              refine va_get (D := D) (ci := 7) (v := .int (y21 0 15)) (C := RX7) (T := TX7) (N := 33) hx hb hts iX7 hown hK hP 0 rfl rfl 15 (by decide) (hts _ aw751) (fun _ h9 => h9) rfl dX7_comesOne_133 ?_
              refine lv_aload_n hx hb dX7_comesOne_136 rfl (lv_at hl 0 rfl) ?_
              refine va_get (D := D) (ci := 7) (v := .ref (a1 19)) (C := RX7) (T := TX7) (N := 33) hx hb hts iX7 hown hK hP 0 rfl rfl 22 (by decide) (hts _ aw758) (fun _ h9 => h9) rfl dX7_comesOne_137 ?_
              refine lv_iload_n hx hb dX7_comesOne_140 rfl (lv_at hl 1 rfl) ?_
              refine lv_iconst (v := 3) hx hb dX7_comesOne_141 (by decide) ?_
              refine lv_iadd hx hb dX7_comesOne_142 ?_
              obtain ⟨h23, hf⟩ := ck_use hf
              refine z_iald hx hb hK hP 19 rfl h23 dX7_comesOne_143 ?_
              obtain ⟨h25, hf⟩ := ck_use hf
              refine z_iast hx hb hK hP hD hS 6 rfl h25 dX7_comesOne_144 (fun (w9 : Mem) => (WMod z a1 w9)) (up2 y21 6 (y21 0 15).toNatClampNeg (y21 19 (p1 + 3).toNatClampNeg)) rfl (fun y24 ey24 H locs hP hD hS => ?_)
              have hf := lt_use ey24 hf
              refine lv_aload_n hx hb dX7_comesOne_145 rfl (lv_at hl 0 rfl) ?_
              refine va_get (D := D) (ci := 7) (v := .ref (a1 7)) (C := RX7) (T := TX7) (N := 33) hx hb hts iX7 hown hK hP 0 rfl rfl 6 (by decide) (hts _ aw742) (fun _ h9 => h9) rfl dX7_comesOne_146 ?_
              refine lv_aload_n hx hb dX7_comesOne_149 rfl (lv_at hl 0 rfl) ?_
              refine va_get (D := D) (ci := 7) (v := .int (y24 0 15)) (C := RX7) (T := TX7) (N := 33) hx hb hts iX7 hown hK hP 0 rfl rfl 15 (by decide) (hts _ aw751) (fun _ h9 => h9) rfl dX7_comesOne_150 ?_
              refine lv_aload_n hx hb dX7_comesOne_153 rfl (lv_at hl 0 rfl) ?_
              refine va_get (D := D) (ci := 7) (v := .ref (a1 19)) (C := RX7) (T := TX7) (N := 33) hx hb hts iX7 hown hK hP 0 rfl rfl 22 (by decide) (hts _ aw758) (fun _ h9 => h9) rfl dX7_comesOne_154 ?_
              refine lv_iload_n hx hb dX7_comesOne_157 rfl (lv_at hl 1 rfl) ?_
              refine lv_iconst (v := 4) hx hb dX7_comesOne_158 (by decide) ?_
              refine lv_iadd hx hb dX7_comesOne_159 ?_
              obtain ⟨h26, hf⟩ := ck_use hf
              refine z_iald hx hb hK hP 19 rfl h26 dX7_comesOne_160 ?_
              obtain ⟨h28, hf⟩ := ck_use hf
              refine z_iast hx hb hK hP hD hS 7 rfl h28 dX7_comesOne_161 (fun (w9 : Mem) => (WMod z a1 w9)) (up2 y24 7 (y24 0 15).toNatClampNeg (y24 19 (p1 + 4).toNatClampNeg)) rfl (fun y27 ey27 H locs hP hD hS => ?_)
              have hf := lt_use ey27 hf
              refine lv_aload_n hx hb dX7_comesOne_162 rfl (lv_at hl 0 rfl) ?_
              refine va_get (D := D) (ci := 7) (v := .ref (a1 8)) (C := RX7) (T := TX7) (N := 33) hx hb hts iX7 hown hK hP 0 rfl rfl 7 (by decide) (hts _ aw743) (fun _ h9 => h9) rfl dX7_comesOne_163 ?_
              refine lv_aload_n hx hb dX7_comesOne_166 rfl (lv_at hl 0 rfl) ?_
              refine va_get (D := D) (ci := 7) (v := .int (y27 0 15)) (C := RX7) (T := TX7) (N := 33) hx hb hts iX7 hown hK hP 0 rfl rfl 15 (by decide) (hts _ aw751) (fun _ h9 => h9) rfl dX7_comesOne_167 ?_
              refine lv_iconst (v := 0) hx hb dX7_comesOne_170 (by decide) ?_
              obtain ⟨h30, hf⟩ := ck_use hf
              refine z_iast hx hb hK hP hD hS 8 rfl h30 dX7_comesOne_171 (fun (w9 : Mem) => (WMod z a1 w9)) (up2 y27 8 (y27 0 15).toNatClampNeg 0) rfl (fun y29 ey29 H locs hP hD hS => ?_)
              have hf := lt_use ey29 hf
              refine lv_aload_n hx hb dX7_comesOne_172 rfl (lv_at hl 0 rfl) ?_
              refine va_get (D := D) (ci := 7) (v := .ref (a1 9)) (C := RX7) (T := TX7) (N := 33) hx hb hts iX7 hown hK hP 0 rfl rfl 8 (by decide) (hts _ aw744) (fun _ h9 => h9) rfl dX7_comesOne_173 ?_
              refine lv_aload_n hx hb dX7_comesOne_176 rfl (lv_at hl 0 rfl) ?_
              refine va_get (D := D) (ci := 7) (v := .int (y29 0 15)) (C := RX7) (T := TX7) (N := 33) hx hb hts iX7 hown hK hP 0 rfl rfl 15 (by decide) (hts _ aw751) (fun _ h9 => h9) rfl dX7_comesOne_177 ?_
              refine lv_iconst (v := 0) hx hb dX7_comesOne_180 (by decide) ?_
              obtain ⟨h32, hf⟩ := ck_use hf
              refine z_iast hx hb hK hP hD hS 9 rfl h32 dX7_comesOne_181 (fun (w9 : Mem) => (WMod z a1 w9)) (up2 y29 9 (y29 0 15).toNatClampNeg 0) rfl (fun y31 ey31 H locs hP hD hS => ?_)
              have hf := lt_use ey31 hf
              refine lv_aload_n hx hb dX7_comesOne_182 rfl (lv_at hl 0 rfl) ?_
              refine lv_dup hx hb dX7_comesOne_183 rfl ?_
              refine va_get (D := D) (ci := 7) (v := .int (y31 0 15)) (C := RX7) (T := TX7) (N := 33) hx hb hts iX7 hown hK hP 0 rfl rfl 15 (by decide) (hts _ aw751) (fun _ h9 => h9) rfl dX7_comesOne_184 ?_
              refine lv_iconst (v := 1) hx hb dX7_comesOne_187 (by decide) ?_
              refine lv_iadd hx hb dX7_comesOne_188 ?_
              refine z_put (ci := 7) (v := .int ((y31 0 15) + 1)) (ty := .int) (C := RX7) (T := TX7) (N := 33) hx hb hts iX7 tyX7 tyX7_ok nmX7 hown hK hP hD hS 0 rfl rfl 15 (by decide) (hts _ aw751) (fun _ h9 => h9) rfl (by decide +kernel) rfl rfl (Nat.le_of_ble_eq_true rfl) dX7_comesOne_189 (fun (w9 : Mem) => (WMod z a1 w9)) (up2 y31 0 15 ((y31 0 15) + 1)) rfl (fun y33 ey33 H locs hP hD hS => ?_)
              have hf := lt_use ey33 hf
              refine lv_iconst (v := 1) hx hb dX7_comesOne_192 (by decide) ?_
              obtain ⟨rfl, rfl⟩ := so2 hf
              exact ret_z hx hb hr hlocks hK hP hD hS (by decide) dX7_comesOne_193
            · have hf := if_t c13 hf
              refine lv_iconst (v := 0) hx hb dX7_comesOne_77 (by decide) ?_
              obtain ⟨rfl, rfl⟩ := so2 hf
              exact ret_z hx hb hr hlocks hK hP hD hS (by decide) dX7_comesOne_78
def pX7_comesAs (fu : Nat) (m1 : Mem) (p1 : Int32) : Option (Int32 × Mem) :=
  lt' ((5 * p1) : Int32) fun x1 =>
  ck p1 48 <|
  lt' ((m1 17 p1.toNatClampNeg) : Int32) fun x3 =>
  if x3 = 99 then
    bd2 (pX7_comesOne fu m1 x1) fun r5 y6 =>
    ckz r5 <| some (r5, y6)
  else
  if x3 = 115 then
    ck x1 240 <|
    ck (x1 + 1) 240 <|
    bd (pX7_notSet fu m1 (m1 19 x1.toNatClampNeg) (m1 19 (x1 + 1).toNatClampNeg)) fun r12 =>
    if r12 = 0 then
      ck x1 240 <|
      ck (x1 + 1) 240 <|
      ck (m1 19 x1.toNatClampNeg) 8 <|
      lt' (up2 m1 2 (m1 19 x1.toNatClampNeg).toNatClampNeg (m1 19 (x1 + 1).toNatClampNeg)) fun y17 =>
      some (1, y17)
    else
      some (0, m1)
  else
  ck x1 240 <|
  bd (pX7_isComer fu m1 (m1 19 x1.toNatClampNeg)) fun r20 =>
  if r20 = 0 then
    some (0, m1)
  else
    ck (x1 + 1) 240 <|
    if (m1 19 (x1 + 1).toNatClampNeg) ≤ 6 then
      ck x1 240 <|
      ck (x1 + 1) 240 <|
      ck (m1 19 x1.toNatClampNeg) 8 <|
      lt' (up2 m1 3 (m1 19 x1.toNatClampNeg).toNatClampNeg (m1 19 (x1 + 1).toNatClampNeg)) fun y27 =>
      ck x1 240 <|
      ck (x1 + 2) 240 <|
      ck (y27 19 x1.toNatClampNeg) 8 <|
      lt' (up2 y27 4 (y27 19 x1.toNatClampNeg).toNatClampNeg (y27 19 (x1 + 2).toNatClampNeg)) fun y31 =>
      some (1, y31)
    else
      some (0, m1)
set_option maxHeartbeats 4000000 in
set_option maxRecDepth 100000 in
theorem tX7_comesAs (l : Launch) (D : va_G) (z tt : Nat → Nat) (a1 : Nat → Nat) (m1 : Mem) (p1 : Int32) (fu : Nat) (rr : Int32) (m1' : Mem) (hf : pX7_comesAs fu m1 p1 = some (rr, m1')) : MetI l yX7_comesAs wsX7_comesAs ({ frames := 2, cells := 0, slots := 0, locals := 46 } : Room) D z tt ([.ref (a1 0), .int p1] : List Value) (WMod z a1 m1) rr (WMod z a1 m1') := by
  intro sz
  refine Met.ofW (cc := cX7_comesAs) (maxL := 3) (ret := (some .boolean)) (by decide) rfl ?_
  intro p e s m args below meth c s₁ B hml hv
  obtain ⟨rfl, hsz, hP, hK, hD0, hT, hN⟩ := hv
  have hx := B.exec
  have hb := B.bytes
  have hr := B.returns
  have hts : ∀ w ∈ wsA, w.before ([.ref (a1 0), .int p1] : List Value).toArray s = true := fun w h => atoms_spec (ws := wsX7_comesAs) B.pre w (List.mem_cons_of_mem _ h)
  have hown : s.vm.findClass RX7 = some m.cls := findClass_of_methodNamed B.named
  have hlocks := B.notSynchronized
  subst hsz
  have hD := hD0.self (sz := s.heap.size)
  generalize hAe : va_A (WMod z a1 m1) s.heap.size = A at hD hT ⊢
  have hA : ∀ q : Nat, s.heap.size ≤ q → A q := fun q h => by rw [← hAe]; exact Or.inr h
  have hS : va_S A s.heap s.heap [] := va_S.rf
  have hl := lv_entry ([.ref (a1 0), .int p1] : List Value) (n := 3) (Nat.le_of_ble_eq_true rfl)
  rw [lg_entry_eq]
  generalize (lg_sl ([.ref (a1 0), .int p1] : List Value) ++ List.replicate (3 - (lg_sl ([.ref (a1 0), .int p1] : List Value)).length) Slot.unset).toArray = ls at hl ⊢
  have hl : lv_has ls 3 [(0, .ref (a1 0)), (1, .int p1)] := hl
  unfold pX7_comesAs at hf
  refine lv_iconst (v := 5) hx hb dX7_comesAs_0 (by decide) ?_
  refine lv_iload_n hx hb dX7_comesAs_1 rfl (lv_at hl 1 rfl) ?_
  refine lv_imul hx hb dX7_comesAs_2 ?_
  refine lv_topi (fun x1 ex1 => ?_)
  have hf := lt_use ex1 hf
  refine lv_istore_n (lv' := [(2, .int x1), (0, .ref (a1 0)), (1, .int p1)]) hx hb dX7_comesAs_3 rfl hl (by decide) rfl (fun ls hl => ?_)
  refine lv_aload_n hx hb dX7_comesAs_4 rfl (lv_at hl 1 rfl) ?_
  refine va_get (D := D) (ci := 7) (v := .ref (a1 17)) (C := RX7) (T := TX7) (N := 33) hx hb hts iX7 hown hK hP 0 rfl rfl 20 (by decide) (hts _ aw756) (fun _ h9 => h9) rfl dX7_comesAs_5 ?_
  refine lv_iload_n hx hb dX7_comesAs_8 rfl (lv_at hl 2 rfl) ?_
  obtain ⟨h2, hf⟩ := ck_use hf
  refine z_iald hx hb hK hP 17 rfl h2 dX7_comesAs_9 ?_
  refine lv_topi (fun x3 ex3 => ?_)
  have hf := lt_use ex3 hf
  by_cases c4 : x3 = 99
  · have hf := if_t c4 hf
    refine lv_lookup (off := 70) (tgt := 80) hx hb dX7_comesAs_10 (by decide) (by rw [c4]; decide) (by decide) ?_
    refine lv_aload_n hx hb dX7_comesAs_80 rfl (lv_at hl 1 rfl) ?_
    refine lv_iload_n hx hb dX7_comesAs_81 rfl (lv_at hl 0 rfl) ?_
    obtain ⟨r5, y6, q7, hf⟩ := bd2_use hf
    have hfo : Foc (WMod z a1 m1) (WMod z a1 m1) (WMod z a1 y6) (WMod z a1 y6) := foc_all
    refine z_goI (ws1 := (WMod z a1 y6)) (va_runV (As := [.int x1]) (rest := []) ⟨hx, hb, hml, hown, hts⟩ (tX7_comesOne l D z tt a1 m1 x1 fu r5 y6 q7 _) (cwV 1 hts (gV4 aw900 aw902 aw12 aw52 aw903) rfl rfl rfl (by decide +kernel) ⟨Nat.le_of_ble_eq_true rfl, Nat.le_of_ble_eq_true rfl⟩) (z_preV hK hP hD hS hA hT hN hfo (va_recv hK hP (ci := 7) (q0 := 0) rfl rfl)) rfl rfl hl.1 rfl (lv_room (Nat.le_of_ble_eq_true rfl)) dX7_comesAs_82 ⟨Nat.zero_le _, Nat.zero_le _⟩) hP hD hS hA hfo (fun H locs hP hD hS => ?_)
    obtain ⟨h8, hf⟩ := ckz_use hf
    obtain ⟨rfl, rfl⟩ := so2 hf
    exact ret_z hx hb hr hlocks hK hP hD hS h8 dX7_comesAs_85
  have hf := if_f c4 hf
  by_cases c9 : x3 = 115
  · have hf := if_t c9 hf
    refine lv_lookup (off := 26) (tgt := 36) hx hb dX7_comesAs_10 (by decide) (by rw [c9]; decide) (by decide) ?_
    refine lv_aload_n hx hb dX7_comesAs_36 rfl (lv_at hl 1 rfl) ?_
    refine lv_aload_n hx hb dX7_comesAs_37 rfl (lv_at hl 1 rfl) ?_
    refine va_get (D := D) (ci := 7) (v := .ref (a1 19)) (C := RX7) (T := TX7) (N := 33) hx hb hts iX7 hown hK hP 0 rfl rfl 22 (by decide) (hts _ aw758) (fun _ h9 => h9) rfl dX7_comesAs_38 ?_
    refine lv_iload_n hx hb dX7_comesAs_41 rfl (lv_at hl 0 rfl) ?_
    obtain ⟨h10, hf⟩ := ck_use hf
    refine z_iald hx hb hK hP 19 rfl h10 dX7_comesAs_42 ?_
    refine lv_aload_n hx hb dX7_comesAs_43 rfl (lv_at hl 1 rfl) ?_
    refine va_get (D := D) (ci := 7) (v := .ref (a1 19)) (C := RX7) (T := TX7) (N := 33) hx hb hts iX7 hown hK hP 0 rfl rfl 22 (by decide) (hts _ aw758) (fun _ h9 => h9) rfl dX7_comesAs_44 ?_
    refine lv_iload_n hx hb dX7_comesAs_47 rfl (lv_at hl 0 rfl) ?_
    refine lv_iconst (v := 1) hx hb dX7_comesAs_48 (by decide) ?_
    refine lv_iadd hx hb dX7_comesAs_49 ?_
    obtain ⟨h11, hf⟩ := ck_use hf
    refine z_iald hx hb hK hP 19 rfl h11 dX7_comesAs_50 ?_
    obtain ⟨r12, q13, hf⟩ := bd_use hf
    have hfo : Foc (WMod z a1 m1) (WMod z a1 m1) (WMod z a1 m1) (WMod z a1 m1) := foc_all
    refine z_goI (ws1 := (WMod z a1 m1)) (va_runV (As := [.int (m1 19 x1.toNatClampNeg), .int (m1 19 (x1 + 1).toNatClampNeg)]) (rest := []) ⟨hx, hb, hml, hown, hts⟩ (tX7_notSet l D z tt a1 m1 (m1 19 x1.toNatClampNeg) (m1 19 (x1 + 1).toNatClampNeg) fu r12 q13 _) (cwV 2 hts (gV4 aw890 aw892 aw11 aw52 aw893) rfl rfl rfl (by decide +kernel) ⟨Nat.le_of_ble_eq_true rfl, Nat.le_of_ble_eq_true rfl⟩) (z_preV hK hP hD hS hA hT hN hfo (va_recv hK hP (ci := 7) (q0 := 0) rfl rfl)) rfl rfl hl.1 rfl (lv_room (Nat.le_of_ble_eq_true rfl)) dX7_comesAs_51 ⟨Nat.zero_le _, Nat.zero_le _⟩) hP hD hS hA hfo (fun H locs hP hD hS => ?_)
    refine lv_if_eq (tgt := 59) hx hb dX7_comesAs_54 (by decide) (fun c14 => ?_) (fun c14 => ?_)
    · have hf := if_t c14 hf
      refine lv_aload_n hx hb dX7_comesAs_59 rfl (lv_at hl 1 rfl) ?_
      refine va_get (D := D) (ci := 7) (v := .ref (a1 2)) (C := RX7) (T := TX7) (N := 33) hx hb hts iX7 hown hK hP 0 rfl rfl 1 (by decide) (hts _ aw737) (fun _ h9 => h9) rfl dX7_comesAs_60 ?_
      refine lv_aload_n hx hb dX7_comesAs_63 rfl (lv_at hl 1 rfl) ?_
      refine va_get (D := D) (ci := 7) (v := .ref (a1 19)) (C := RX7) (T := TX7) (N := 33) hx hb hts iX7 hown hK hP 0 rfl rfl 22 (by decide) (hts _ aw758) (fun _ h9 => h9) rfl dX7_comesAs_64 ?_
      refine lv_iload_n hx hb dX7_comesAs_67 rfl (lv_at hl 0 rfl) ?_
      obtain ⟨h15, hf⟩ := ck_use hf
      refine z_iald hx hb hK hP 19 rfl h15 dX7_comesAs_68 ?_
      refine lv_aload_n hx hb dX7_comesAs_69 rfl (lv_at hl 1 rfl) ?_
      refine va_get (D := D) (ci := 7) (v := .ref (a1 19)) (C := RX7) (T := TX7) (N := 33) hx hb hts iX7 hown hK hP 0 rfl rfl 22 (by decide) (hts _ aw758) (fun _ h9 => h9) rfl dX7_comesAs_70 ?_
      refine lv_iload_n hx hb dX7_comesAs_73 rfl (lv_at hl 0 rfl) ?_
      refine lv_iconst (v := 1) hx hb dX7_comesAs_74 (by decide) ?_
      refine lv_iadd hx hb dX7_comesAs_75 ?_
      obtain ⟨h16, hf⟩ := ck_use hf
      refine z_iald hx hb hK hP 19 rfl h16 dX7_comesAs_76 ?_
      obtain ⟨h18, hf⟩ := ck_use hf
      refine z_iast hx hb hK hP hD hS 2 rfl h18 dX7_comesAs_77 (fun (w9 : Mem) => (WMod z a1 w9)) (up2 m1 2 (m1 19 x1.toNatClampNeg).toNatClampNeg (m1 19 (x1 + 1).toNatClampNeg)) rfl (fun y17 ey17 H locs hP hD hS => ?_)
      have hf := lt_use ey17 hf
      refine lv_iconst (v := 1) hx hb dX7_comesAs_78 (by decide) ?_
      obtain ⟨rfl, rfl⟩ := so2 hf
      exact ret_z hx hb hr hlocks hK hP hD hS (by decide) dX7_comesAs_79
    · have hf := if_f c14 hf
      refine lv_iconst (v := 0) hx hb dX7_comesAs_57 (by decide) ?_
      obtain ⟨rfl, rfl⟩ := so2 hf
      exact ret_z hx hb hr hlocks hK hP hD hS (by decide) dX7_comesAs_58
  have hf := if_f c9 hf
  refine lv_lookup (off := 76) (tgt := 86) hx hb dX7_comesAs_10 (by decide) (by show Op.lookupswitch.offset [(99, 70), (115, 26)] 76 _ = _; rw [lv_osw c4 (show (99 : Int32).toInt = 99 from by decide)]; rw [lv_osw c9 (show (115 : Int32).toInt = 115 from by decide)]; rfl) (by decide) ?_
  refine lv_aload_n hx hb dX7_comesAs_86 rfl (lv_at hl 1 rfl) ?_
  refine lv_aload_n hx hb dX7_comesAs_87 rfl (lv_at hl 1 rfl) ?_
  refine va_get (D := D) (ci := 7) (v := .ref (a1 19)) (C := RX7) (T := TX7) (N := 33) hx hb hts iX7 hown hK hP 0 rfl rfl 22 (by decide) (hts _ aw758) (fun _ h9 => h9) rfl dX7_comesAs_88 ?_
  refine lv_iload_n hx hb dX7_comesAs_91 rfl (lv_at hl 0 rfl) ?_
  obtain ⟨h19, hf⟩ := ck_use hf
  refine z_iald hx hb hK hP 19 rfl h19 dX7_comesAs_92 ?_
  obtain ⟨r20, q21, hf⟩ := bd_use hf
  have hfo : Foc (WMod z a1 m1) (WMod z a1 m1) (WMod z a1 m1) (WMod z a1 m1) := foc_all
  refine z_goI (ws1 := (WMod z a1 m1)) (va_runV (As := [.int (m1 19 x1.toNatClampNeg)]) (rest := []) ⟨hx, hb, hml, hown, hts⟩ (tX7_isComer l D z tt a1 m1 (m1 19 x1.toNatClampNeg) fu r20 q21 _) (cwV 1 hts (gV4 aw904 aw906 aw13 aw52 aw907) rfl rfl rfl (by decide +kernel) ⟨Nat.le_of_ble_eq_true rfl, Nat.le_of_ble_eq_true rfl⟩) (z_preV hK hP hD hS hA hT hN hfo (va_recv hK hP (ci := 7) (q0 := 0) rfl rfl)) rfl rfl hl.1 rfl (lv_room (Nat.le_of_ble_eq_true rfl)) dX7_comesAs_93 ⟨Nat.zero_le _, Nat.zero_le _⟩) hP hD hS hA hfo (fun H locs hP hD hS => ?_)
  refine lv_if_eq (tgt := 112) hx hb dX7_comesAs_96 (by decide) (fun c22 => ?_) (fun c22 => ?_)
  · have hf := if_t c22 hf
    refine lv_iconst (v := 0) hx hb dX7_comesAs_112 (by decide) ?_
    obtain ⟨rfl, rfl⟩ := so2 hf
    exact ret_z hx hb hr hlocks hK hP hD hS (by decide) dX7_comesAs_113
  · have hf := if_f c22 hf
    refine lv_aload_n hx hb dX7_comesAs_99 rfl (lv_at hl 1 rfl) ?_
    refine va_get (D := D) (ci := 7) (v := .ref (a1 19)) (C := RX7) (T := TX7) (N := 33) hx hb hts iX7 hown hK hP 0 rfl rfl 22 (by decide) (hts _ aw758) (fun _ h9 => h9) rfl dX7_comesAs_100 ?_
    refine lv_iload_n hx hb dX7_comesAs_103 rfl (lv_at hl 0 rfl) ?_
    refine lv_iconst (v := 1) hx hb dX7_comesAs_104 (by decide) ?_
    refine lv_iadd hx hb dX7_comesAs_105 ?_
    obtain ⟨h23, hf⟩ := ck_use hf
    refine z_iald hx hb hK hP 19 rfl h23 dX7_comesAs_106 ?_
    refine lv_bipush (v := 6) hx hb dX7_comesAs_107 (by decide) ?_
    refine lv_icmp_le (tgt := 114) hx hb dX7_comesAs_109 (by decide) (fun c24 => ?_) (fun c24 => ?_)
    · have hf := if_t c24 hf
      refine lv_aload_n hx hb dX7_comesAs_114 rfl (lv_at hl 1 rfl) ?_
      refine va_get (D := D) (ci := 7) (v := .ref (a1 3)) (C := RX7) (T := TX7) (N := 33) hx hb hts iX7 hown hK hP 0 rfl rfl 2 (by decide) (hts _ aw738) (fun _ h9 => h9) rfl dX7_comesAs_115 ?_
      refine lv_aload_n hx hb dX7_comesAs_118 rfl (lv_at hl 1 rfl) ?_
      refine va_get (D := D) (ci := 7) (v := .ref (a1 19)) (C := RX7) (T := TX7) (N := 33) hx hb hts iX7 hown hK hP 0 rfl rfl 22 (by decide) (hts _ aw758) (fun _ h9 => h9) rfl dX7_comesAs_119 ?_
      refine lv_iload_n hx hb dX7_comesAs_122 rfl (lv_at hl 0 rfl) ?_
      obtain ⟨h25, hf⟩ := ck_use hf
      refine z_iald hx hb hK hP 19 rfl h25 dX7_comesAs_123 ?_
      refine lv_aload_n hx hb dX7_comesAs_124 rfl (lv_at hl 1 rfl) ?_
      refine va_get (D := D) (ci := 7) (v := .ref (a1 19)) (C := RX7) (T := TX7) (N := 33) hx hb hts iX7 hown hK hP 0 rfl rfl 22 (by decide) (hts _ aw758) (fun _ h9 => h9) rfl dX7_comesAs_125 ?_
      refine lv_iload_n hx hb dX7_comesAs_128 rfl (lv_at hl 0 rfl) ?_
      refine lv_iconst (v := 1) hx hb dX7_comesAs_129 (by decide) ?_
      refine lv_iadd hx hb dX7_comesAs_130 ?_
      obtain ⟨h26, hf⟩ := ck_use hf
      refine z_iald hx hb hK hP 19 rfl h26 dX7_comesAs_131 ?_
      obtain ⟨h28, hf⟩ := ck_use hf
      refine z_iast hx hb hK hP hD hS 3 rfl h28 dX7_comesAs_132 (fun (w9 : Mem) => (WMod z a1 w9)) (up2 m1 3 (m1 19 x1.toNatClampNeg).toNatClampNeg (m1 19 (x1 + 1).toNatClampNeg)) rfl (fun y27 ey27 H locs hP hD hS => ?_)
      have hf := lt_use ey27 hf
      refine lv_aload_n hx hb dX7_comesAs_133 rfl (lv_at hl 1 rfl) ?_
      refine va_get (D := D) (ci := 7) (v := .ref (a1 4)) (C := RX7) (T := TX7) (N := 33) hx hb hts iX7 hown hK hP 0 rfl rfl 3 (by decide) (hts _ aw739) (fun _ h9 => h9) rfl dX7_comesAs_134 ?_
      refine lv_aload_n hx hb dX7_comesAs_137 rfl (lv_at hl 1 rfl) ?_
      refine va_get (D := D) (ci := 7) (v := .ref (a1 19)) (C := RX7) (T := TX7) (N := 33) hx hb hts iX7 hown hK hP 0 rfl rfl 22 (by decide) (hts _ aw758) (fun _ h9 => h9) rfl dX7_comesAs_138 ?_
      refine lv_iload_n hx hb dX7_comesAs_141 rfl (lv_at hl 0 rfl) ?_
      obtain ⟨h29, hf⟩ := ck_use hf
      refine z_iald hx hb hK hP 19 rfl h29 dX7_comesAs_142 ?_
      refine lv_aload_n hx hb dX7_comesAs_143 rfl (lv_at hl 1 rfl) ?_
      refine va_get (D := D) (ci := 7) (v := .ref (a1 19)) (C := RX7) (T := TX7) (N := 33) hx hb hts iX7 hown hK hP 0 rfl rfl 22 (by decide) (hts _ aw758) (fun _ h9 => h9) rfl dX7_comesAs_144 ?_
      refine lv_iload_n hx hb dX7_comesAs_147 rfl (lv_at hl 0 rfl) ?_
      refine lv_iconst (v := 2) hx hb dX7_comesAs_148 (by decide) ?_
      refine lv_iadd hx hb dX7_comesAs_149 ?_
      obtain ⟨h30, hf⟩ := ck_use hf
      refine z_iald hx hb hK hP 19 rfl h30 dX7_comesAs_150 ?_
      obtain ⟨h32, hf⟩ := ck_use hf
      refine z_iast hx hb hK hP hD hS 4 rfl h32 dX7_comesAs_151 (fun (w9 : Mem) => (WMod z a1 w9)) (up2 y27 4 (y27 19 x1.toNatClampNeg).toNatClampNeg (y27 19 (x1 + 2).toNatClampNeg)) rfl (fun y31 ey31 H locs hP hD hS => ?_)
      have hf := lt_use ey31 hf
      refine lv_iconst (v := 1) hx hb dX7_comesAs_152 (by decide) ?_
      obtain ⟨rfl, rfl⟩ := so2 hf
      exact ret_z hx hb hr hlocks hK hP hD hS (by decide) dX7_comesAs_153
    · have hf := if_f c24 hf
      refine lv_iconst (v := 0) hx hb dX7_comesAs_112 (by decide) ?_
      obtain ⟨rfl, rfl⟩ := so2 hf
      exact ret_z hx hb hr hlocks hK hP hD hS (by decide) dX7_comesAs_113
def pX7_passes_2 (fu : Nat) (m1 : Mem) : Option Mem :=
  zl2 (fun g4 (x1 : Int32) (y2 : Mem) =>
    if 8 ≤ x1 then
      some y2
    else
      if (y2 0 28) = 0 then
        ck (y2 0 29) 300 <|
        ck x1 8 <|
        lt' (up2 y2 2 x1.toNatClampNeg (y2 20 (y2 0 29).toNatClampNeg)) fun y9 =>
        lt' (up2 y9 0 29 ((y9 0 29) + 1)) fun y11 =>
        lt' (x1 + 1) fun x12 =>
        g4 x12 y11
      else
        ck x1 8 <|
        ck (y2 0 29) 300 <|
        lt' (up2 y2 20 (y2 0 29).toNatClampNeg (y2 2 x1.toNatClampNeg)) fun y14 =>
        lt' (up2 y14 0 29 ((y14 0 29) + 1)) fun y16 =>
        lt' (x1 + 1) fun x17 =>
        g4 x17 y16) fu 0 m1
set_option maxHeartbeats 4000000 in
set_option maxRecDepth 100000 in
theorem tX7_passes_2 (l : Launch) (D : va_G) (z tt : Nat → Nat) (a1 : Nat → Nat) (m1 : Mem)  (fu : Nat) (m1' : Mem) (hf : pX7_passes_2 fu m1 = some m1') : MetV l yX7_passes wsX7_passes ({ frames := 0, cells := 0, slots := 0, locals := 0 } : Room) D z tt ([.ref (a1 0), .ref (a1 2)] : List Value) (WMod z a1 m1) (WMod z a1 m1') := by
  intro sz
  refine Met.ofW (cc := cX7_passes) (maxL := 3) (ret := none) (by decide) rfl ?_
  intro p e s m args below meth c s₁ B hml hv
  obtain ⟨rfl, hsz, hP, hK, hD0, hT, hN⟩ := hv
  have hx := B.exec
  have hb := B.bytes
  have hr := B.returns
  have hts : ∀ w ∈ wsA, w.before ([.ref (a1 0), .ref (a1 2)] : List Value).toArray s = true := fun w h => atoms_spec (ws := wsX7_passes) B.pre w (List.mem_cons_of_mem _ h)
  have hown : s.vm.findClass RX7 = some m.cls := findClass_of_methodNamed B.named
  have hlocks := B.notSynchronized
  subst hsz
  have hD := hD0.self (sz := s.heap.size)
  generalize hAe : va_A (WMod z a1 m1) s.heap.size = A at hD hT ⊢
  have hA : ∀ q : Nat, s.heap.size ≤ q → A q := fun q h => by rw [← hAe]; exact Or.inr h
  have hS : va_S A s.heap s.heap [] := va_S.rf
  have hl := lv_entry ([.ref (a1 0), .ref (a1 2)] : List Value) (n := 3) (Nat.le_of_ble_eq_true rfl)
  rw [lg_entry_eq]
  generalize (lg_sl ([.ref (a1 0), .ref (a1 2)] : List Value) ++ List.replicate (3 - (lg_sl ([.ref (a1 0), .ref (a1 2)] : List Value)).length) Slot.unset).toArray = ls at hl ⊢
  have hl : lv_has ls 3 [(0, .ref (a1 0)), (1, .ref (a1 2))] := hl
  unfold pX7_passes_2 at hf
  refine lv_iconst (v := 0) hx hb dX7_passes_0 (by decide) ?_
  refine lv_istore_n (lv' := [(2, .int 0), (0, .ref (a1 0)), (1, .ref (a1 2))]) hx hb dX7_passes_1 rfl hl (by decide) rfl (fun ls hl => ?_)
  obtain ⟨F3, eF3, hf⟩ := zl2_use hf
  have L2_F3 : ∀ (n : Nat) (x1 : Int32) (y2 : Mem) (H : Heap) (locs : List Loc), va_P D vwCl (WMod z a1 y2) H → va_D A (WMod z a1 y2) → va_S A s.heap H locs → ∀ (ls : Array Slot), lv_has ls 3 [(0, .ref (a1 0)), (1, .ref (a1 2)), (2, .int x1)] → zl2 F3 n x1 y2 = some m1' → GV p l e (headSpec wsX7_passes ({ frames := 0, cells := 0, slots := 0, locals := 0 } : Room)).room s m ([.ref (a1 0), .ref (a1 2)] : List Value).toArray below meth c A D z (WMod z a1 m1') H locs (F0 m 2 ls []) := by
    intro n
    induction n with
    | zero =>
      intro x1 y2 H locs hP hD hS ls hl hf
      exact no_none hf
    | succ n ih5 =>
      intro x1 y2 H locs hP hD hS ls hl hf
      have hf := zl2_s eF3 hf
      refine lv_iload_n hx hb dX7_passes_2 rfl (lv_at hl 2 rfl) ?_
      refine lv_aload_n hx hb dX7_passes_3 rfl (lv_at hl 1 rfl) ?_
      refine z_alen hx hb hK hP 2 0 rfl rfl (v := 8) rfl dX7_passes_4 ?_
      refine lv_icmp_ge (tgt := 58) hx hb dX7_passes_5 (by decide) (fun c6 => ?_) (fun c6 => ?_)
      · have hf := if_t c6 hf
        obtain rfl := so1 hf
        exact ret_v hx hb hr hlocks hK hP hD hS dX7_passes_58
      · have hf := if_f c6 hf
        refine lv_aload_n hx hb dX7_passes_8 rfl (lv_at hl 0 rfl) ?_
        refine va_get (D := D) (ci := 7) (v := .int (y2 0 28)) (C := RX7) (T := TX7) (N := 33) hx hb hts iX7 hown hK hP 0 rfl rfl 28 (by decide) (hts _ aw764) (fun _ h9 => h9) rfl dX7_passes_9 ?_
        refine lv_if_eq (tgt := 30) hx hb dX7_passes_12 (by decide) (fun c7 => ?_) (fun c7 => ?_)
        · have hf := if_t c7 hf
          refine lv_aload_n hx hb dX7_passes_30 rfl (lv_at hl 1 rfl) ?_
          refine lv_iload_n hx hb dX7_passes_31 rfl (lv_at hl 2 rfl) ?_
          refine lv_aload_n hx hb dX7_passes_32 rfl (lv_at hl 0 rfl) ?_
          refine va_get (D := D) (ci := 7) (v := .ref (a1 20)) (C := RX7) (T := TX7) (N := 33) hx hb hts iX7 hown hK hP 0 rfl rfl 26 (by decide) (hts _ aw762) (fun _ h9 => h9) rfl dX7_passes_33 ?_
          refine lv_aload_n hx hb dX7_passes_36 rfl (lv_at hl 0 rfl) ?_
          refine va_get (D := D) (ci := 7) (v := .int (y2 0 29)) (C := RX7) (T := TX7) (N := 33) hx hb hts iX7 hown hK hP 0 rfl rfl 29 (by decide) (hts _ aw765) (fun _ h9 => h9) rfl dX7_passes_37 ?_
          obtain ⟨h8, hf⟩ := ck_use hf
          refine z_iald hx hb hK hP 20 rfl h8 dX7_passes_40 ?_
          obtain ⟨h10, hf⟩ := ck_use hf
          refine z_iast hx hb hK hP hD hS 2 rfl h10 dX7_passes_41 (fun (w9 : Mem) => (WMod z a1 w9)) (up2 y2 2 x1.toNatClampNeg (y2 20 (y2 0 29).toNatClampNeg)) rfl (fun y9 ey9 H locs hP hD hS => ?_)
          have hf := lt_use ey9 hf
          refine lv_aload_n hx hb dX7_passes_42 rfl (lv_at hl 0 rfl) ?_
          refine lv_dup hx hb dX7_passes_43 rfl ?_
          refine va_get (D := D) (ci := 7) (v := .int (y9 0 29)) (C := RX7) (T := TX7) (N := 33) hx hb hts iX7 hown hK hP 0 rfl rfl 29 (by decide) (hts _ aw765) (fun _ h9 => h9) rfl dX7_passes_44 ?_
          refine lv_iconst (v := 1) hx hb dX7_passes_47 (by decide) ?_
          refine lv_iadd hx hb dX7_passes_48 ?_
          refine z_put (ci := 7) (v := .int ((y9 0 29) + 1)) (ty := .int) (C := RX7) (T := TX7) (N := 33) hx hb hts iX7 tyX7 tyX7_ok nmX7 hown hK hP hD hS 0 rfl rfl 29 (by decide) (hts _ aw765) (fun _ h9 => h9) rfl (by decide +kernel) rfl rfl (Nat.le_of_ble_eq_true rfl) dX7_passes_49 (fun (w9 : Mem) => (WMod z a1 w9)) (up2 y9 0 29 ((y9 0 29) + 1)) rfl (fun y11 ey11 H locs hP hD hS => ?_)
          have hf := lt_use ey11 hf
          obtain ⟨x12, ex12⟩ : ∃ y : Int32, y = x1 + 1 := ⟨_, rfl⟩
          have hf := lt_use ex12 hf
          refine lv_iinc (v := x12) (lv' := [(2, .int x12), (0, .ref (a1 0)), (1, .ref (a1 2))]) hx hb dX7_passes_52 hl (k := 2) rfl (by rw [ex12]; rfl) (by decide) rfl (fun ls hl => ?_)
          refine lv_goto (tgt := 2) hx hb dX7_passes_55 (by decide) ?_
          exact ih5 _ _ _ _ hP hD hS _ (lv_sub hl [1, 2, 0] rfl) hf
        · have hf := if_f c7 hf
          refine lv_aload_n hx hb dX7_passes_15 rfl (lv_at hl 0 rfl) ?_
          refine va_get (D := D) (ci := 7) (v := .ref (a1 20)) (C := RX7) (T := TX7) (N := 33) hx hb hts iX7 hown hK hP 0 rfl rfl 26 (by decide) (hts _ aw762) (fun _ h9 => h9) rfl dX7_passes_16 ?_
          refine lv_aload_n hx hb dX7_passes_19 rfl (lv_at hl 0 rfl) ?_
          refine va_get (D := D) (ci := 7) (v := .int (y2 0 29)) (C := RX7) (T := TX7) (N := 33) hx hb hts iX7 hown hK hP 0 rfl rfl 29 (by decide) (hts _ aw765) (fun _ h9 => h9) rfl dX7_passes_20 ?_
          refine lv_aload_n hx hb dX7_passes_23 rfl (lv_at hl 1 rfl) ?_
          refine lv_iload_n hx hb dX7_passes_24 rfl (lv_at hl 2 rfl) ?_
          obtain ⟨h13, hf⟩ := ck_use hf
          refine z_iald hx hb hK hP 2 rfl h13 dX7_passes_25 ?_
          obtain ⟨h15, hf⟩ := ck_use hf
          refine z_iast hx hb hK hP hD hS 20 rfl h15 dX7_passes_26 (fun (w9 : Mem) => (WMod z a1 w9)) (up2 y2 20 (y2 0 29).toNatClampNeg (y2 2 x1.toNatClampNeg)) rfl (fun y14 ey14 H locs hP hD hS => ?_)
          have hf := lt_use ey14 hf
          refine lv_goto (tgt := 42) hx hb dX7_passes_27 (by decide) ?_
          refine lv_aload_n hx hb dX7_passes_42 rfl (lv_at hl 0 rfl) ?_
          refine lv_dup hx hb dX7_passes_43 rfl ?_
          refine va_get (D := D) (ci := 7) (v := .int (y14 0 29)) (C := RX7) (T := TX7) (N := 33) hx hb hts iX7 hown hK hP 0 rfl rfl 29 (by decide) (hts _ aw765) (fun _ h9 => h9) rfl dX7_passes_44 ?_
          refine lv_iconst (v := 1) hx hb dX7_passes_47 (by decide) ?_
          refine lv_iadd hx hb dX7_passes_48 ?_
          refine z_put (ci := 7) (v := .int ((y14 0 29) + 1)) (ty := .int) (C := RX7) (T := TX7) (N := 33) hx hb hts iX7 tyX7 tyX7_ok nmX7 hown hK hP hD hS 0 rfl rfl 29 (by decide) (hts _ aw765) (fun _ h9 => h9) rfl (by decide +kernel) rfl rfl (Nat.le_of_ble_eq_true rfl) dX7_passes_49 (fun (w9 : Mem) => (WMod z a1 w9)) (up2 y14 0 29 ((y14 0 29) + 1)) rfl (fun y16 ey16 H locs hP hD hS => ?_)
          have hf := lt_use ey16 hf
          obtain ⟨x17, ex17⟩ : ∃ y : Int32, y = x1 + 1 := ⟨_, rfl⟩
          have hf := lt_use ex17 hf
          refine lv_iinc (v := x17) (lv' := [(2, .int x17), (0, .ref (a1 0)), (1, .ref (a1 2))]) hx hb dX7_passes_52 hl (k := 2) rfl (by rw [ex17]; rfl) (by decide) rfl (fun ls hl => ?_)
          refine lv_goto (tgt := 2) hx hb dX7_passes_55 (by decide) ?_
          exact ih5 _ _ _ _ hP hD hS _ (lv_sub hl [1, 2, 0] rfl) hf
  exact L2_F3 fu _ _ _ _ hP hD hS _ (lv_sub hl [1, 2, 0] rfl) hf
def pX7_passes_3 (fu : Nat) (m1 : Mem) : Option Mem :=
  zl2 (fun g4 (x1 : Int32) (y2 : Mem) =>
    if 8 ≤ x1 then
      some y2
    else
      if (y2 0 28) = 0 then
        ck (y2 0 29) 300 <|
        ck x1 8 <|
        lt' (up2 y2 3 x1.toNatClampNeg (y2 20 (y2 0 29).toNatClampNeg)) fun y9 =>
        lt' (up2 y9 0 29 ((y9 0 29) + 1)) fun y11 =>
        lt' (x1 + 1) fun x12 =>
        g4 x12 y11
      else
        ck x1 8 <|
        ck (y2 0 29) 300 <|
        lt' (up2 y2 20 (y2 0 29).toNatClampNeg (y2 3 x1.toNatClampNeg)) fun y14 =>
        lt' (up2 y14 0 29 ((y14 0 29) + 1)) fun y16 =>
        lt' (x1 + 1) fun x17 =>
        g4 x17 y16) fu 0 m1
set_option maxHeartbeats 4000000 in
set_option maxRecDepth 100000 in
theorem tX7_passes_3 (l : Launch) (D : va_G) (z tt : Nat → Nat) (a1 : Nat → Nat) (m1 : Mem)  (fu : Nat) (m1' : Mem) (hf : pX7_passes_3 fu m1 = some m1') : MetV l yX7_passes wsX7_passes ({ frames := 0, cells := 0, slots := 0, locals := 0 } : Room) D z tt ([.ref (a1 0), .ref (a1 3)] : List Value) (WMod z a1 m1) (WMod z a1 m1') := by
  intro sz
  refine Met.ofW (cc := cX7_passes) (maxL := 3) (ret := none) (by decide) rfl ?_
  intro p e s m args below meth c s₁ B hml hv
  obtain ⟨rfl, hsz, hP, hK, hD0, hT, hN⟩ := hv
  have hx := B.exec
  have hb := B.bytes
  have hr := B.returns
  have hts : ∀ w ∈ wsA, w.before ([.ref (a1 0), .ref (a1 3)] : List Value).toArray s = true := fun w h => atoms_spec (ws := wsX7_passes) B.pre w (List.mem_cons_of_mem _ h)
  have hown : s.vm.findClass RX7 = some m.cls := findClass_of_methodNamed B.named
  have hlocks := B.notSynchronized
  subst hsz
  have hD := hD0.self (sz := s.heap.size)
  generalize hAe : va_A (WMod z a1 m1) s.heap.size = A at hD hT ⊢
  have hA : ∀ q : Nat, s.heap.size ≤ q → A q := fun q h => by rw [← hAe]; exact Or.inr h
  have hS : va_S A s.heap s.heap [] := va_S.rf
  have hl := lv_entry ([.ref (a1 0), .ref (a1 3)] : List Value) (n := 3) (Nat.le_of_ble_eq_true rfl)
  rw [lg_entry_eq]
  generalize (lg_sl ([.ref (a1 0), .ref (a1 3)] : List Value) ++ List.replicate (3 - (lg_sl ([.ref (a1 0), .ref (a1 3)] : List Value)).length) Slot.unset).toArray = ls at hl ⊢
  have hl : lv_has ls 3 [(0, .ref (a1 0)), (1, .ref (a1 3))] := hl
  unfold pX7_passes_3 at hf
  refine lv_iconst (v := 0) hx hb dX7_passes_0 (by decide) ?_
  refine lv_istore_n (lv' := [(2, .int 0), (0, .ref (a1 0)), (1, .ref (a1 3))]) hx hb dX7_passes_1 rfl hl (by decide) rfl (fun ls hl => ?_)
  obtain ⟨F3, eF3, hf⟩ := zl2_use hf
  have L2_F3 : ∀ (n : Nat) (x1 : Int32) (y2 : Mem) (H : Heap) (locs : List Loc), va_P D vwCl (WMod z a1 y2) H → va_D A (WMod z a1 y2) → va_S A s.heap H locs → ∀ (ls : Array Slot), lv_has ls 3 [(0, .ref (a1 0)), (1, .ref (a1 3)), (2, .int x1)] → zl2 F3 n x1 y2 = some m1' → GV p l e (headSpec wsX7_passes ({ frames := 0, cells := 0, slots := 0, locals := 0 } : Room)).room s m ([.ref (a1 0), .ref (a1 3)] : List Value).toArray below meth c A D z (WMod z a1 m1') H locs (F0 m 2 ls []) := by
    intro n
    induction n with
    | zero =>
      intro x1 y2 H locs hP hD hS ls hl hf
      exact no_none hf
    | succ n ih5 =>
      intro x1 y2 H locs hP hD hS ls hl hf
      have hf := zl2_s eF3 hf
      refine lv_iload_n hx hb dX7_passes_2 rfl (lv_at hl 2 rfl) ?_
      refine lv_aload_n hx hb dX7_passes_3 rfl (lv_at hl 1 rfl) ?_
      refine z_alen hx hb hK hP 3 0 rfl rfl (v := 8) rfl dX7_passes_4 ?_
      refine lv_icmp_ge (tgt := 58) hx hb dX7_passes_5 (by decide) (fun c6 => ?_) (fun c6 => ?_)
      · have hf := if_t c6 hf
        obtain rfl := so1 hf
        exact ret_v hx hb hr hlocks hK hP hD hS dX7_passes_58
      · have hf := if_f c6 hf
        refine lv_aload_n hx hb dX7_passes_8 rfl (lv_at hl 0 rfl) ?_
        refine va_get (D := D) (ci := 7) (v := .int (y2 0 28)) (C := RX7) (T := TX7) (N := 33) hx hb hts iX7 hown hK hP 0 rfl rfl 28 (by decide) (hts _ aw764) (fun _ h9 => h9) rfl dX7_passes_9 ?_
        refine lv_if_eq (tgt := 30) hx hb dX7_passes_12 (by decide) (fun c7 => ?_) (fun c7 => ?_)
        · have hf := if_t c7 hf
          refine lv_aload_n hx hb dX7_passes_30 rfl (lv_at hl 1 rfl) ?_
          refine lv_iload_n hx hb dX7_passes_31 rfl (lv_at hl 2 rfl) ?_
          refine lv_aload_n hx hb dX7_passes_32 rfl (lv_at hl 0 rfl) ?_
          refine va_get (D := D) (ci := 7) (v := .ref (a1 20)) (C := RX7) (T := TX7) (N := 33) hx hb hts iX7 hown hK hP 0 rfl rfl 26 (by decide) (hts _ aw762) (fun _ h9 => h9) rfl dX7_passes_33 ?_
          refine lv_aload_n hx hb dX7_passes_36 rfl (lv_at hl 0 rfl) ?_
          refine va_get (D := D) (ci := 7) (v := .int (y2 0 29)) (C := RX7) (T := TX7) (N := 33) hx hb hts iX7 hown hK hP 0 rfl rfl 29 (by decide) (hts _ aw765) (fun _ h9 => h9) rfl dX7_passes_37 ?_
          obtain ⟨h8, hf⟩ := ck_use hf
          refine z_iald hx hb hK hP 20 rfl h8 dX7_passes_40 ?_
          obtain ⟨h10, hf⟩ := ck_use hf
          refine z_iast hx hb hK hP hD hS 3 rfl h10 dX7_passes_41 (fun (w9 : Mem) => (WMod z a1 w9)) (up2 y2 3 x1.toNatClampNeg (y2 20 (y2 0 29).toNatClampNeg)) rfl (fun y9 ey9 H locs hP hD hS => ?_)
          have hf := lt_use ey9 hf
          refine lv_aload_n hx hb dX7_passes_42 rfl (lv_at hl 0 rfl) ?_
          refine lv_dup hx hb dX7_passes_43 rfl ?_
          refine va_get (D := D) (ci := 7) (v := .int (y9 0 29)) (C := RX7) (T := TX7) (N := 33) hx hb hts iX7 hown hK hP 0 rfl rfl 29 (by decide) (hts _ aw765) (fun _ h9 => h9) rfl dX7_passes_44 ?_
          refine lv_iconst (v := 1) hx hb dX7_passes_47 (by decide) ?_
          refine lv_iadd hx hb dX7_passes_48 ?_
          refine z_put (ci := 7) (v := .int ((y9 0 29) + 1)) (ty := .int) (C := RX7) (T := TX7) (N := 33) hx hb hts iX7 tyX7 tyX7_ok nmX7 hown hK hP hD hS 0 rfl rfl 29 (by decide) (hts _ aw765) (fun _ h9 => h9) rfl (by decide +kernel) rfl rfl (Nat.le_of_ble_eq_true rfl) dX7_passes_49 (fun (w9 : Mem) => (WMod z a1 w9)) (up2 y9 0 29 ((y9 0 29) + 1)) rfl (fun y11 ey11 H locs hP hD hS => ?_)
          have hf := lt_use ey11 hf
          obtain ⟨x12, ex12⟩ : ∃ y : Int32, y = x1 + 1 := ⟨_, rfl⟩
          have hf := lt_use ex12 hf
          refine lv_iinc (v := x12) (lv' := [(2, .int x12), (0, .ref (a1 0)), (1, .ref (a1 3))]) hx hb dX7_passes_52 hl (k := 2) rfl (by rw [ex12]; rfl) (by decide) rfl (fun ls hl => ?_)
          refine lv_goto (tgt := 2) hx hb dX7_passes_55 (by decide) ?_
          exact ih5 _ _ _ _ hP hD hS _ (lv_sub hl [1, 2, 0] rfl) hf
        · have hf := if_f c7 hf
          refine lv_aload_n hx hb dX7_passes_15 rfl (lv_at hl 0 rfl) ?_
          refine va_get (D := D) (ci := 7) (v := .ref (a1 20)) (C := RX7) (T := TX7) (N := 33) hx hb hts iX7 hown hK hP 0 rfl rfl 26 (by decide) (hts _ aw762) (fun _ h9 => h9) rfl dX7_passes_16 ?_
          refine lv_aload_n hx hb dX7_passes_19 rfl (lv_at hl 0 rfl) ?_
          refine va_get (D := D) (ci := 7) (v := .int (y2 0 29)) (C := RX7) (T := TX7) (N := 33) hx hb hts iX7 hown hK hP 0 rfl rfl 29 (by decide) (hts _ aw765) (fun _ h9 => h9) rfl dX7_passes_20 ?_
          refine lv_aload_n hx hb dX7_passes_23 rfl (lv_at hl 1 rfl) ?_
          refine lv_iload_n hx hb dX7_passes_24 rfl (lv_at hl 2 rfl) ?_
          obtain ⟨h13, hf⟩ := ck_use hf
          refine z_iald hx hb hK hP 3 rfl h13 dX7_passes_25 ?_
          obtain ⟨h15, hf⟩ := ck_use hf
          refine z_iast hx hb hK hP hD hS 20 rfl h15 dX7_passes_26 (fun (w9 : Mem) => (WMod z a1 w9)) (up2 y2 20 (y2 0 29).toNatClampNeg (y2 3 x1.toNatClampNeg)) rfl (fun y14 ey14 H locs hP hD hS => ?_)
          have hf := lt_use ey14 hf
          refine lv_goto (tgt := 42) hx hb dX7_passes_27 (by decide) ?_
          refine lv_aload_n hx hb dX7_passes_42 rfl (lv_at hl 0 rfl) ?_
          refine lv_dup hx hb dX7_passes_43 rfl ?_
          refine va_get (D := D) (ci := 7) (v := .int (y14 0 29)) (C := RX7) (T := TX7) (N := 33) hx hb hts iX7 hown hK hP 0 rfl rfl 29 (by decide) (hts _ aw765) (fun _ h9 => h9) rfl dX7_passes_44 ?_
          refine lv_iconst (v := 1) hx hb dX7_passes_47 (by decide) ?_
          refine lv_iadd hx hb dX7_passes_48 ?_
          refine z_put (ci := 7) (v := .int ((y14 0 29) + 1)) (ty := .int) (C := RX7) (T := TX7) (N := 33) hx hb hts iX7 tyX7 tyX7_ok nmX7 hown hK hP hD hS 0 rfl rfl 29 (by decide) (hts _ aw765) (fun _ h9 => h9) rfl (by decide +kernel) rfl rfl (Nat.le_of_ble_eq_true rfl) dX7_passes_49 (fun (w9 : Mem) => (WMod z a1 w9)) (up2 y14 0 29 ((y14 0 29) + 1)) rfl (fun y16 ey16 H locs hP hD hS => ?_)
          have hf := lt_use ey16 hf
          obtain ⟨x17, ex17⟩ : ∃ y : Int32, y = x1 + 1 := ⟨_, rfl⟩
          have hf := lt_use ex17 hf
          refine lv_iinc (v := x17) (lv' := [(2, .int x17), (0, .ref (a1 0)), (1, .ref (a1 3))]) hx hb dX7_passes_52 hl (k := 2) rfl (by rw [ex17]; rfl) (by decide) rfl (fun ls hl => ?_)
          refine lv_goto (tgt := 2) hx hb dX7_passes_55 (by decide) ?_
          exact ih5 _ _ _ _ hP hD hS _ (lv_sub hl [1, 2, 0] rfl) hf
  exact L2_F3 fu _ _ _ _ hP hD hS _ (lv_sub hl [1, 2, 0] rfl) hf
def pX7_passes_4 (fu : Nat) (m1 : Mem) : Option Mem :=
  zl2 (fun g4 (x1 : Int32) (y2 : Mem) =>
    if 8 ≤ x1 then
      some y2
    else
      if (y2 0 28) = 0 then
        ck (y2 0 29) 300 <|
        ck x1 8 <|
        lt' (up2 y2 4 x1.toNatClampNeg (y2 20 (y2 0 29).toNatClampNeg)) fun y9 =>
        lt' (up2 y9 0 29 ((y9 0 29) + 1)) fun y11 =>
        lt' (x1 + 1) fun x12 =>
        g4 x12 y11
      else
        ck x1 8 <|
        ck (y2 0 29) 300 <|
        lt' (up2 y2 20 (y2 0 29).toNatClampNeg (y2 4 x1.toNatClampNeg)) fun y14 =>
        lt' (up2 y14 0 29 ((y14 0 29) + 1)) fun y16 =>
        lt' (x1 + 1) fun x17 =>
        g4 x17 y16) fu 0 m1
set_option maxHeartbeats 4000000 in
set_option maxRecDepth 100000 in
theorem tX7_passes_4 (l : Launch) (D : va_G) (z tt : Nat → Nat) (a1 : Nat → Nat) (m1 : Mem)  (fu : Nat) (m1' : Mem) (hf : pX7_passes_4 fu m1 = some m1') : MetV l yX7_passes wsX7_passes ({ frames := 0, cells := 0, slots := 0, locals := 0 } : Room) D z tt ([.ref (a1 0), .ref (a1 4)] : List Value) (WMod z a1 m1) (WMod z a1 m1') := by
  intro sz
  refine Met.ofW (cc := cX7_passes) (maxL := 3) (ret := none) (by decide) rfl ?_
  intro p e s m args below meth c s₁ B hml hv
  obtain ⟨rfl, hsz, hP, hK, hD0, hT, hN⟩ := hv
  have hx := B.exec
  have hb := B.bytes
  have hr := B.returns
  have hts : ∀ w ∈ wsA, w.before ([.ref (a1 0), .ref (a1 4)] : List Value).toArray s = true := fun w h => atoms_spec (ws := wsX7_passes) B.pre w (List.mem_cons_of_mem _ h)
  have hown : s.vm.findClass RX7 = some m.cls := findClass_of_methodNamed B.named
  have hlocks := B.notSynchronized
  subst hsz
  have hD := hD0.self (sz := s.heap.size)
  generalize hAe : va_A (WMod z a1 m1) s.heap.size = A at hD hT ⊢
  have hA : ∀ q : Nat, s.heap.size ≤ q → A q := fun q h => by rw [← hAe]; exact Or.inr h
  have hS : va_S A s.heap s.heap [] := va_S.rf
  have hl := lv_entry ([.ref (a1 0), .ref (a1 4)] : List Value) (n := 3) (Nat.le_of_ble_eq_true rfl)
  rw [lg_entry_eq]
  generalize (lg_sl ([.ref (a1 0), .ref (a1 4)] : List Value) ++ List.replicate (3 - (lg_sl ([.ref (a1 0), .ref (a1 4)] : List Value)).length) Slot.unset).toArray = ls at hl ⊢
  have hl : lv_has ls 3 [(0, .ref (a1 0)), (1, .ref (a1 4))] := hl
  unfold pX7_passes_4 at hf
  refine lv_iconst (v := 0) hx hb dX7_passes_0 (by decide) ?_
  refine lv_istore_n (lv' := [(2, .int 0), (0, .ref (a1 0)), (1, .ref (a1 4))]) hx hb dX7_passes_1 rfl hl (by decide) rfl (fun ls hl => ?_)
  obtain ⟨F3, eF3, hf⟩ := zl2_use hf
  have L2_F3 : ∀ (n : Nat) (x1 : Int32) (y2 : Mem) (H : Heap) (locs : List Loc), va_P D vwCl (WMod z a1 y2) H → va_D A (WMod z a1 y2) → va_S A s.heap H locs → ∀ (ls : Array Slot), lv_has ls 3 [(0, .ref (a1 0)), (1, .ref (a1 4)), (2, .int x1)] → zl2 F3 n x1 y2 = some m1' → GV p l e (headSpec wsX7_passes ({ frames := 0, cells := 0, slots := 0, locals := 0 } : Room)).room s m ([.ref (a1 0), .ref (a1 4)] : List Value).toArray below meth c A D z (WMod z a1 m1') H locs (F0 m 2 ls []) := by
    intro n
    induction n with
    | zero =>
      intro x1 y2 H locs hP hD hS ls hl hf
      exact no_none hf
    | succ n ih5 =>
      intro x1 y2 H locs hP hD hS ls hl hf
      have hf := zl2_s eF3 hf
      refine lv_iload_n hx hb dX7_passes_2 rfl (lv_at hl 2 rfl) ?_
      refine lv_aload_n hx hb dX7_passes_3 rfl (lv_at hl 1 rfl) ?_
      refine z_alen hx hb hK hP 4 0 rfl rfl (v := 8) rfl dX7_passes_4 ?_
      refine lv_icmp_ge (tgt := 58) hx hb dX7_passes_5 (by decide) (fun c6 => ?_) (fun c6 => ?_)
      · have hf := if_t c6 hf
        obtain rfl := so1 hf
        exact ret_v hx hb hr hlocks hK hP hD hS dX7_passes_58
      · have hf := if_f c6 hf
        refine lv_aload_n hx hb dX7_passes_8 rfl (lv_at hl 0 rfl) ?_
        refine va_get (D := D) (ci := 7) (v := .int (y2 0 28)) (C := RX7) (T := TX7) (N := 33) hx hb hts iX7 hown hK hP 0 rfl rfl 28 (by decide) (hts _ aw764) (fun _ h9 => h9) rfl dX7_passes_9 ?_
        refine lv_if_eq (tgt := 30) hx hb dX7_passes_12 (by decide) (fun c7 => ?_) (fun c7 => ?_)
        · have hf := if_t c7 hf
          refine lv_aload_n hx hb dX7_passes_30 rfl (lv_at hl 1 rfl) ?_
          refine lv_iload_n hx hb dX7_passes_31 rfl (lv_at hl 2 rfl) ?_
          refine lv_aload_n hx hb dX7_passes_32 rfl (lv_at hl 0 rfl) ?_
          refine va_get (D := D) (ci := 7) (v := .ref (a1 20)) (C := RX7) (T := TX7) (N := 33) hx hb hts iX7 hown hK hP 0 rfl rfl 26 (by decide) (hts _ aw762) (fun _ h9 => h9) rfl dX7_passes_33 ?_
          refine lv_aload_n hx hb dX7_passes_36 rfl (lv_at hl 0 rfl) ?_
          refine va_get (D := D) (ci := 7) (v := .int (y2 0 29)) (C := RX7) (T := TX7) (N := 33) hx hb hts iX7 hown hK hP 0 rfl rfl 29 (by decide) (hts _ aw765) (fun _ h9 => h9) rfl dX7_passes_37 ?_
          obtain ⟨h8, hf⟩ := ck_use hf
          refine z_iald hx hb hK hP 20 rfl h8 dX7_passes_40 ?_
          obtain ⟨h10, hf⟩ := ck_use hf
          refine z_iast hx hb hK hP hD hS 4 rfl h10 dX7_passes_41 (fun (w9 : Mem) => (WMod z a1 w9)) (up2 y2 4 x1.toNatClampNeg (y2 20 (y2 0 29).toNatClampNeg)) rfl (fun y9 ey9 H locs hP hD hS => ?_)
          have hf := lt_use ey9 hf
          refine lv_aload_n hx hb dX7_passes_42 rfl (lv_at hl 0 rfl) ?_
          refine lv_dup hx hb dX7_passes_43 rfl ?_
          refine va_get (D := D) (ci := 7) (v := .int (y9 0 29)) (C := RX7) (T := TX7) (N := 33) hx hb hts iX7 hown hK hP 0 rfl rfl 29 (by decide) (hts _ aw765) (fun _ h9 => h9) rfl dX7_passes_44 ?_
          refine lv_iconst (v := 1) hx hb dX7_passes_47 (by decide) ?_
          refine lv_iadd hx hb dX7_passes_48 ?_
          refine z_put (ci := 7) (v := .int ((y9 0 29) + 1)) (ty := .int) (C := RX7) (T := TX7) (N := 33) hx hb hts iX7 tyX7 tyX7_ok nmX7 hown hK hP hD hS 0 rfl rfl 29 (by decide) (hts _ aw765) (fun _ h9 => h9) rfl (by decide +kernel) rfl rfl (Nat.le_of_ble_eq_true rfl) dX7_passes_49 (fun (w9 : Mem) => (WMod z a1 w9)) (up2 y9 0 29 ((y9 0 29) + 1)) rfl (fun y11 ey11 H locs hP hD hS => ?_)
          have hf := lt_use ey11 hf
          obtain ⟨x12, ex12⟩ : ∃ y : Int32, y = x1 + 1 := ⟨_, rfl⟩
          have hf := lt_use ex12 hf
          refine lv_iinc (v := x12) (lv' := [(2, .int x12), (0, .ref (a1 0)), (1, .ref (a1 4))]) hx hb dX7_passes_52 hl (k := 2) rfl (by rw [ex12]; rfl) (by decide) rfl (fun ls hl => ?_)
          refine lv_goto (tgt := 2) hx hb dX7_passes_55 (by decide) ?_
          exact ih5 _ _ _ _ hP hD hS _ (lv_sub hl [1, 2, 0] rfl) hf
        · have hf := if_f c7 hf
          refine lv_aload_n hx hb dX7_passes_15 rfl (lv_at hl 0 rfl) ?_
          refine va_get (D := D) (ci := 7) (v := .ref (a1 20)) (C := RX7) (T := TX7) (N := 33) hx hb hts iX7 hown hK hP 0 rfl rfl 26 (by decide) (hts _ aw762) (fun _ h9 => h9) rfl dX7_passes_16 ?_
          refine lv_aload_n hx hb dX7_passes_19 rfl (lv_at hl 0 rfl) ?_
          refine va_get (D := D) (ci := 7) (v := .int (y2 0 29)) (C := RX7) (T := TX7) (N := 33) hx hb hts iX7 hown hK hP 0 rfl rfl 29 (by decide) (hts _ aw765) (fun _ h9 => h9) rfl dX7_passes_20 ?_
          refine lv_aload_n hx hb dX7_passes_23 rfl (lv_at hl 1 rfl) ?_
          refine lv_iload_n hx hb dX7_passes_24 rfl (lv_at hl 2 rfl) ?_
          obtain ⟨h13, hf⟩ := ck_use hf
          refine z_iald hx hb hK hP 4 rfl h13 dX7_passes_25 ?_
          obtain ⟨h15, hf⟩ := ck_use hf
          refine z_iast hx hb hK hP hD hS 20 rfl h15 dX7_passes_26 (fun (w9 : Mem) => (WMod z a1 w9)) (up2 y2 20 (y2 0 29).toNatClampNeg (y2 4 x1.toNatClampNeg)) rfl (fun y14 ey14 H locs hP hD hS => ?_)
          have hf := lt_use ey14 hf
          refine lv_goto (tgt := 42) hx hb dX7_passes_27 (by decide) ?_
          refine lv_aload_n hx hb dX7_passes_42 rfl (lv_at hl 0 rfl) ?_
          refine lv_dup hx hb dX7_passes_43 rfl ?_
          refine va_get (D := D) (ci := 7) (v := .int (y14 0 29)) (C := RX7) (T := TX7) (N := 33) hx hb hts iX7 hown hK hP 0 rfl rfl 29 (by decide) (hts _ aw765) (fun _ h9 => h9) rfl dX7_passes_44 ?_
          refine lv_iconst (v := 1) hx hb dX7_passes_47 (by decide) ?_
          refine lv_iadd hx hb dX7_passes_48 ?_
          refine z_put (ci := 7) (v := .int ((y14 0 29) + 1)) (ty := .int) (C := RX7) (T := TX7) (N := 33) hx hb hts iX7 tyX7 tyX7_ok nmX7 hown hK hP hD hS 0 rfl rfl 29 (by decide) (hts _ aw765) (fun _ h9 => h9) rfl (by decide +kernel) rfl rfl (Nat.le_of_ble_eq_true rfl) dX7_passes_49 (fun (w9 : Mem) => (WMod z a1 w9)) (up2 y14 0 29 ((y14 0 29) + 1)) rfl (fun y16 ey16 H locs hP hD hS => ?_)
          have hf := lt_use ey16 hf
          obtain ⟨x17, ex17⟩ : ∃ y : Int32, y = x1 + 1 := ⟨_, rfl⟩
          have hf := lt_use ex17 hf
          refine lv_iinc (v := x17) (lv' := [(2, .int x17), (0, .ref (a1 0)), (1, .ref (a1 4))]) hx hb dX7_passes_52 hl (k := 2) rfl (by rw [ex17]; rfl) (by decide) rfl (fun ls hl => ?_)
          refine lv_goto (tgt := 2) hx hb dX7_passes_55 (by decide) ?_
          exact ih5 _ _ _ _ hP hD hS _ (lv_sub hl [1, 2, 0] rfl) hf
  exact L2_F3 fu _ _ _ _ hP hD hS _ (lv_sub hl [1, 2, 0] rfl) hf
def pX7_passes_5 (fu : Nat) (m1 : Mem) : Option Mem :=
  zl2 (fun g4 (x1 : Int32) (y2 : Mem) =>
    if 8 ≤ x1 then
      some y2
    else
      if (y2 0 28) = 0 then
        ck (y2 0 29) 300 <|
        ck x1 8 <|
        lt' (up2 y2 5 x1.toNatClampNeg (y2 20 (y2 0 29).toNatClampNeg)) fun y9 =>
        lt' (up2 y9 0 29 ((y9 0 29) + 1)) fun y11 =>
        lt' (x1 + 1) fun x12 =>
        g4 x12 y11
      else
        ck x1 8 <|
        ck (y2 0 29) 300 <|
        lt' (up2 y2 20 (y2 0 29).toNatClampNeg (y2 5 x1.toNatClampNeg)) fun y14 =>
        lt' (up2 y14 0 29 ((y14 0 29) + 1)) fun y16 =>
        lt' (x1 + 1) fun x17 =>
        g4 x17 y16) fu 0 m1
set_option maxHeartbeats 4000000 in
set_option maxRecDepth 100000 in
theorem tX7_passes_5 (l : Launch) (D : va_G) (z tt : Nat → Nat) (a1 : Nat → Nat) (m1 : Mem)  (fu : Nat) (m1' : Mem) (hf : pX7_passes_5 fu m1 = some m1') : MetV l yX7_passes wsX7_passes ({ frames := 0, cells := 0, slots := 0, locals := 0 } : Room) D z tt ([.ref (a1 0), .ref (a1 5)] : List Value) (WMod z a1 m1) (WMod z a1 m1') := by
  intro sz
  refine Met.ofW (cc := cX7_passes) (maxL := 3) (ret := none) (by decide) rfl ?_
  intro p e s m args below meth c s₁ B hml hv
  obtain ⟨rfl, hsz, hP, hK, hD0, hT, hN⟩ := hv
  have hx := B.exec
  have hb := B.bytes
  have hr := B.returns
  have hts : ∀ w ∈ wsA, w.before ([.ref (a1 0), .ref (a1 5)] : List Value).toArray s = true := fun w h => atoms_spec (ws := wsX7_passes) B.pre w (List.mem_cons_of_mem _ h)
  have hown : s.vm.findClass RX7 = some m.cls := findClass_of_methodNamed B.named
  have hlocks := B.notSynchronized
  subst hsz
  have hD := hD0.self (sz := s.heap.size)
  generalize hAe : va_A (WMod z a1 m1) s.heap.size = A at hD hT ⊢
  have hA : ∀ q : Nat, s.heap.size ≤ q → A q := fun q h => by rw [← hAe]; exact Or.inr h
  have hS : va_S A s.heap s.heap [] := va_S.rf
  have hl := lv_entry ([.ref (a1 0), .ref (a1 5)] : List Value) (n := 3) (Nat.le_of_ble_eq_true rfl)
  rw [lg_entry_eq]
  generalize (lg_sl ([.ref (a1 0), .ref (a1 5)] : List Value) ++ List.replicate (3 - (lg_sl ([.ref (a1 0), .ref (a1 5)] : List Value)).length) Slot.unset).toArray = ls at hl ⊢
  have hl : lv_has ls 3 [(0, .ref (a1 0)), (1, .ref (a1 5))] := hl
  unfold pX7_passes_5 at hf
  refine lv_iconst (v := 0) hx hb dX7_passes_0 (by decide) ?_
  refine lv_istore_n (lv' := [(2, .int 0), (0, .ref (a1 0)), (1, .ref (a1 5))]) hx hb dX7_passes_1 rfl hl (by decide) rfl (fun ls hl => ?_)
  obtain ⟨F3, eF3, hf⟩ := zl2_use hf
  have L2_F3 : ∀ (n : Nat) (x1 : Int32) (y2 : Mem) (H : Heap) (locs : List Loc), va_P D vwCl (WMod z a1 y2) H → va_D A (WMod z a1 y2) → va_S A s.heap H locs → ∀ (ls : Array Slot), lv_has ls 3 [(0, .ref (a1 0)), (1, .ref (a1 5)), (2, .int x1)] → zl2 F3 n x1 y2 = some m1' → GV p l e (headSpec wsX7_passes ({ frames := 0, cells := 0, slots := 0, locals := 0 } : Room)).room s m ([.ref (a1 0), .ref (a1 5)] : List Value).toArray below meth c A D z (WMod z a1 m1') H locs (F0 m 2 ls []) := by
    intro n
    induction n with
    | zero =>
      intro x1 y2 H locs hP hD hS ls hl hf
      exact no_none hf
    | succ n ih5 =>
      intro x1 y2 H locs hP hD hS ls hl hf
      have hf := zl2_s eF3 hf
      refine lv_iload_n hx hb dX7_passes_2 rfl (lv_at hl 2 rfl) ?_
      refine lv_aload_n hx hb dX7_passes_3 rfl (lv_at hl 1 rfl) ?_
      refine z_alen hx hb hK hP 5 0 rfl rfl (v := 8) rfl dX7_passes_4 ?_
      refine lv_icmp_ge (tgt := 58) hx hb dX7_passes_5 (by decide) (fun c6 => ?_) (fun c6 => ?_)
      · have hf := if_t c6 hf
        obtain rfl := so1 hf
        exact ret_v hx hb hr hlocks hK hP hD hS dX7_passes_58
      · have hf := if_f c6 hf
        refine lv_aload_n hx hb dX7_passes_8 rfl (lv_at hl 0 rfl) ?_
        refine va_get (D := D) (ci := 7) (v := .int (y2 0 28)) (C := RX7) (T := TX7) (N := 33) hx hb hts iX7 hown hK hP 0 rfl rfl 28 (by decide) (hts _ aw764) (fun _ h9 => h9) rfl dX7_passes_9 ?_
        refine lv_if_eq (tgt := 30) hx hb dX7_passes_12 (by decide) (fun c7 => ?_) (fun c7 => ?_)
        · have hf := if_t c7 hf
          refine lv_aload_n hx hb dX7_passes_30 rfl (lv_at hl 1 rfl) ?_
          refine lv_iload_n hx hb dX7_passes_31 rfl (lv_at hl 2 rfl) ?_
          refine lv_aload_n hx hb dX7_passes_32 rfl (lv_at hl 0 rfl) ?_
          refine va_get (D := D) (ci := 7) (v := .ref (a1 20)) (C := RX7) (T := TX7) (N := 33) hx hb hts iX7 hown hK hP 0 rfl rfl 26 (by decide) (hts _ aw762) (fun _ h9 => h9) rfl dX7_passes_33 ?_
          refine lv_aload_n hx hb dX7_passes_36 rfl (lv_at hl 0 rfl) ?_
          refine va_get (D := D) (ci := 7) (v := .int (y2 0 29)) (C := RX7) (T := TX7) (N := 33) hx hb hts iX7 hown hK hP 0 rfl rfl 29 (by decide) (hts _ aw765) (fun _ h9 => h9) rfl dX7_passes_37 ?_
          obtain ⟨h8, hf⟩ := ck_use hf
          refine z_iald hx hb hK hP 20 rfl h8 dX7_passes_40 ?_
          obtain ⟨h10, hf⟩ := ck_use hf
          refine z_iast hx hb hK hP hD hS 5 rfl h10 dX7_passes_41 (fun (w9 : Mem) => (WMod z a1 w9)) (up2 y2 5 x1.toNatClampNeg (y2 20 (y2 0 29).toNatClampNeg)) rfl (fun y9 ey9 H locs hP hD hS => ?_)
          have hf := lt_use ey9 hf
          refine lv_aload_n hx hb dX7_passes_42 rfl (lv_at hl 0 rfl) ?_
          refine lv_dup hx hb dX7_passes_43 rfl ?_
          refine va_get (D := D) (ci := 7) (v := .int (y9 0 29)) (C := RX7) (T := TX7) (N := 33) hx hb hts iX7 hown hK hP 0 rfl rfl 29 (by decide) (hts _ aw765) (fun _ h9 => h9) rfl dX7_passes_44 ?_
          refine lv_iconst (v := 1) hx hb dX7_passes_47 (by decide) ?_
          refine lv_iadd hx hb dX7_passes_48 ?_
          refine z_put (ci := 7) (v := .int ((y9 0 29) + 1)) (ty := .int) (C := RX7) (T := TX7) (N := 33) hx hb hts iX7 tyX7 tyX7_ok nmX7 hown hK hP hD hS 0 rfl rfl 29 (by decide) (hts _ aw765) (fun _ h9 => h9) rfl (by decide +kernel) rfl rfl (Nat.le_of_ble_eq_true rfl) dX7_passes_49 (fun (w9 : Mem) => (WMod z a1 w9)) (up2 y9 0 29 ((y9 0 29) + 1)) rfl (fun y11 ey11 H locs hP hD hS => ?_)
          have hf := lt_use ey11 hf
          obtain ⟨x12, ex12⟩ : ∃ y : Int32, y = x1 + 1 := ⟨_, rfl⟩
          have hf := lt_use ex12 hf
          refine lv_iinc (v := x12) (lv' := [(2, .int x12), (0, .ref (a1 0)), (1, .ref (a1 5))]) hx hb dX7_passes_52 hl (k := 2) rfl (by rw [ex12]; rfl) (by decide) rfl (fun ls hl => ?_)
          refine lv_goto (tgt := 2) hx hb dX7_passes_55 (by decide) ?_
          exact ih5 _ _ _ _ hP hD hS _ (lv_sub hl [1, 2, 0] rfl) hf
        · have hf := if_f c7 hf
          refine lv_aload_n hx hb dX7_passes_15 rfl (lv_at hl 0 rfl) ?_
          refine va_get (D := D) (ci := 7) (v := .ref (a1 20)) (C := RX7) (T := TX7) (N := 33) hx hb hts iX7 hown hK hP 0 rfl rfl 26 (by decide) (hts _ aw762) (fun _ h9 => h9) rfl dX7_passes_16 ?_
          refine lv_aload_n hx hb dX7_passes_19 rfl (lv_at hl 0 rfl) ?_
          refine va_get (D := D) (ci := 7) (v := .int (y2 0 29)) (C := RX7) (T := TX7) (N := 33) hx hb hts iX7 hown hK hP 0 rfl rfl 29 (by decide) (hts _ aw765) (fun _ h9 => h9) rfl dX7_passes_20 ?_
          refine lv_aload_n hx hb dX7_passes_23 rfl (lv_at hl 1 rfl) ?_
          refine lv_iload_n hx hb dX7_passes_24 rfl (lv_at hl 2 rfl) ?_
          obtain ⟨h13, hf⟩ := ck_use hf
          refine z_iald hx hb hK hP 5 rfl h13 dX7_passes_25 ?_
          obtain ⟨h15, hf⟩ := ck_use hf
          refine z_iast hx hb hK hP hD hS 20 rfl h15 dX7_passes_26 (fun (w9 : Mem) => (WMod z a1 w9)) (up2 y2 20 (y2 0 29).toNatClampNeg (y2 5 x1.toNatClampNeg)) rfl (fun y14 ey14 H locs hP hD hS => ?_)
          have hf := lt_use ey14 hf
          refine lv_goto (tgt := 42) hx hb dX7_passes_27 (by decide) ?_
          refine lv_aload_n hx hb dX7_passes_42 rfl (lv_at hl 0 rfl) ?_
          refine lv_dup hx hb dX7_passes_43 rfl ?_
          refine va_get (D := D) (ci := 7) (v := .int (y14 0 29)) (C := RX7) (T := TX7) (N := 33) hx hb hts iX7 hown hK hP 0 rfl rfl 29 (by decide) (hts _ aw765) (fun _ h9 => h9) rfl dX7_passes_44 ?_
          refine lv_iconst (v := 1) hx hb dX7_passes_47 (by decide) ?_
          refine lv_iadd hx hb dX7_passes_48 ?_
          refine z_put (ci := 7) (v := .int ((y14 0 29) + 1)) (ty := .int) (C := RX7) (T := TX7) (N := 33) hx hb hts iX7 tyX7 tyX7_ok nmX7 hown hK hP hD hS 0 rfl rfl 29 (by decide) (hts _ aw765) (fun _ h9 => h9) rfl (by decide +kernel) rfl rfl (Nat.le_of_ble_eq_true rfl) dX7_passes_49 (fun (w9 : Mem) => (WMod z a1 w9)) (up2 y14 0 29 ((y14 0 29) + 1)) rfl (fun y16 ey16 H locs hP hD hS => ?_)
          have hf := lt_use ey16 hf
          obtain ⟨x17, ex17⟩ : ∃ y : Int32, y = x1 + 1 := ⟨_, rfl⟩
          have hf := lt_use ex17 hf
          refine lv_iinc (v := x17) (lv' := [(2, .int x17), (0, .ref (a1 0)), (1, .ref (a1 5))]) hx hb dX7_passes_52 hl (k := 2) rfl (by rw [ex17]; rfl) (by decide) rfl (fun ls hl => ?_)
          refine lv_goto (tgt := 2) hx hb dX7_passes_55 (by decide) ?_
          exact ih5 _ _ _ _ hP hD hS _ (lv_sub hl [1, 2, 0] rfl) hf
  exact L2_F3 fu _ _ _ _ hP hD hS _ (lv_sub hl [1, 2, 0] rfl) hf
def pX7_passes_6 (fu : Nat) (m1 : Mem) : Option Mem :=
  zl2 (fun g4 (x1 : Int32) (y2 : Mem) =>
    if 8 ≤ x1 then
      some y2
    else
      if (y2 0 28) = 0 then
        ck (y2 0 29) 300 <|
        ck x1 8 <|
        lt' (up2 y2 6 x1.toNatClampNeg (y2 20 (y2 0 29).toNatClampNeg)) fun y9 =>
        lt' (up2 y9 0 29 ((y9 0 29) + 1)) fun y11 =>
        lt' (x1 + 1) fun x12 =>
        g4 x12 y11
      else
        ck x1 8 <|
        ck (y2 0 29) 300 <|
        lt' (up2 y2 20 (y2 0 29).toNatClampNeg (y2 6 x1.toNatClampNeg)) fun y14 =>
        lt' (up2 y14 0 29 ((y14 0 29) + 1)) fun y16 =>
        lt' (x1 + 1) fun x17 =>
        g4 x17 y16) fu 0 m1
set_option maxHeartbeats 4000000 in
set_option maxRecDepth 100000 in
theorem tX7_passes_6 (l : Launch) (D : va_G) (z tt : Nat → Nat) (a1 : Nat → Nat) (m1 : Mem)  (fu : Nat) (m1' : Mem) (hf : pX7_passes_6 fu m1 = some m1') : MetV l yX7_passes wsX7_passes ({ frames := 0, cells := 0, slots := 0, locals := 0 } : Room) D z tt ([.ref (a1 0), .ref (a1 6)] : List Value) (WMod z a1 m1) (WMod z a1 m1') := by
  intro sz
  refine Met.ofW (cc := cX7_passes) (maxL := 3) (ret := none) (by decide) rfl ?_
  intro p e s m args below meth c s₁ B hml hv
  obtain ⟨rfl, hsz, hP, hK, hD0, hT, hN⟩ := hv
  have hx := B.exec
  have hb := B.bytes
  have hr := B.returns
  have hts : ∀ w ∈ wsA, w.before ([.ref (a1 0), .ref (a1 6)] : List Value).toArray s = true := fun w h => atoms_spec (ws := wsX7_passes) B.pre w (List.mem_cons_of_mem _ h)
  have hown : s.vm.findClass RX7 = some m.cls := findClass_of_methodNamed B.named
  have hlocks := B.notSynchronized
  subst hsz
  have hD := hD0.self (sz := s.heap.size)
  generalize hAe : va_A (WMod z a1 m1) s.heap.size = A at hD hT ⊢
  have hA : ∀ q : Nat, s.heap.size ≤ q → A q := fun q h => by rw [← hAe]; exact Or.inr h
  have hS : va_S A s.heap s.heap [] := va_S.rf
  have hl := lv_entry ([.ref (a1 0), .ref (a1 6)] : List Value) (n := 3) (Nat.le_of_ble_eq_true rfl)
  rw [lg_entry_eq]
  generalize (lg_sl ([.ref (a1 0), .ref (a1 6)] : List Value) ++ List.replicate (3 - (lg_sl ([.ref (a1 0), .ref (a1 6)] : List Value)).length) Slot.unset).toArray = ls at hl ⊢
  have hl : lv_has ls 3 [(0, .ref (a1 0)), (1, .ref (a1 6))] := hl
  unfold pX7_passes_6 at hf
  refine lv_iconst (v := 0) hx hb dX7_passes_0 (by decide) ?_
  refine lv_istore_n (lv' := [(2, .int 0), (0, .ref (a1 0)), (1, .ref (a1 6))]) hx hb dX7_passes_1 rfl hl (by decide) rfl (fun ls hl => ?_)
  obtain ⟨F3, eF3, hf⟩ := zl2_use hf
  have L2_F3 : ∀ (n : Nat) (x1 : Int32) (y2 : Mem) (H : Heap) (locs : List Loc), va_P D vwCl (WMod z a1 y2) H → va_D A (WMod z a1 y2) → va_S A s.heap H locs → ∀ (ls : Array Slot), lv_has ls 3 [(0, .ref (a1 0)), (1, .ref (a1 6)), (2, .int x1)] → zl2 F3 n x1 y2 = some m1' → GV p l e (headSpec wsX7_passes ({ frames := 0, cells := 0, slots := 0, locals := 0 } : Room)).room s m ([.ref (a1 0), .ref (a1 6)] : List Value).toArray below meth c A D z (WMod z a1 m1') H locs (F0 m 2 ls []) := by
    intro n
    induction n with
    | zero =>
      intro x1 y2 H locs hP hD hS ls hl hf
      exact no_none hf
    | succ n ih5 =>
      intro x1 y2 H locs hP hD hS ls hl hf
      have hf := zl2_s eF3 hf
      refine lv_iload_n hx hb dX7_passes_2 rfl (lv_at hl 2 rfl) ?_
      refine lv_aload_n hx hb dX7_passes_3 rfl (lv_at hl 1 rfl) ?_
      refine z_alen hx hb hK hP 6 0 rfl rfl (v := 8) rfl dX7_passes_4 ?_
      refine lv_icmp_ge (tgt := 58) hx hb dX7_passes_5 (by decide) (fun c6 => ?_) (fun c6 => ?_)
      · have hf := if_t c6 hf
        obtain rfl := so1 hf
        exact ret_v hx hb hr hlocks hK hP hD hS dX7_passes_58
      · have hf := if_f c6 hf
        refine lv_aload_n hx hb dX7_passes_8 rfl (lv_at hl 0 rfl) ?_
        refine va_get (D := D) (ci := 7) (v := .int (y2 0 28)) (C := RX7) (T := TX7) (N := 33) hx hb hts iX7 hown hK hP 0 rfl rfl 28 (by decide) (hts _ aw764) (fun _ h9 => h9) rfl dX7_passes_9 ?_
        refine lv_if_eq (tgt := 30) hx hb dX7_passes_12 (by decide) (fun c7 => ?_) (fun c7 => ?_)
        · have hf := if_t c7 hf
          refine lv_aload_n hx hb dX7_passes_30 rfl (lv_at hl 1 rfl) ?_
          refine lv_iload_n hx hb dX7_passes_31 rfl (lv_at hl 2 rfl) ?_
          refine lv_aload_n hx hb dX7_passes_32 rfl (lv_at hl 0 rfl) ?_
          refine va_get (D := D) (ci := 7) (v := .ref (a1 20)) (C := RX7) (T := TX7) (N := 33) hx hb hts iX7 hown hK hP 0 rfl rfl 26 (by decide) (hts _ aw762) (fun _ h9 => h9) rfl dX7_passes_33 ?_
          refine lv_aload_n hx hb dX7_passes_36 rfl (lv_at hl 0 rfl) ?_
          refine va_get (D := D) (ci := 7) (v := .int (y2 0 29)) (C := RX7) (T := TX7) (N := 33) hx hb hts iX7 hown hK hP 0 rfl rfl 29 (by decide) (hts _ aw765) (fun _ h9 => h9) rfl dX7_passes_37 ?_
          obtain ⟨h8, hf⟩ := ck_use hf
          refine z_iald hx hb hK hP 20 rfl h8 dX7_passes_40 ?_
          obtain ⟨h10, hf⟩ := ck_use hf
          refine z_iast hx hb hK hP hD hS 6 rfl h10 dX7_passes_41 (fun (w9 : Mem) => (WMod z a1 w9)) (up2 y2 6 x1.toNatClampNeg (y2 20 (y2 0 29).toNatClampNeg)) rfl (fun y9 ey9 H locs hP hD hS => ?_)
          have hf := lt_use ey9 hf
          refine lv_aload_n hx hb dX7_passes_42 rfl (lv_at hl 0 rfl) ?_
          refine lv_dup hx hb dX7_passes_43 rfl ?_
          refine va_get (D := D) (ci := 7) (v := .int (y9 0 29)) (C := RX7) (T := TX7) (N := 33) hx hb hts iX7 hown hK hP 0 rfl rfl 29 (by decide) (hts _ aw765) (fun _ h9 => h9) rfl dX7_passes_44 ?_
          refine lv_iconst (v := 1) hx hb dX7_passes_47 (by decide) ?_
          refine lv_iadd hx hb dX7_passes_48 ?_
          refine z_put (ci := 7) (v := .int ((y9 0 29) + 1)) (ty := .int) (C := RX7) (T := TX7) (N := 33) hx hb hts iX7 tyX7 tyX7_ok nmX7 hown hK hP hD hS 0 rfl rfl 29 (by decide) (hts _ aw765) (fun _ h9 => h9) rfl (by decide +kernel) rfl rfl (Nat.le_of_ble_eq_true rfl) dX7_passes_49 (fun (w9 : Mem) => (WMod z a1 w9)) (up2 y9 0 29 ((y9 0 29) + 1)) rfl (fun y11 ey11 H locs hP hD hS => ?_)
          have hf := lt_use ey11 hf
          obtain ⟨x12, ex12⟩ : ∃ y : Int32, y = x1 + 1 := ⟨_, rfl⟩
          have hf := lt_use ex12 hf
          refine lv_iinc (v := x12) (lv' := [(2, .int x12), (0, .ref (a1 0)), (1, .ref (a1 6))]) hx hb dX7_passes_52 hl (k := 2) rfl (by rw [ex12]; rfl) (by decide) rfl (fun ls hl => ?_)
          refine lv_goto (tgt := 2) hx hb dX7_passes_55 (by decide) ?_
          exact ih5 _ _ _ _ hP hD hS _ (lv_sub hl [1, 2, 0] rfl) hf
        · have hf := if_f c7 hf
          refine lv_aload_n hx hb dX7_passes_15 rfl (lv_at hl 0 rfl) ?_
          refine va_get (D := D) (ci := 7) (v := .ref (a1 20)) (C := RX7) (T := TX7) (N := 33) hx hb hts iX7 hown hK hP 0 rfl rfl 26 (by decide) (hts _ aw762) (fun _ h9 => h9) rfl dX7_passes_16 ?_
          refine lv_aload_n hx hb dX7_passes_19 rfl (lv_at hl 0 rfl) ?_
          refine va_get (D := D) (ci := 7) (v := .int (y2 0 29)) (C := RX7) (T := TX7) (N := 33) hx hb hts iX7 hown hK hP 0 rfl rfl 29 (by decide) (hts _ aw765) (fun _ h9 => h9) rfl dX7_passes_20 ?_
          refine lv_aload_n hx hb dX7_passes_23 rfl (lv_at hl 1 rfl) ?_
          refine lv_iload_n hx hb dX7_passes_24 rfl (lv_at hl 2 rfl) ?_
          obtain ⟨h13, hf⟩ := ck_use hf
          refine z_iald hx hb hK hP 6 rfl h13 dX7_passes_25 ?_
          obtain ⟨h15, hf⟩ := ck_use hf
          refine z_iast hx hb hK hP hD hS 20 rfl h15 dX7_passes_26 (fun (w9 : Mem) => (WMod z a1 w9)) (up2 y2 20 (y2 0 29).toNatClampNeg (y2 6 x1.toNatClampNeg)) rfl (fun y14 ey14 H locs hP hD hS => ?_)
          have hf := lt_use ey14 hf
          refine lv_goto (tgt := 42) hx hb dX7_passes_27 (by decide) ?_
          refine lv_aload_n hx hb dX7_passes_42 rfl (lv_at hl 0 rfl) ?_
          refine lv_dup hx hb dX7_passes_43 rfl ?_
          refine va_get (D := D) (ci := 7) (v := .int (y14 0 29)) (C := RX7) (T := TX7) (N := 33) hx hb hts iX7 hown hK hP 0 rfl rfl 29 (by decide) (hts _ aw765) (fun _ h9 => h9) rfl dX7_passes_44 ?_
          refine lv_iconst (v := 1) hx hb dX7_passes_47 (by decide) ?_
          refine lv_iadd hx hb dX7_passes_48 ?_
          refine z_put (ci := 7) (v := .int ((y14 0 29) + 1)) (ty := .int) (C := RX7) (T := TX7) (N := 33) hx hb hts iX7 tyX7 tyX7_ok nmX7 hown hK hP hD hS 0 rfl rfl 29 (by decide) (hts _ aw765) (fun _ h9 => h9) rfl (by decide +kernel) rfl rfl (Nat.le_of_ble_eq_true rfl) dX7_passes_49 (fun (w9 : Mem) => (WMod z a1 w9)) (up2 y14 0 29 ((y14 0 29) + 1)) rfl (fun y16 ey16 H locs hP hD hS => ?_)
          have hf := lt_use ey16 hf
          obtain ⟨x17, ex17⟩ : ∃ y : Int32, y = x1 + 1 := ⟨_, rfl⟩
          have hf := lt_use ex17 hf
          refine lv_iinc (v := x17) (lv' := [(2, .int x17), (0, .ref (a1 0)), (1, .ref (a1 6))]) hx hb dX7_passes_52 hl (k := 2) rfl (by rw [ex17]; rfl) (by decide) rfl (fun ls hl => ?_)
          refine lv_goto (tgt := 2) hx hb dX7_passes_55 (by decide) ?_
          exact ih5 _ _ _ _ hP hD hS _ (lv_sub hl [1, 2, 0] rfl) hf
  exact L2_F3 fu _ _ _ _ hP hD hS _ (lv_sub hl [1, 2, 0] rfl) hf
def pX7_passes_7 (fu : Nat) (m1 : Mem) : Option Mem :=
  zl2 (fun g4 (x1 : Int32) (y2 : Mem) =>
    if 8 ≤ x1 then
      some y2
    else
      if (y2 0 28) = 0 then
        ck (y2 0 29) 300 <|
        ck x1 8 <|
        lt' (up2 y2 7 x1.toNatClampNeg (y2 20 (y2 0 29).toNatClampNeg)) fun y9 =>
        lt' (up2 y9 0 29 ((y9 0 29) + 1)) fun y11 =>
        lt' (x1 + 1) fun x12 =>
        g4 x12 y11
      else
        ck x1 8 <|
        ck (y2 0 29) 300 <|
        lt' (up2 y2 20 (y2 0 29).toNatClampNeg (y2 7 x1.toNatClampNeg)) fun y14 =>
        lt' (up2 y14 0 29 ((y14 0 29) + 1)) fun y16 =>
        lt' (x1 + 1) fun x17 =>
        g4 x17 y16) fu 0 m1
set_option maxHeartbeats 4000000 in
set_option maxRecDepth 100000 in
theorem tX7_passes_7 (l : Launch) (D : va_G) (z tt : Nat → Nat) (a1 : Nat → Nat) (m1 : Mem)  (fu : Nat) (m1' : Mem) (hf : pX7_passes_7 fu m1 = some m1') : MetV l yX7_passes wsX7_passes ({ frames := 0, cells := 0, slots := 0, locals := 0 } : Room) D z tt ([.ref (a1 0), .ref (a1 7)] : List Value) (WMod z a1 m1) (WMod z a1 m1') := by
  intro sz
  refine Met.ofW (cc := cX7_passes) (maxL := 3) (ret := none) (by decide) rfl ?_
  intro p e s m args below meth c s₁ B hml hv
  obtain ⟨rfl, hsz, hP, hK, hD0, hT, hN⟩ := hv
  have hx := B.exec
  have hb := B.bytes
  have hr := B.returns
  have hts : ∀ w ∈ wsA, w.before ([.ref (a1 0), .ref (a1 7)] : List Value).toArray s = true := fun w h => atoms_spec (ws := wsX7_passes) B.pre w (List.mem_cons_of_mem _ h)
  have hown : s.vm.findClass RX7 = some m.cls := findClass_of_methodNamed B.named
  have hlocks := B.notSynchronized
  subst hsz
  have hD := hD0.self (sz := s.heap.size)
  generalize hAe : va_A (WMod z a1 m1) s.heap.size = A at hD hT ⊢
  have hA : ∀ q : Nat, s.heap.size ≤ q → A q := fun q h => by rw [← hAe]; exact Or.inr h
  have hS : va_S A s.heap s.heap [] := va_S.rf
  have hl := lv_entry ([.ref (a1 0), .ref (a1 7)] : List Value) (n := 3) (Nat.le_of_ble_eq_true rfl)
  rw [lg_entry_eq]
  generalize (lg_sl ([.ref (a1 0), .ref (a1 7)] : List Value) ++ List.replicate (3 - (lg_sl ([.ref (a1 0), .ref (a1 7)] : List Value)).length) Slot.unset).toArray = ls at hl ⊢
  have hl : lv_has ls 3 [(0, .ref (a1 0)), (1, .ref (a1 7))] := hl
  unfold pX7_passes_7 at hf
  refine lv_iconst (v := 0) hx hb dX7_passes_0 (by decide) ?_
  refine lv_istore_n (lv' := [(2, .int 0), (0, .ref (a1 0)), (1, .ref (a1 7))]) hx hb dX7_passes_1 rfl hl (by decide) rfl (fun ls hl => ?_)
  obtain ⟨F3, eF3, hf⟩ := zl2_use hf
  have L2_F3 : ∀ (n : Nat) (x1 : Int32) (y2 : Mem) (H : Heap) (locs : List Loc), va_P D vwCl (WMod z a1 y2) H → va_D A (WMod z a1 y2) → va_S A s.heap H locs → ∀ (ls : Array Slot), lv_has ls 3 [(0, .ref (a1 0)), (1, .ref (a1 7)), (2, .int x1)] → zl2 F3 n x1 y2 = some m1' → GV p l e (headSpec wsX7_passes ({ frames := 0, cells := 0, slots := 0, locals := 0 } : Room)).room s m ([.ref (a1 0), .ref (a1 7)] : List Value).toArray below meth c A D z (WMod z a1 m1') H locs (F0 m 2 ls []) := by
    intro n
    induction n with
    | zero =>
      intro x1 y2 H locs hP hD hS ls hl hf
      exact no_none hf
    | succ n ih5 =>
      intro x1 y2 H locs hP hD hS ls hl hf
      have hf := zl2_s eF3 hf
      refine lv_iload_n hx hb dX7_passes_2 rfl (lv_at hl 2 rfl) ?_
      refine lv_aload_n hx hb dX7_passes_3 rfl (lv_at hl 1 rfl) ?_
      refine z_alen hx hb hK hP 7 0 rfl rfl (v := 8) rfl dX7_passes_4 ?_
      refine lv_icmp_ge (tgt := 58) hx hb dX7_passes_5 (by decide) (fun c6 => ?_) (fun c6 => ?_)
      · have hf := if_t c6 hf
        obtain rfl := so1 hf
        exact ret_v hx hb hr hlocks hK hP hD hS dX7_passes_58
      · have hf := if_f c6 hf
        refine lv_aload_n hx hb dX7_passes_8 rfl (lv_at hl 0 rfl) ?_
        refine va_get (D := D) (ci := 7) (v := .int (y2 0 28)) (C := RX7) (T := TX7) (N := 33) hx hb hts iX7 hown hK hP 0 rfl rfl 28 (by decide) (hts _ aw764) (fun _ h9 => h9) rfl dX7_passes_9 ?_
        refine lv_if_eq (tgt := 30) hx hb dX7_passes_12 (by decide) (fun c7 => ?_) (fun c7 => ?_)
        · have hf := if_t c7 hf
          refine lv_aload_n hx hb dX7_passes_30 rfl (lv_at hl 1 rfl) ?_
          refine lv_iload_n hx hb dX7_passes_31 rfl (lv_at hl 2 rfl) ?_
          refine lv_aload_n hx hb dX7_passes_32 rfl (lv_at hl 0 rfl) ?_
          refine va_get (D := D) (ci := 7) (v := .ref (a1 20)) (C := RX7) (T := TX7) (N := 33) hx hb hts iX7 hown hK hP 0 rfl rfl 26 (by decide) (hts _ aw762) (fun _ h9 => h9) rfl dX7_passes_33 ?_
          refine lv_aload_n hx hb dX7_passes_36 rfl (lv_at hl 0 rfl) ?_
          refine va_get (D := D) (ci := 7) (v := .int (y2 0 29)) (C := RX7) (T := TX7) (N := 33) hx hb hts iX7 hown hK hP 0 rfl rfl 29 (by decide) (hts _ aw765) (fun _ h9 => h9) rfl dX7_passes_37 ?_
          obtain ⟨h8, hf⟩ := ck_use hf
          refine z_iald hx hb hK hP 20 rfl h8 dX7_passes_40 ?_
          obtain ⟨h10, hf⟩ := ck_use hf
          refine z_iast hx hb hK hP hD hS 7 rfl h10 dX7_passes_41 (fun (w9 : Mem) => (WMod z a1 w9)) (up2 y2 7 x1.toNatClampNeg (y2 20 (y2 0 29).toNatClampNeg)) rfl (fun y9 ey9 H locs hP hD hS => ?_)
          have hf := lt_use ey9 hf
          refine lv_aload_n hx hb dX7_passes_42 rfl (lv_at hl 0 rfl) ?_
          refine lv_dup hx hb dX7_passes_43 rfl ?_
          refine va_get (D := D) (ci := 7) (v := .int (y9 0 29)) (C := RX7) (T := TX7) (N := 33) hx hb hts iX7 hown hK hP 0 rfl rfl 29 (by decide) (hts _ aw765) (fun _ h9 => h9) rfl dX7_passes_44 ?_
          refine lv_iconst (v := 1) hx hb dX7_passes_47 (by decide) ?_
          refine lv_iadd hx hb dX7_passes_48 ?_
          refine z_put (ci := 7) (v := .int ((y9 0 29) + 1)) (ty := .int) (C := RX7) (T := TX7) (N := 33) hx hb hts iX7 tyX7 tyX7_ok nmX7 hown hK hP hD hS 0 rfl rfl 29 (by decide) (hts _ aw765) (fun _ h9 => h9) rfl (by decide +kernel) rfl rfl (Nat.le_of_ble_eq_true rfl) dX7_passes_49 (fun (w9 : Mem) => (WMod z a1 w9)) (up2 y9 0 29 ((y9 0 29) + 1)) rfl (fun y11 ey11 H locs hP hD hS => ?_)
          have hf := lt_use ey11 hf
          obtain ⟨x12, ex12⟩ : ∃ y : Int32, y = x1 + 1 := ⟨_, rfl⟩
          have hf := lt_use ex12 hf
          refine lv_iinc (v := x12) (lv' := [(2, .int x12), (0, .ref (a1 0)), (1, .ref (a1 7))]) hx hb dX7_passes_52 hl (k := 2) rfl (by rw [ex12]; rfl) (by decide) rfl (fun ls hl => ?_)
          refine lv_goto (tgt := 2) hx hb dX7_passes_55 (by decide) ?_
          exact ih5 _ _ _ _ hP hD hS _ (lv_sub hl [1, 2, 0] rfl) hf
        · have hf := if_f c7 hf
          refine lv_aload_n hx hb dX7_passes_15 rfl (lv_at hl 0 rfl) ?_
          refine va_get (D := D) (ci := 7) (v := .ref (a1 20)) (C := RX7) (T := TX7) (N := 33) hx hb hts iX7 hown hK hP 0 rfl rfl 26 (by decide) (hts _ aw762) (fun _ h9 => h9) rfl dX7_passes_16 ?_
          refine lv_aload_n hx hb dX7_passes_19 rfl (lv_at hl 0 rfl) ?_
          refine va_get (D := D) (ci := 7) (v := .int (y2 0 29)) (C := RX7) (T := TX7) (N := 33) hx hb hts iX7 hown hK hP 0 rfl rfl 29 (by decide) (hts _ aw765) (fun _ h9 => h9) rfl dX7_passes_20 ?_
          refine lv_aload_n hx hb dX7_passes_23 rfl (lv_at hl 1 rfl) ?_
          refine lv_iload_n hx hb dX7_passes_24 rfl (lv_at hl 2 rfl) ?_
          obtain ⟨h13, hf⟩ := ck_use hf
          refine z_iald hx hb hK hP 7 rfl h13 dX7_passes_25 ?_
          obtain ⟨h15, hf⟩ := ck_use hf
          refine z_iast hx hb hK hP hD hS 20 rfl h15 dX7_passes_26 (fun (w9 : Mem) => (WMod z a1 w9)) (up2 y2 20 (y2 0 29).toNatClampNeg (y2 7 x1.toNatClampNeg)) rfl (fun y14 ey14 H locs hP hD hS => ?_)
          have hf := lt_use ey14 hf
          refine lv_goto (tgt := 42) hx hb dX7_passes_27 (by decide) ?_
          refine lv_aload_n hx hb dX7_passes_42 rfl (lv_at hl 0 rfl) ?_
          refine lv_dup hx hb dX7_passes_43 rfl ?_
          refine va_get (D := D) (ci := 7) (v := .int (y14 0 29)) (C := RX7) (T := TX7) (N := 33) hx hb hts iX7 hown hK hP 0 rfl rfl 29 (by decide) (hts _ aw765) (fun _ h9 => h9) rfl dX7_passes_44 ?_
          refine lv_iconst (v := 1) hx hb dX7_passes_47 (by decide) ?_
          refine lv_iadd hx hb dX7_passes_48 ?_
          refine z_put (ci := 7) (v := .int ((y14 0 29) + 1)) (ty := .int) (C := RX7) (T := TX7) (N := 33) hx hb hts iX7 tyX7 tyX7_ok nmX7 hown hK hP hD hS 0 rfl rfl 29 (by decide) (hts _ aw765) (fun _ h9 => h9) rfl (by decide +kernel) rfl rfl (Nat.le_of_ble_eq_true rfl) dX7_passes_49 (fun (w9 : Mem) => (WMod z a1 w9)) (up2 y14 0 29 ((y14 0 29) + 1)) rfl (fun y16 ey16 H locs hP hD hS => ?_)
          have hf := lt_use ey16 hf
          obtain ⟨x17, ex17⟩ : ∃ y : Int32, y = x1 + 1 := ⟨_, rfl⟩
          have hf := lt_use ex17 hf
          refine lv_iinc (v := x17) (lv' := [(2, .int x17), (0, .ref (a1 0)), (1, .ref (a1 7))]) hx hb dX7_passes_52 hl (k := 2) rfl (by rw [ex17]; rfl) (by decide) rfl (fun ls hl => ?_)
          refine lv_goto (tgt := 2) hx hb dX7_passes_55 (by decide) ?_
          exact ih5 _ _ _ _ hP hD hS _ (lv_sub hl [1, 2, 0] rfl) hf
  exact L2_F3 fu _ _ _ _ hP hD hS _ (lv_sub hl [1, 2, 0] rfl) hf
