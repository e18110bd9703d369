def jn9 {α α2 α3 α4 α5 α6 α7 α8 α9 β : Type} (f9 : α → α2 → α3 → α4 → α5 → α6 → α7 → α8 → α9 → Option β) (g9 : (α → α2 → α3 → α4 → α5 → α6 → α7 → α8 → α9 → Option β) → Option β) : Option β := g9 f9
theorem jn9_use {α α2 α3 α4 α5 α6 α7 α8 α9 β : Type} {f9 : α → α2 → α3 → α4 → α5 → α6 → α7 → α8 → α9 → Option β} {g9 : (α → α2 → α3 → α4 → α5 → α6 → α7 → α8 → α9 → Option β) → Option β} {r : β} (h9 : jn9 f9 g9 = some r) : ∃ k, k = f9 ∧ g9 k = some r := ⟨f9, rfl, h9⟩
theorem jn9_ap {α α2 α3 α4 α5 α6 α7 α8 α9 β : Type} {f9 k : α → α2 → α3 → α4 → α5 → α6 → α7 → α8 → α9 → Option β} {a : α} {b : α2} {c : α3} {d : α4} {e : α5} {f : α6} {g : α7} {h : α8} {i : α9} {r : β} (e9 : k = f9) (h9 : k a b c d e f g h i = some r) : f9 a b c d e f g h i = some r := by subst e9; exact h9
def zl9 {α α2 α3 α4 α5 α6 α7 α8 α9 β : Type} (F9 : (α → α2 → α3 → α4 → α5 → α6 → α7 → α8 → α9 → Option β) → α → α2 → α3 → α4 → α5 → α6 → α7 → α8 → α9 → Option β) : Nat → α → α2 → α3 → α4 → α5 → α6 → α7 → α8 → α9 → Option β
  | 0, _, _, _, _, _, _, _, _, _ => none
  | n9 + 1, a, b, c, d, e, f, g, h, i => F9 (zl9 F9 n9) a b c d e f g h i
theorem zl9_use {α α2 α3 α4 α5 α6 α7 α8 α9 β : Type} {F9 : (α → α2 → α3 → α4 → α5 → α6 → α7 → α8 → α9 → Option β) → α → α2 → α3 → α4 → α5 → α6 → α7 → α8 → α9 → Option β} {n9 : Nat} {a : α} {b : α2} {c : α3} {d : α4} {e : α5} {f : α6} {g : α7} {h : α8} {i : α9} {r : β} (h9 : zl9 F9 n9 a b c d e f g h i = some r) : ∃ G, G = F9 ∧ zl9 G n9 a b c d e f g h i = some r := ⟨F9, rfl, h9⟩
theorem zl9_s {α α2 α3 α4 α5 α6 α7 α8 α9 β : Type} {F9 G : (α → α2 → α3 → α4 → α5 → α6 → α7 → α8 → α9 → Option β) → α → α2 → α3 → α4 → α5 → α6 → α7 → α8 → α9 → Option β} {n9 : Nat} {a : α} {b : α2} {c : α3} {d : α4} {e : α5} {f : α6} {g : α7} {h : α8} {i : α9} {r : β} (e9 : G = F9) (h9 : zl9 G (n9 + 1) a b c d e f g h i = some r) : F9 (zl9 G n9) a b c d e f g h i = some r := by subst e9; exact h9
/-- the law, with its script -/
def pL_law (fu L : Nat) (xs : Nat → Int32) (m1 : Mem) (m2 : Mem) (m3 : Mem) (m4 : Mem) (m5 : Mem) (m6 : Mem) (m7 : Mem) (m8 : Mem) (x0 : Int32) : Option Int32 :=
  zl9 (fun g11 (x1 : Int32) (y2 : Mem) (y3 : Mem) (y4 : Mem) (y5 : Mem) (y6 : Mem) (y7 : Mem) (y8 : Mem) (y9 : Mem) =>
    if ((Int32.ofNat L) - 4) < x1 then
      some 1
    else
      ck x1 L <|
      lt' (((xs x1.toNatClampNeg) &&& 31) : Int32) fun x15 =>
      if x15 = 0 then
        ck (x1 + 1) L <|
        bd3 (pX6_feed fu y2 y8 (xs (x1 + 1).toNatClampNeg)) fun r18 y19 y20 =>
        ck (x1 + 1) L <|
        bd2 (pX7_feed fu y9 (xs (x1 + 1).toNatClampNeg)) fun r23 y24 =>
        if r18 = r23 then
          lt' (x1 + 4) fun x27 =>
          g11 x27 y19 y3 y4 y5 y6 y7 y20 y24
        else
          some 0
      else
      if x15 = 1 then
        bd4 (pX6_office fu y3 y6 y8) fun r29 y30 y31 y32 =>
        bd2 (pX7_office fu y9) fun r34 y35 =>
        if r29 = r34 then
          lt' (x1 + 4) fun x38 =>
          g11 x38 y2 y30 y4 y5 y31 y7 y32 y35
        else
          some 0
      else
      if x15 = 2 then
        ck (x1 + 1) L <|
        ck (x1 + 2) L <|
        bd2 (pX6_comer fu y2 y3 (xs (x1 + 1).toNatClampNeg) (xs (x1 + 2).toNatClampNeg)) fun r42 y43 =>
        ck (x1 + 1) L <|
        ck (x1 + 2) L <|
        bd2 (pX7_comer fu y9 (xs (x1 + 1).toNatClampNeg) (xs (x1 + 2).toNatClampNeg)) fun r47 y48 =>
        if r42 = r47 then
          lt' (x1 + 4) fun x51 =>
          g11 x51 y43 y3 y4 y5 y6 y7 y8 y48
        else
          some 0
      else
      if x15 = 3 then
        ck (x1 + 1) L <|
        ck (x1 + 2) L <|
        ck (x1 + 3) L <|
        bd3 (pX6_kind fu y2 y3 (xs (x1 + 1).toNatClampNeg) (xs (x1 + 2).toNatClampNeg) (xs (x1 + 3).toNatClampNeg)) fun r56 y57 y58 =>
        ck (x1 + 1) L <|
        ck (x1 + 2) L <|
        ck (x1 + 3) L <|
        bd2 (pX7_kind fu y9 (xs (x1 + 1).toNatClampNeg) (xs (x1 + 2).toNatClampNeg) (xs (x1 + 3).toNatClampNeg)) fun r63 y64 =>
        if r56 = r63 then
          lt' (x1 + 4) fun x67 =>
          g11 x67 y57 y58 y4 y5 y6 y7 y8 y64
        else
          some 0
      else
      if x15 = 4 then
        ck (x1 + 1) L <|
        ck (x1 + 2) L <|
        bd2 (pX6_kettle fu y2 y3 (xs (x1 + 1).toNatClampNeg) (xs (x1 + 2).toNatClampNeg)) fun r71 y72 =>
        ck (x1 + 1) L <|
        ck (x1 + 2) L <|
        bd2 (pX7_kettle fu y9 (xs (x1 + 1).toNatClampNeg) (xs (x1 + 2).toNatClampNeg)) fun r76 y77 =>
        if r71 = r76 then
          lt' (x1 + 4) fun x80 =>
          g11 x80 y72 y3 y4 y5 y6 y7 y8 y77
        else
          some 0
      else
      if x15 = 5 then
        ck (x1 + 1) L <|
        ck (x1 + 2) L <|
        bd3 (pX6_set fu y2 y3 (xs (x1 + 1).toNatClampNeg) (xs (x1 + 2).toNatClampNeg)) fun r84 y85 y86 =>
        ck (x1 + 1) L <|
        ck (x1 + 2) L <|
        bd2 (pX7_set fu y9 (xs (x1 + 1).toNatClampNeg) (xs (x1 + 2).toNatClampNeg)) fun r90 y91 =>
        if r84 = r90 then
          lt' (x1 + 4) fun x94 =>
          g11 x94 y85 y86 y4 y5 y6 y7 y8 y91
        else
          some 0
      else
      if x15 = 6 then
        ck (x1 + 1) L <|
        bd3 (pX6_go fu y2 y3 (xs (x1 + 1).toNatClampNeg)) fun r97 y98 y99 =>
        ck (x1 + 1) L <|
        bd2 (pX7_go fu y9 (xs (x1 + 1).toNatClampNeg)) fun r102 y103 =>
        if r97 = r102 then
          lt' (x1 + 4) fun x106 =>
          g11 x106 y98 y99 y4 y5 y6 y7 y8 y103
        else
          some 0
      else
      if x15 = 7 then
        bd2 (pX6_anew fu y3) fun r108 y109 =>
        bd2 (pX7_anew fu y9) fun r111 y112 =>
        if r108 = r111 then
          lt' (x1 + 4) fun x115 =>
          g11 x115 y2 y109 y4 y5 y6 y7 y8 y112
        else
          some 0
      else
      if x15 = 8 then
        ck (x1 + 1) L <|
        bd2 (pX6_line fu y2 y3 (xs (x1 + 1).toNatClampNeg)) fun r118 y119 =>
        ck (x1 + 1) L <|
        bd2 (pX7_line fu y9 (xs (x1 + 1).toNatClampNeg)) fun r122 y123 =>
        if r118 = r122 then
          lt' (x1 + 4) fun x126 =>
          g11 x126 y119 y3 y4 y5 y6 y7 y8 y123
        else
          some 0
      else
      if x15 = 9 then
        ck (x1 + 1) L <|
        bd3 (pX6_rest fu y2 y3 y6 (xs (x1 + 1).toNatClampNeg)) fun r129 y130 y131 =>
        ck (x1 + 1) L <|
        bd2 (pX7_rest fu y9 (xs (x1 + 1).toNatClampNeg)) fun r134 y135 =>
        if r129 = r134 then
          lt' (x1 + 4) fun x138 =>
          g11 x138 y130 y3 y4 y5 y131 y7 y8 y135
        else
          some 0
      else
      if x15 = 10 then
        ck (x1 + 1) L <|
        bd3 (pX6_when fu y2 y3 y6 (xs (x1 + 1).toNatClampNeg)) fun r141 y142 y143 =>
        ck (x1 + 1) L <|
        bd2 (pX7_when fu y9 (xs (x1 + 1).toNatClampNeg)) fun r146 y147 =>
        if r141 = r146 then
          lt' (x1 + 4) fun x150 =>
          g11 x150 y142 y3 y4 y5 y143 y7 y8 y147
        else
          some 0
      else
      if x15 = 11 then
        ck (x1 + 1) L <|
        ck (x1 + 2) L <|
        bd3 (pX6_best fu y2 y3 y6 (xs (x1 + 1).toNatClampNeg) (xs (x1 + 2).toNatClampNeg)) fun r154 y155 y156 =>
        ck (x1 + 1) L <|
        ck (x1 + 2) L <|
        bd2 (pX7_best fu y9 (xs (x1 + 1).toNatClampNeg) (xs (x1 + 2).toNatClampNeg)) fun r160 y161 =>
        if r154 = r160 then
          lt' (x1 + 4) fun x164 =>
          g11 x164 y155 y3 y4 y5 y156 y7 y8 y161
        else
          some 0
      else
      if x15 = 12 then
        ck (x1 + 1) L <|
        bd3 (pX6_rounds fu y2 y3 y6 (xs (x1 + 1).toNatClampNeg)) fun r167 y168 y169 =>
        ck (x1 + 1) L <|
        bd2 (pX7_rounds fu y9 (xs (x1 + 1).toNatClampNeg)) fun r172 y173 =>
        if r167 = r172 then
          lt' (x1 + 4) fun x176 =>
          g11 x176 y168 y3 y4 y5 y169 y7 y8 y173
        else
          some 0
      else
      if x15 = 13 then
        ck (x1 + 1) L <|
        bd3 (pX6_marks fu y2 y3 y6 (xs (x1 + 1).toNatClampNeg)) fun r179 y180 y181 =>
        ck (x1 + 1) L <|
        bd2 (pX7_marks fu y9 (xs (x1 + 1).toNatClampNeg)) fun r184 y185 =>
        if r179 = r184 then
          lt' (x1 + 4) fun x188 =>
          g11 x188 y180 y3 y4 y5 y181 y7 y8 y185
        else
          some 0
      else
      if x15 = 14 then
        bd2 (pX6_second fu y3 y6) fun r190 y191 =>
        bd2 (pX7_second fu y9) fun r193 y194 =>
        if r190 = r193 then
          lt' (x1 + 4) fun x197 =>
          g11 x197 y2 y3 y4 y5 y191 y7 y8 y194
        else
          some 0
      else
      if x15 = 15 then
        ck (x1 + 1) L <|
        bd4 (pX6_urn fu y2 y3 y6 y7 (xs (x1 + 1).toNatClampNeg)) fun r200 y201 y202 y203 =>
        ck (x1 + 1) L <|
        bd2 (pX7_urn fu y9 (xs (x1 + 1).toNatClampNeg)) fun r206 y207 =>
        if r200 = r206 then
          lt' (x1 + 4) fun x210 =>
          g11 x210 y201 y3 y4 y5 y202 y203 y8 y207
        else
          some 0
      else
      if x15 = 16 then
        ck (x1 + 1) L <|
        bd3 (pX6_least fu y2 y3 y7 (xs (x1 + 1).toNatClampNeg)) fun r213 y214 y215 =>
        ck (x1 + 1) L <|
        bd2 (pX7_least fu y9 (xs (x1 + 1).toNatClampNeg)) fun r218 y219 =>
        if r213 = r218 then
          lt' (x1 + 4) fun x222 =>
          g11 x222 y214 y3 y4 y5 y6 y215 y8 y219
        else
          some 0
      else
      if x15 = 17 then
        ck (x1 + 1) L <|
        ck (x1 + 2) L <|
        bd3 (pX6_ferry fu y2 y3 y7 (xs (x1 + 1).toNatClampNeg) (xs (x1 + 2).toNatClampNeg)) fun r226 y227 y228 =>
        ck (x1 + 1) L <|
        ck (x1 + 2) L <|
        bd2 (pX7_ferry fu y9 (xs (x1 + 1).toNatClampNeg) (xs (x1 + 2).toNatClampNeg)) fun r232 y233 =>
        if r226 = r232 then
          lt' (x1 + 4) fun x236 =>
          g11 x236 y227 y3 y4 y5 y6 y228 y8 y233
        else
          some 0
      else
      if x15 = 18 then
        ck (x1 + 1) L <|
        bd3 (pX6_times fu y2 y3 y7 (xs (x1 + 1).toNatClampNeg)) fun r239 y240 y241 =>
        ck (x1 + 1) L <|
        bd2 (pX7_times fu y9 (xs (x1 + 1).toNatClampNeg)) fun r244 y245 =>
        if r239 = r244 then
          lt' (x1 + 4) fun x248 =>
          g11 x248 y240 y3 y4 y5 y6 y241 y8 y245
        else
          some 0
      else
      if x15 = 19 then
        ck (x1 + 1) L <|
        bd3 (pX6_better fu y2 y3 y7 (xs (x1 + 1).toNatClampNeg)) fun r251 y252 y253 =>
        ck (x1 + 1) L <|
        bd2 (pX7_better fu y9 (xs (x1 + 1).toNatClampNeg)) fun r256 y257 =>
        if r251 = r256 then
          lt' (x1 + 4) fun x260 =>
          g11 x260 y252 y3 y4 y5 y6 y253 y8 y257
        else
          some 0
      else
      if x15 = 20 then
        bd2 (pX6_follow fu y3 y6) fun r262 y263 =>
        bd2 (pX7_follow fu y9) fun r265 y266 =>
        if r262 = r265 then
          lt' (x1 + 4) fun x269 =>
          g11 x269 y2 y3 y4 y5 y263 y7 y8 y266
        else
          some 0
      else
      if x15 = 21 then
        ck (x1 + 1) L <|
        bd2 (pX6_row fu y2 (xs (x1 + 1).toNatClampNeg)) fun r272 y273 =>
        ck (x1 + 1) L <|
        bd2 (pX7_row fu y9 (xs (x1 + 1).toNatClampNeg)) fun r276 y277 =>
        if r272 = r276 then
          lt' (x1 + 4) fun x280 =>
          g11 x280 y273 y3 y4 y5 y6 y7 y8 y277
        else
          some 0
      else
      if x15 = 22 then
        bd3 (pX6_judge fu y2 y3 y6) fun r282 y283 y284 =>
        bd2 (pX7_judge fu y9) fun r286 y287 =>
        if r282 = r286 then
          lt' (x1 + 4) fun x290 =>
          g11 x290 y283 y3 y4 y5 y284 y7 y8 y287
        else
          some 0
      else
      if x15 = 23 then
        ck (x1 + 1) L <|
        bd2 (pX6_fits fu y2 y3 (xs (x1 + 1).toNatClampNeg)) fun r293 y294 =>
        ck (x1 + 1) L <|
        bd2 (pX7_fits fu y9 (xs (x1 + 1).toNatClampNeg)) fun r297 y298 =>
        if r293 = r297 then
          lt' (x1 + 4) fun x301 =>
          g11 x301 y294 y3 y4 y5 y6 y7 y8 y298
        else
          some 0
      else
      if x15 = 24 then
        ck (x1 + 1) L <|
        ck (x1 + 2) L <|
        ck (x1 + 3) L <|
        bd4 (pX6_seeds fu y2 y3 y5 y6 (xs (x1 + 1).toNatClampNeg) (xs (x1 + 2).toNatClampNeg) (xs (x1 + 3).toNatClampNeg)) fun r306 y307 y308 y309 =>
        ck (x1 + 1) L <|
        ck (x1 + 2) L <|
        ck (x1 + 3) L <|
        bd2 (pX7_seeds fu y9 (xs (x1 + 1).toNatClampNeg) (xs (x1 + 2).toNatClampNeg) (xs (x1 + 3).toNatClampNeg)) fun r314 y315 =>
        if r306 = r314 then
          lt' (x1 + 4) fun x318 =>
          g11 x318 y307 y3 y4 y308 y309 y7 y8 y315
        else
          some 0
      else
      if x15 = 25 then
        bd3 (pX6_image fu y2 y3 y4) fun r320 y321 y322 =>
        bd2 (pX7_image fu y9) fun r324 y325 =>
        if r320 = r324 then
          lt' (x1 + 4) fun x328 =>
          g11 x328 y321 y3 y322 y5 y6 y7 y8 y325
        else
          some 0
      else
      if x15 = 26 then
        bd3 (pX6_restore fu y2 y3 y4) fun r330 y331 y332 =>
        bd2 (pX7_restore fu y9) fun r334 y335 =>
        if r330 = r334 then
          lt' (x1 + 4) fun x338 =>
          g11 x338 y331 y332 y4 y5 y6 y7 y8 y335
        else
          some 0
      else
      if x15 = 27 then
        ck (x1 + 1) L <|
        bd (pX6_count fu y2 y3 y8 (xs (x1 + 1).toNatClampNeg)) fun r341 =>
        ck (x1 + 1) L <|
        bd (pX7_count fu y9 (xs (x1 + 1).toNatClampNeg)) fun r344 =>
        if r341 = r344 then
          lt' (x1 + 4) fun x347 =>
          g11 x347 y2 y3 y4 y5 y6 y7 y8 y9
        else
          some 0
      else
      lt' (x1 + 4) fun x348 =>
      g11 x348 y2 y3 y4 y5 y6 y7 y8 y9) fu x0 m1 m2 m3 m4 m5 m6 m7 m8
abbrev GL (p : Program) (l : Launch) (e : Env) (s : State) (m : MethodId) (below : List Frame) (meth : Method) (c : Code) (b : Nat) (H : Heap) (locs : List Loc) (g : JFrame) : Prop := W p l e room_1 s m #[Value.ref b] below meth c H locs 77 1322 (lw_Z below #[Value.ref b] s) g
set_option maxHeartbeats 40000000 in
set_option maxRecDepth 100000 in
theorem tL_law {p : Program} {e : Env} {s : State} {m : MethodId} {below : List Frame} {meth : Method} {c : Code} (l : Launch) (D : va_G) (z tt : Nat → Nat) {b L : Nat} {xs : Nat → Int32} (C0 : lw_At p s m meth c b L xs) (A : Nat → Prop) (hA : ∀ q : Nat, s.heap.size ≤ q → A q) (hbA : ¬ A b) (hAs : ∀ q : Nat, A q → s.heap.size ≤ q) (hK : zK D z s) (hT : zT tt A s s.heap) (hN : zN s) (a1 : Nat → Nat) (a2 : Nat → Nat) (a3 : Nat → Nat) (a4 : Nat) (a5 : Nat → Nat) (a6 : Nat → Nat) (a7 : Nat → Nat) (a8 : Nat → Nat) (m1 : Mem) (m2 : Mem) (m3 : Mem) (m4 : Mem) (m5 : Mem) (m6 : Mem) (m7 : Mem) (m8 : Mem) (x0 : Int32) (fu : Nat) (hf : pL_law fu L xs m1 m2 m3 m4 m5 m6 m7 m8 x0 = some 1) (H : Heap) (locs : List Loc) (hP : va_P D vwCl (WFac z a1 (a2 0) (a3 0) a4 (a6 0) (a7 0) m1 ++ (WDay z a2 m2 ++ (WDay z a3 m3 ++ (WMin a4 (a5 0) m4 ++ (WDay z a5 m5 ++ (WArr z a6 m6 ++ (WLet z a7 m7 ++ (WMod z a8 m8)))))))) H) (hD : va_D A (WFac z a1 (a2 0) (a3 0) a4 (a6 0) (a7 0) m1 ++ (WDay z a2 m2 ++ (WDay z a3 m3 ++ (WMin a4 (a5 0) m4 ++ (WDay z a5 m5 ++ (WArr z a6 m6 ++ (WLet z a7 m7 ++ (WMod z a8 m8))))))))) (hS : va_S A s.heap H locs) (ls : Array Slot) (hl : lv_has ls 4 [(0, .ref b), (1, .ref (a1 0)), (2, .ref (a8 0)), (3, .int x0)]) : GL p l e s m below meth c b H locs (F0 m 18 ls []) := by
  obtain ⟨hx, hb, hr, hml, hown, hts0, hX, hbl, hlocks, hgv⟩ := C0
  have hts : ∀ w ∈ wsA, w.before #[Value.ref b] s = true := fun w h => hts0 w (wsA_in w h)
  have hown : s.vm.findClass RL = some m.cls := hown
  unfold pL_law at hf
  obtain ⟨F10, eF10, hf⟩ := zl9_use hf
  have L18_F10 : ∀ (n : Nat) (x1 : Int32) (y2 : Mem) (y3 : Mem) (y4 : Mem) (y5 : Mem) (y6 : Mem) (y7 : Mem) (y8 : Mem) (y9 : Mem) (H : Heap) (locs : List Loc), va_P D vwCl (WFac z a1 (a2 0) (a3 0) a4 (a6 0) (a7 0) y2 ++ (WDay z a2 y3 ++ (WDay z a3 y4 ++ (WMin a4 (a5 0) y5 ++ (WDay z a5 y6 ++ (WArr z a6 y7 ++ (WLet z a7 y8 ++ (WMod z a8 y9)))))))) H → va_D A (WFac z a1 (a2 0) (a3 0) a4 (a6 0) (a7 0) y2 ++ (WDay z a2 y3 ++ (WDay z a3 y4 ++ (WMin a4 (a5 0) y5 ++ (WDay z a5 y6 ++ (WArr z a6 y7 ++ (WLet z a7 y8 ++ (WMod z a8 y9)))))))) → va_S A s.heap H locs → ∀ (ls : Array Slot), lv_has ls 4 [(0, .ref b), (1, .ref (a1 0)), (2, .ref (a8 0)), (3, .int x1)] → zl9 F10 n x1 y2 y3 y4 y5 y6 y7 y8 y9 = some 1 → GL p l e s m below meth c b H locs (F0 m 18 ls []) := by
    intro n
    induction n with
    | zero =>
      intro x1 y2 y3 y4 y5 y6 y7 y8 y9 H locs hP hD hS ls hl hf
      exact no_none hf
    | succ n ih12 =>
      intro x1 y2 y3 y4 y5 y6 y7 y8 y9 H locs hP hD hS ls hl hf
      have hf := zl9_s eF10 hf
      refine lv_iload_n hx hb dL_law_18 rfl (lv_at hl 3 rfl) ?_
      refine lv_aload_n hx hb dL_law_19 rfl (lv_at hl 0 rfl) ?_
      refine va_slen hx hb hX hbl hbA hS dL_law_20 ?_
      refine lv_iconst (v := 4) hx hb dL_law_21 (by decide) ?_
      refine lv_isub hx hb dL_law_22 ?_
      refine lv_icmp_gt (tgt := 830) hx hb dL_law_23 (by decide) (fun c13 => ?_) (fun c13 => ?_)
      · have hf := if_t c13 hf
        refine lv_iconst (v := 1) hx hb dL_law_830 (by decide) ?_
        refine va_forget (fun q hq => hAs _ (hS.2.2 q hq)) ?_
        refine W.widen (k := 600000) (n := 7302250) (Nat.le_of_ble_eq_true rfl) (Nat.le_of_ble_eq_true rfl) ?_
        exact lw_ret hx hb hr hlocks dL_law_831
      · have hf := if_f c13 hf
        refine lv_aload_n hx hb dL_law_26 rfl (lv_at hl 0 rfl) ?_
        refine lv_iload_n hx hb dL_law_27 rfl (lv_at hl 3 rfl) ?_
        obtain ⟨h14, hf⟩ := ck_use hf
        refine va_sld hx hb hX hbl hbA hS h14 dL_law_28 ?_
        refine lv_bipush (v := 31) hx hb dL_law_29 (by decide) ?_
        refine lv_iand hx hb dL_law_31 ?_
        refine lv_topi (fun x15 ex15 => ?_)
        have hf := lt_use ex15 hf
        by_cases c16 : x15 = 0
        · have hf := if_t c16 hf
          refine z_tin (K := 0) hx hb c16 dL_law_32 ⟨rfl, by decide, by decide⟩ (tgt := 160) (by decide) ?_
          refine lv_aload_n hx hb dL_law_160 rfl (lv_at hl 1 rfl) ?_
          refine lv_aload_n hx hb dL_law_161 rfl (lv_at hl 0 rfl) ?_
          refine lv_iload_n hx hb dL_law_162 rfl (lv_at hl 3 rfl) ?_
          refine lv_iconst (v := 1) hx hb dL_law_163 (by decide) ?_
          refine lv_iadd hx hb dL_law_164 ?_
          obtain ⟨h17, hf⟩ := ck_use hf
          refine va_sld hx hb hX hbl hbA hS h17 dL_law_165 ?_
          obtain ⟨r18, y19, y20, q21, hf⟩ := bd3_use hf
          have hfo : Foc (WFac z a1 (a2 0) (a3 0) a4 (a6 0) (a7 0) y2 ++ (WDay z a2 y3 ++ (WDay z a3 y4 ++ (WMin a4 (a5 0) y5 ++ (WDay z a5 y6 ++ (WArr z a6 y7 ++ (WLet z a7 y8 ++ (WMod z a8 y9)))))))) (WFac z a1 (a2 0) (a3 0) a4 (a6 0) (a7 0) y2 ++ (WDay z a2 y3 ++ (WDay z a3 y4 ++ (WMin a4 (a5 0) y5 ++ (WDay z a5 y6 ++ (WArr z a6 y7 ++ (WLet z a7 y8))))))) (WFac z a1 (a2 0) (a3 0) a4 (a6 0) (a7 0) y19 ++ (WDay z a2 y3 ++ (WDay z a3 y4 ++ (WMin a4 (a5 0) y5 ++ (WDay z a5 y6 ++ (WArr z a6 y7 ++ (WLet z a7 y20 ++ (WMod z a8 y9)))))))) (WFac z a1 (a2 0) (a3 0) a4 (a6 0) (a7 0) y19 ++ (WDay z a2 y3 ++ (WDay z a3 y4 ++ (WMin a4 (a5 0) y5 ++ (WDay z a5 y6 ++ (WArr z a6 y7 ++ (WLet z a7 y20))))))) := (foc_app foc_all (foc_app foc_all (foc_app foc_all (foc_app foc_all (foc_app foc_all (foc_app foc_all (foc_l foc_all)))))))
          refine z_goI (ws1 := (WFac z a1 (a2 0) (a3 0) a4 (a6 0) (a7 0) y19 ++ (WDay z a2 y3 ++ (WDay z a3 y4 ++ (WMin a4 (a5 0) y5 ++ (WDay z a5 y6 ++ (WArr z a6 y7 ++ (WLet z a7 y20 ++ (WMod z a8 y9))))))))) (va_runV (As := [.int (xs (x1 + 1).toNatClampNeg)]) (rest := []) ⟨hx, hb, hml, hown, hts⟩ (tX6_feed l D z tt a1 a2 a3 a4 a5 a6 a7 y2 y3 y4 y5 y6 y7 y8 (xs (x1 + 1).toNatClampNeg) fu r18 y19 y20 q21 _) (cwV 1 hts (gV4 aw268 aw269 aw270 aw45 aw271) rfl rfl rfl (by decide +kernel) ⟨Nat.le_of_ble_eq_true rfl, Nat.le_of_ble_eq_true rfl⟩) (z_preV hK hP hD hS hA hT hN hfo (va_recv hK hP (ci := 6) (q0 := 0) rfl rfl)) rfl rfl hl.1 rfl (lv_room (Nat.le_of_ble_eq_true rfl)) dL_law_166 ⟨Nat.le_of_ble_eq_true rfl, Nat.le_of_ble_eq_true rfl⟩) hP hD hS hA hfo (fun H locs hP hD hS => ?_)
          refine lv_aload_n hx hb dL_law_169 rfl (lv_at hl 2 rfl) ?_
          refine lv_aload_n hx hb dL_law_170 rfl (lv_at hl 0 rfl) ?_
          refine lv_iload_n hx hb dL_law_171 rfl (lv_at hl 3 rfl) ?_
          refine lv_iconst (v := 1) hx hb dL_law_172 (by decide) ?_
          refine lv_iadd hx hb dL_law_173 ?_
          obtain ⟨h22, hf⟩ := ck_use hf
          refine va_sld hx hb hX hbl hbA hS h22 dL_law_174 ?_
          obtain ⟨r23, y24, q25, hf⟩ := bd2_use hf
          have hfo : Foc (WFac z a1 (a2 0) (a3 0) a4 (a6 0) (a7 0) y19 ++ (WDay z a2 y3 ++ (WDay z a3 y4 ++ (WMin a4 (a5 0) y5 ++ (WDay z a5 y6 ++ (WArr z a6 y7 ++ (WLet z a7 y20 ++ (WMod z a8 y9)))))))) (WMod z a8 y9) (WFac z a1 (a2 0) (a3 0) a4 (a6 0) (a7 0) y19 ++ (WDay z a2 y3 ++ (WDay z a3 y4 ++ (WMin a4 (a5 0) y5 ++ (WDay z a5 y6 ++ (WArr z a6 y7 ++ (WLet z a7 y20 ++ (WMod z a8 y24)))))))) (WMod z a8 y24) := (foc_r (foc_r (foc_r (foc_r (foc_r (foc_r (foc_r foc_all)))))))
          refine z_goI (ws1 := (WFac z a1 (a2 0) (a3 0) a4 (a6 0) (a7 0) y19 ++ (WDay z a2 y3 ++ (WDay z a3 y4 ++ (WMin a4 (a5 0) y5 ++ (WDay z a5 y6 ++ (WArr z a6 y7 ++ (WLet z a7 y20 ++ (WMod z a8 y24))))))))) (va_runV (As := [.int (xs (x1 + 1).toNatClampNeg)]) (rest := [.int r18]) ⟨hx, hb, hml, hown, hts⟩ (tX7_feed l D z tt a8 y9 (xs (x1 + 1).toNatClampNeg) fu r23 y24 q25 _) (cwV 1 hts (gV4 aw836 aw837 aw838 aw52 aw839) rfl rfl rfl (by decide +kernel) ⟨Nat.le_of_ble_eq_true rfl, Nat.le_of_ble_eq_true rfl⟩) (z_preV hK hP hD hS hA hT hN hfo (va_recv hK hP (ci := 7) (q0 := 54) rfl rfl)) rfl rfl hl.1 rfl (lv_room (Nat.le_of_ble_eq_true rfl)) dL_law_175 ⟨Nat.le_of_ble_eq_true rfl, Nat.le_of_ble_eq_true rfl⟩) hP hD hS hA hfo (fun H locs hP hD hS => ?_)
          refine lv_icmp_eq (tgt := 824) hx hb dL_law_178 (by decide) (fun c26 => ?_) (fun c26 => ?_)
          · have hf := if_t c26 hf
            obtain ⟨x27, ex27⟩ : ∃ y : Int32, y = x1 + 4 := ⟨_, rfl⟩
            have hf := lt_use ex27 hf
            refine lv_iinc (v := x27) (lv' := [(3, .int x27), (0, .ref b), (1, .ref (a1 0)), (2, .ref (a8 0))]) hx hb dL_law_824 hl (k := 3) rfl (by rw [ex27]; rfl) (by decide) rfl (fun ls hl => ?_)
            refine lv_goto (tgt := 18) hx hb dL_law_827 (by decide) ?_
            exact ih12 _ _ _ _ _ _ _ _ _ _ _ hP hD hS _ (lv_sub hl [1, 2, 3, 0] rfl) hf
          · have hf := if_f c26 hf
            refine lv_iconst (v := 0) hx hb dL_law_181 (by decide) ?_
            exact absurd hf (by decide)
        have hf := if_f c16 hf
        by_cases c28 : x15 = 1
        · have hf := if_t c28 hf
          refine z_tin (K := 1) hx hb c28 dL_law_32 ⟨rfl, by decide, by decide⟩ (tgt := 183) (by decide) ?_
          refine lv_aload_n hx hb dL_law_183 rfl (lv_at hl 1 rfl) ?_
          obtain ⟨r29, y30, y31, y32, q33, hf⟩ := bd4_use hf
          have hfo : Foc (WFac z a1 (a2 0) (a3 0) a4 (a6 0) (a7 0) y2 ++ (WDay z a2 y3 ++ (WDay z a3 y4 ++ (WMin a4 (a5 0) y5 ++ (WDay z a5 y6 ++ (WArr z a6 y7 ++ (WLet z a7 y8 ++ (WMod z a8 y9)))))))) (WFac z a1 (a2 0) (a3 0) a4 (a6 0) (a7 0) y2 ++ (WDay z a2 y3 ++ (WDay z a3 y4 ++ (WMin a4 (a5 0) y5 ++ (WDay z a5 y6 ++ (WArr z a6 y7 ++ (WLet z a7 y8))))))) (WFac z a1 (a2 0) (a3 0) a4 (a6 0) (a7 0) y2 ++ (WDay z a2 y30 ++ (WDay z a3 y4 ++ (WMin a4 (a5 0) y5 ++ (WDay z a5 y31 ++ (WArr z a6 y7 ++ (WLet z a7 y32 ++ (WMod z a8 y9)))))))) (WFac z a1 (a2 0) (a3 0) a4 (a6 0) (a7 0) y2 ++ (WDay z a2 y30 ++ (WDay z a3 y4 ++ (WMin a4 (a5 0) y5 ++ (WDay z a5 y31 ++ (WArr z a6 y7 ++ (WLet z a7 y32))))))) := (foc_app foc_all (foc_app foc_all (foc_app foc_all (foc_app foc_all (foc_app foc_all (foc_app foc_all (foc_l foc_all)))))))
          refine z_goI (ws1 := (WFac z a1 (a2 0) (a3 0) a4 (a6 0) (a7 0) y2 ++ (WDay z a2 y30 ++ (WDay z a3 y4 ++ (WMin a4 (a5 0) y5 ++ (WDay z a5 y31 ++ (WArr z a6 y7 ++ (WLet z a7 y32 ++ (WMod z a8 y9))))))))) (va_runV (As := []) (rest := []) ⟨hx, hb, hml, hown, hts⟩ (tX6_office l D z tt a1 a2 a3 a4 a5 a6 a7 y2 y3 y4 y5 y6 y7 y8  fu r29 y30 y31 y32 q33 _) (cwV 0 hts (gV4 aw280 aw281 aw282 aw45 aw283) rfl rfl rfl (by decide +kernel) ⟨Nat.le_of_ble_eq_true rfl, Nat.le_of_ble_eq_true rfl⟩) (z_preV hK hP hD hS hA hT hN hfo (va_recv hK hP (ci := 6) (q0 := 0) rfl rfl)) rfl rfl hl.1 rfl (lv_room (Nat.le_of_ble_eq_true rfl)) dL_law_184 ⟨Nat.le_of_ble_eq_true rfl, Nat.le_of_ble_eq_true rfl⟩) hP hD hS hA hfo (fun H locs hP hD hS => ?_)
          refine lv_aload_n hx hb dL_law_187 rfl (lv_at hl 2 rfl) ?_
          obtain ⟨r34, y35, q36, hf⟩ := bd2_use hf
          have hfo : Foc (WFac z a1 (a2 0) (a3 0) a4 (a6 0) (a7 0) y2 ++ (WDay z a2 y30 ++ (WDay z a3 y4 ++ (WMin a4 (a5 0) y5 ++ (WDay z a5 y31 ++ (WArr z a6 y7 ++ (WLet z a7 y32 ++ (WMod z a8 y9)))))))) (WMod z a8 y9) (WFac z a1 (a2 0) (a3 0) a4 (a6 0) (a7 0) y2 ++ (WDay z a2 y30 ++ (WDay z a3 y4 ++ (WMin a4 (a5 0) y5 ++ (WDay z a5 y31 ++ (WArr z a6 y7 ++ (WLet z a7 y32 ++ (WMod z a8 y35)))))))) (WMod z a8 y35) := (foc_r (foc_r (foc_r (foc_r (foc_r (foc_r (foc_r foc_all)))))))
          refine z_goI (ws1 := (WFac z a1 (a2 0) (a3 0) a4 (a6 0) (a7 0) y2 ++ (WDay z a2 y30 ++ (WDay z a3 y4 ++ (WMin a4 (a5 0) y5 ++ (WDay z a5 y31 ++ (WArr z a6 y7 ++ (WLet z a7 y32 ++ (WMod z a8 y35))))))))) (va_runV (As := []) (rest := [.int r29]) ⟨hx, hb, hml, hown, hts⟩ (tX7_office l D z tt a8 y9  fu r34 y35 q36 _) (cwV 0 hts (gV4 aw847 aw848 aw849 aw52 aw850) rfl rfl rfl (by decide +kernel) ⟨Nat.le_of_ble_eq_true rfl, Nat.le_of_ble_eq_true rfl⟩) (z_preV hK hP hD hS hA hT hN hfo (va_recv hK hP (ci := 7) (q0 := 54) rfl rfl)) rfl rfl hl.1 rfl (lv_room (Nat.le_of_ble_eq_true rfl)) dL_law_188 ⟨Nat.le_of_ble_eq_true rfl, Nat.le_of_ble_eq_true rfl⟩) hP hD hS hA hfo (fun H locs hP hD hS => ?_)
          refine lv_icmp_eq (tgt := 824) hx hb dL_law_191 (by decide) (fun c37 => ?_) (fun c37 => ?_)
          · have hf := if_t c37 hf
            obtain ⟨x38, ex38⟩ : ∃ y : Int32, y = x1 + 4 := ⟨_, rfl⟩
            have hf := lt_use ex38 hf
            refine lv_iinc (v := x38) (lv' := [(3, .int x38), (0, .ref b), (1, .ref (a1 0)), (2, .ref (a8 0))]) hx hb dL_law_824 hl (k := 3) rfl (by rw [ex38]; rfl) (by decide) rfl (fun ls hl => ?_)
            refine lv_goto (tgt := 18) hx hb dL_law_827 (by decide) ?_
            exact ih12 _ _ _ _ _ _ _ _ _ _ _ hP hD hS _ (lv_sub hl [1, 2, 3, 0] rfl) hf
          · have hf := if_f c37 hf
            refine lv_iconst (v := 0) hx hb dL_law_194 (by decide) ?_
            exact absurd hf (by decide)
        have hf := if_f c28 hf
        by_cases c39 : x15 = 2
        · have hf := if_t c39 hf
          refine z_tin (K := 2) hx hb c39 dL_law_32 ⟨rfl, by decide, by decide⟩ (tgt := 196) (by decide) ?_
          refine lv_aload_n hx hb dL_law_196 rfl (lv_at hl 1 rfl) ?_
          refine lv_aload_n hx hb dL_law_197 rfl (lv_at hl 0 rfl) ?_
          refine lv_iload_n hx hb dL_law_198 rfl (lv_at hl 3 rfl) ?_
          refine lv_iconst (v := 1) hx hb dL_law_199 (by decide) ?_
          refine lv_iadd hx hb dL_law_200 ?_
          obtain ⟨h40, hf⟩ := ck_use hf
          refine va_sld hx hb hX hbl hbA hS h40 dL_law_201 ?_
          refine lv_aload_n hx hb dL_law_202 rfl (lv_at hl 0 rfl) ?_
          refine lv_iload_n hx hb dL_law_203 rfl (lv_at hl 3 rfl) ?_
          refine lv_iconst (v := 2) hx hb dL_law_204 (by decide) ?_
          refine lv_iadd hx hb dL_law_205 ?_
          obtain ⟨h41, hf⟩ := ck_use hf
          refine va_sld hx hb hX hbl hbA hS h41 dL_law_206 ?_
          obtain ⟨r42, y43, q44, hf⟩ := bd2_use hf
          have hfo : Foc (WFac z a1 (a2 0) (a3 0) a4 (a6 0) (a7 0) y2 ++ (WDay z a2 y3 ++ (WDay z a3 y4 ++ (WMin a4 (a5 0) y5 ++ (WDay z a5 y6 ++ (WArr z a6 y7 ++ (WLet z a7 y8 ++ (WMod z a8 y9)))))))) (WFac z a1 (a2 0) (a3 0) a4 (a6 0) (a7 0) y2 ++ (WDay z a2 y3 ++ (WDay z a3 y4 ++ (WMin a4 (a5 0) y5 ++ (WDay z a5 y6 ++ (WArr z a6 y7 ++ (WLet z a7 y8))))))) (WFac z a1 (a2 0) (a3 0) a4 (a6 0) (a7 0) y43 ++ (WDay z a2 y3 ++ (WDay z a3 y4 ++ (WMin a4 (a5 0) y5 ++ (WDay z a5 y6 ++ (WArr z a6 y7 ++ (WLet z a7 y8 ++ (WMod z a8 y9)))))))) (WFac z a1 (a2 0) (a3 0) a4 (a6 0) (a7 0) y43 ++ (WDay z a2 y3 ++ (WDay z a3 y4 ++ (WMin a4 (a5 0) y5 ++ (WDay z a5 y6 ++ (WArr z a6 y7 ++ (WLet z a7 y8))))))) := (foc_app foc_all (foc_app foc_all (foc_app foc_all (foc_app foc_all (foc_app foc_all (foc_app foc_all (foc_l foc_all)))))))
          refine z_goI (ws1 := (WFac z a1 (a2 0) (a3 0) a4 (a6 0) (a7 0) y43 ++ (WDay z a2 y3 ++ (WDay z a3 y4 ++ (WMin a4 (a5 0) y5 ++ (WDay z a5 y6 ++ (WArr z a6 y7 ++ (WLet z a7 y8 ++ (WMod z a8 y9))))))))) (va_runV (As := [.int (xs (x1 + 1).toNatClampNeg), .int (xs (x1 + 2).toNatClampNeg)]) (rest := []) ⟨hx, hb, hml, hown, hts⟩ (tX6_comer l D z tt a1 a2 a3 a4 a5 a6 a7 y2 y3 y4 y5 y6 y7 y8 (xs (x1 + 1).toNatClampNeg) (xs (x1 + 2).toNatClampNeg) fu r42 y43 q44 _) (cwV 2 hts (gV4 aw369 aw370 aw371 aw45 aw372) rfl rfl rfl (by decide +kernel) ⟨Nat.le_of_ble_eq_true rfl, Nat.le_of_ble_eq_true rfl⟩) (z_preV hK hP hD hS hA hT hN hfo (va_recv hK hP (ci := 6) (q0 := 0) rfl rfl)) rfl rfl hl.1 rfl (lv_room (Nat.le_of_ble_eq_true rfl)) dL_law_207 ⟨Nat.le_of_ble_eq_true rfl, Nat.le_of_ble_eq_true rfl⟩) hP hD hS hA hfo (fun H locs hP hD hS => ?_)
          refine lv_aload_n hx hb dL_law_210 rfl (lv_at hl 2 rfl) ?_
          refine lv_aload_n hx hb dL_law_211 rfl (lv_at hl 0 rfl) ?_
          refine lv_iload_n hx hb dL_law_212 rfl (lv_at hl 3 rfl) ?_
          refine lv_iconst (v := 1) hx hb dL_law_213 (by decide) ?_
          refine lv_iadd hx hb dL_law_214 ?_
          obtain ⟨h45, hf⟩ := ck_use hf
          refine va_sld hx hb hX hbl hbA hS h45 dL_law_215 ?_
          refine lv_aload_n hx hb dL_law_216 rfl (lv_at hl 0 rfl) ?_
          refine lv_iload_n hx hb dL_law_217 rfl (lv_at hl 3 rfl) ?_
          refine lv_iconst (v := 2) hx hb dL_law_218 (by decide) ?_
          refine lv_iadd hx hb dL_law_219 ?_
          obtain ⟨h46, hf⟩ := ck_use hf
          refine va_sld hx hb hX hbl hbA hS h46 dL_law_220 ?_
          obtain ⟨r47, y48, q49, hf⟩ := bd2_use hf
          have hfo : Foc (WFac z a1 (a2 0) (a3 0) a4 (a6 0) (a7 0) y43 ++ (WDay z a2 y3 ++ (WDay z a3 y4 ++ (WMin a4 (a5 0) y5 ++ (WDay z a5 y6 ++ (WArr z a6 y7 ++ (WLet z a7 y8 ++ (WMod z a8 y9)))))))) (WMod z a8 y9) (WFac z a1 (a2 0) (a3 0) a4 (a6 0) (a7 0) y43 ++ (WDay z a2 y3 ++ (WDay z a3 y4 ++ (WMin a4 (a5 0) y5 ++ (WDay z a5 y6 ++ (WArr z a6 y7 ++ (WLet z a7 y8 ++ (WMod z a8 y48)))))))) (WMod z a8 y48) := (foc_r (foc_r (foc_r (foc_r (foc_r (foc_r (foc_r foc_all)))))))
          refine z_goI (ws1 := (WFac z a1 (a2 0) (a3 0) a4 (a6 0) (a7 0) y43 ++ (WDay z a2 y3 ++ (WDay z a3 y4 ++ (WMin a4 (a5 0) y5 ++ (WDay z a5 y6 ++ (WArr z a6 y7 ++ (WLet z a7 y8 ++ (WMod z a8 y48))))))))) (va_runV (As := [.int (xs (x1 + 1).toNatClampNeg), .int (xs (x1 + 2).toNatClampNeg)]) (rest := [.int r42]) ⟨hx, hb, hml, hown, hts⟩ (tX7_comer l D z tt a8 y9 (xs (x1 + 1).toNatClampNeg) (xs (x1 + 2).toNatClampNeg) fu r47 y48 q49 _) (cwV 2 hts (gV4 aw916 aw917 aw918 aw52 aw919) rfl rfl rfl (by decide +kernel) ⟨Nat.le_of_ble_eq_true rfl, Nat.le_of_ble_eq_true rfl⟩) (z_preV hK hP hD hS hA hT hN hfo (va_recv hK hP (ci := 7) (q0 := 54) rfl rfl)) rfl rfl hl.1 rfl (lv_room (Nat.le_of_ble_eq_true rfl)) dL_law_221 ⟨Nat.le_of_ble_eq_true rfl, Nat.le_of_ble_eq_true rfl⟩) hP hD hS hA hfo (fun H locs hP hD hS => ?_)
          refine lv_icmp_eq (tgt := 824) hx hb dL_law_224 (by decide) (fun c50 => ?_) (fun c50 => ?_)
          · have hf := if_t c50 hf
            obtain ⟨x51, ex51⟩ : ∃ y : Int32, y = x1 + 4 := ⟨_, rfl⟩
            have hf := lt_use ex51 hf
            refine lv_iinc (v := x51) (lv' := [(3, .int x51), (0, .ref b), (1, .ref (a1 0)), (2, .ref (a8 0))]) hx hb dL_law_824 hl (k := 3) rfl (by rw [ex51]; rfl) (by decide) rfl (fun ls hl => ?_)
            refine lv_goto (tgt := 18) hx hb dL_law_827 (by decide) ?_
            exact ih12 _ _ _ _ _ _ _ _ _ _ _ hP hD hS _ (lv_sub hl [1, 2, 3, 0] rfl) hf
          · have hf := if_f c50 hf
            refine lv_iconst (v := 0) hx hb dL_law_227 (by decide) ?_
            exact absurd hf (by decide)
        have hf := if_f c39 hf
        by_cases c52 : x15 = 3
        · have hf := if_t c52 hf
          refine z_tin (K := 3) hx hb c52 dL_law_32 ⟨rfl, by decide, by decide⟩ (tgt := 229) (by decide) ?_
          refine lv_aload_n hx hb dL_law_229 rfl (lv_at hl 1 rfl) ?_
          refine lv_aload_n hx hb dL_law_230 rfl (lv_at hl 0 rfl) ?_
          refine lv_iload_n hx hb dL_law_231 rfl (lv_at hl 3 rfl) ?_
          refine lv_iconst (v := 1) hx hb dL_law_232 (by decide) ?_
          refine lv_iadd hx hb dL_law_233 ?_
          obtain ⟨h53, hf⟩ := ck_use hf
          refine va_sld hx hb hX hbl hbA hS h53 dL_law_234 ?_
          refine lv_aload_n hx hb dL_law_235 rfl (lv_at hl 0 rfl) ?_
          refine lv_iload_n hx hb dL_law_236 rfl (lv_at hl 3 rfl) ?_
          refine lv_iconst (v := 2) hx hb dL_law_237 (by decide) ?_
          refine lv_iadd hx hb dL_law_238 ?_
          obtain ⟨h54, hf⟩ := ck_use hf
          refine va_sld hx hb hX hbl hbA hS h54 dL_law_239 ?_
          refine lv_aload_n hx hb dL_law_240 rfl (lv_at hl 0 rfl) ?_
          refine lv_iload_n hx hb dL_law_241 rfl (lv_at hl 3 rfl) ?_
          refine lv_iconst (v := 3) hx hb dL_law_242 (by decide) ?_
          refine lv_iadd hx hb dL_law_243 ?_
          obtain ⟨h55, hf⟩ := ck_use hf
          refine va_sld hx hb hX hbl hbA hS h55 dL_law_244 ?_
          obtain ⟨r56, y57, y58, q59, hf⟩ := bd3_use hf
          have hfo : Foc (WFac z a1 (a2 0) (a3 0) a4 (a6 0) (a7 0) y2 ++ (WDay z a2 y3 ++ (WDay z a3 y4 ++ (WMin a4 (a5 0) y5 ++ (WDay z a5 y6 ++ (WArr z a6 y7 ++ (WLet z a7 y8 ++ (WMod z a8 y9)))))))) (WFac z a1 (a2 0) (a3 0) a4 (a6 0) (a7 0) y2 ++ (WDay z a2 y3 ++ (WDay z a3 y4 ++ (WMin a4 (a5 0) y5 ++ (WDay z a5 y6 ++ (WArr z a6 y7 ++ (WLet z a7 y8))))))) (WFac z a1 (a2 0) (a3 0) a4 (a6 0) (a7 0) y57 ++ (WDay z a2 y58 ++ (WDay z a3 y4 ++ (WMin a4 (a5 0) y5 ++ (WDay z a5 y6 ++ (WArr z a6 y7 ++ (WLet z a7 y8 ++ (WMod z a8 y9)))))))) (WFac z a1 (a2 0) (a3 0) a4 (a6 0) (a7 0) y57 ++ (WDay z a2 y58 ++ (WDay z a3 y4 ++ (WMin a4 (a5 0) y5 ++ (WDay z a5 y6 ++ (WArr z a6 y7 ++ (WLet z a7 y8))))))) := (foc_app foc_all (foc_app foc_all (foc_app foc_all (foc_app foc_all (foc_app foc_all (foc_app foc_all (foc_l foc_all)))))))
          refine z_goI (ws1 := (WFac z a1 (a2 0) (a3 0) a4 (a6 0) (a7 0) y57 ++ (WDay z a2 y58 ++ (WDay z a3 y4 ++ (WMin a4 (a5 0) y5 ++ (WDay z a5 y6 ++ (WArr z a6 y7 ++ (WLet z a7 y8 ++ (WMod z a8 y9))))))))) (va_runV (As := [.int (xs (x1 + 1).toNatClampNeg), .int (xs (x1 + 2).toNatClampNeg), .int (xs (x1 + 3).toNatClampNeg)]) (rest := []) ⟨hx, hb, hml, hown, hts⟩ (tX6_kind l D z tt a1 a2 a3 a4 a5 a6 a7 y2 y3 y4 y5 y6 y7 y8 (xs (x1 + 1).toNatClampNeg) (xs (x1 + 2).toNatClampNeg) (xs (x1 + 3).toNatClampNeg) fu r56 y57 y58 q59 _) (cwV 3 hts (gV4 aw397 aw398 aw399 aw45 aw400) rfl rfl rfl (by decide +kernel) ⟨Nat.le_of_ble_eq_true rfl, Nat.le_of_ble_eq_true rfl⟩) (z_preV hK hP hD hS hA hT hN hfo (va_recv hK hP (ci := 6) (q0 := 0) rfl rfl)) rfl rfl hl.1 rfl (lv_room (Nat.le_of_ble_eq_true rfl)) dL_law_245 ⟨Nat.le_of_ble_eq_true rfl, Nat.le_of_ble_eq_true rfl⟩) hP hD hS hA hfo (fun H locs hP hD hS => ?_)
          refine lv_aload_n hx hb dL_law_248 rfl (lv_at hl 2 rfl) ?_
          refine lv_aload_n hx hb dL_law_249 rfl (lv_at hl 0 rfl) ?_
          refine lv_iload_n hx hb dL_law_250 rfl (lv_at hl 3 rfl) ?_
          refine lv_iconst (v := 1) hx hb dL_law_251 (by decide) ?_
          refine lv_iadd hx hb dL_law_252 ?_
          obtain ⟨h60, hf⟩ := ck_use hf
          refine va_sld hx hb hX hbl hbA hS h60 dL_law_253 ?_
          refine lv_aload_n hx hb dL_law_254 rfl (lv_at hl 0 rfl) ?_
          refine lv_iload_n hx hb dL_law_255 rfl (lv_at hl 3 rfl) ?_
          refine lv_iconst (v := 2) hx hb dL_law_256 (by decide) ?_
          refine lv_iadd hx hb dL_law_257 ?_
          obtain ⟨h61, hf⟩ := ck_use hf
          refine va_sld hx hb hX hbl hbA hS h61 dL_law_258 ?_
          refine lv_aload_n hx hb dL_law_259 rfl (lv_at hl 0 rfl) ?_
          refine lv_iload_n hx hb dL_law_260 rfl (lv_at hl 3 rfl) ?_
          refine lv_iconst (v := 3) hx hb dL_law_261 (by decide) ?_
          refine lv_iadd hx hb dL_law_262 ?_
          obtain ⟨h62, hf⟩ := ck_use hf
          refine va_sld hx hb hX hbl hbA hS h62 dL_law_263 ?_
          obtain ⟨r63, y64, q65, hf⟩ := bd2_use hf
          have hfo : Foc (WFac z a1 (a2 0) (a3 0) a4 (a6 0) (a7 0) y57 ++ (WDay z a2 y58 ++ (WDay z a3 y4 ++ (WMin a4 (a5 0) y5 ++ (WDay z a5 y6 ++ (WArr z a6 y7 ++ (WLet z a7 y8 ++ (WMod z a8 y9)))))))) (WMod z a8 y9) (WFac z a1 (a2 0) (a3 0) a4 (a6 0) (a7 0) y57 ++ (WDay z a2 y58 ++ (WDay z a3 y4 ++ (WMin a4 (a5 0) y5 ++ (WDay z a5 y6 ++ (WArr z a6 y7 ++ (WLet z a7 y8 ++ (WMod z a8 y64)))))))) (WMod z a8 y64) := (foc_r (foc_r (foc_r (foc_r (foc_r (foc_r (foc_r foc_all)))))))
          refine z_goI (ws1 := (WFac z a1 (a2 0) (a3 0) a4 (a6 0) (a7 0) y57 ++ (WDay z a2 y58 ++ (WDay z a3 y4 ++ (WMin a4 (a5 0) y5 ++ (WDay z a5 y6 ++ (WArr z a6 y7 ++ (WLet z a7 y8 ++ (WMod z a8 y64))))))))) (va_runV (As := [.int (xs (x1 + 1).toNatClampNeg), .int (xs (x1 + 2).toNatClampNeg), .int (xs (x1 + 3).toNatClampNeg)]) (rest := [.int r56]) ⟨hx, hb, hml, hown, hts⟩ (tX7_kind l D z tt a8 y9 (xs (x1 + 1).toNatClampNeg) (xs (x1 + 2).toNatClampNeg) (xs (x1 + 3).toNatClampNeg) fu r63 y64 q65 _) (cwV 3 hts (gV4 aw936 aw937 aw938 aw52 aw939) rfl rfl rfl (by decide +kernel) ⟨Nat.le_of_ble_eq_true rfl, Nat.le_of_ble_eq_true rfl⟩) (z_preV hK hP hD hS hA hT hN hfo (va_recv hK hP (ci := 7) (q0 := 54) rfl rfl)) rfl rfl hl.1 rfl (lv_room (Nat.le_of_ble_eq_true rfl)) dL_law_264 ⟨Nat.le_of_ble_eq_true rfl, Nat.le_of_ble_eq_true rfl⟩) hP hD hS hA hfo (fun H locs hP hD hS => ?_)
          refine lv_icmp_eq (tgt := 824) hx hb dL_law_267 (by decide) (fun c66 => ?_) (fun c66 => ?_)
          · have hf := if_t c66 hf
            obtain ⟨x67, ex67⟩ : ∃ y : Int32, y = x1 + 4 := ⟨_, rfl⟩
            have hf := lt_use ex67 hf
            refine lv_iinc (v := x67) (lv' := [(3, .int x67), (0, .ref b), (1, .ref (a1 0)), (2, .ref (a8 0))]) hx hb dL_law_824 hl (k := 3) rfl (by rw [ex67]; rfl) (by decide) rfl (fun ls hl => ?_)
            refine lv_goto (tgt := 18) hx hb dL_law_827 (by decide) ?_
            exact ih12 _ _ _ _ _ _ _ _ _ _ _ hP hD hS _ (lv_sub hl [1, 2, 3, 0] rfl) hf
          · have hf := if_f c66 hf
            refine lv_iconst (v := 0) hx hb dL_law_270 (by decide) ?_
            exact absurd hf (by decide)
        have hf := if_f c52 hf
        by_cases c68 : x15 = 4
        · have hf := if_t c68 hf
          refine z_tin (K := 4) hx hb c68 dL_law_32 ⟨rfl, by decide, by decide⟩ (tgt := 272) (by decide) ?_
          refine lv_aload_n hx hb dL_law_272 rfl (lv_at hl 1 rfl) ?_
          refine lv_aload_n hx hb dL_law_273 rfl (lv_at hl 0 rfl) ?_
          refine lv_iload_n hx hb dL_law_274 rfl (lv_at hl 3 rfl) ?_
          refine lv_iconst (v := 1) hx hb dL_law_275 (by decide) ?_
          refine lv_iadd hx hb dL_law_276 ?_
          obtain ⟨h69, hf⟩ := ck_use hf
          refine va_sld hx hb hX hbl hbA hS h69 dL_law_277 ?_
          refine lv_aload_n hx hb dL_law_278 rfl (lv_at hl 0 rfl) ?_
          refine lv_iload_n hx hb dL_law_279 rfl (lv_at hl 3 rfl) ?_
          refine lv_iconst (v := 2) hx hb dL_law_280 (by decide) ?_
          refine lv_iadd hx hb dL_law_281 ?_
          obtain ⟨h70, hf⟩ := ck_use hf
          refine va_sld hx hb hX hbl hbA hS h70 dL_law_282 ?_
          obtain ⟨r71, y72, q73, hf⟩ := bd2_use hf
          have hfo : Foc (WFac z a1 (a2 0) (a3 0) a4 (a6 0) (a7 0) y2 ++ (WDay z a2 y3 ++ (WDay z a3 y4 ++ (WMin a4 (a5 0) y5 ++ (WDay z a5 y6 ++ (WArr z a6 y7 ++ (WLet z a7 y8 ++ (WMod z a8 y9)))))))) (WFac z a1 (a2 0) (a3 0) a4 (a6 0) (a7 0) y2 ++ (WDay z a2 y3 ++ (WDay z a3 y4 ++ (WMin a4 (a5 0) y5 ++ (WDay z a5 y6 ++ (WArr z a6 y7 ++ (WLet z a7 y8))))))) (WFac z a1 (a2 0) (a3 0) a4 (a6 0) (a7 0) y72 ++ (WDay z a2 y3 ++ (WDay z a3 y4 ++ (WMin a4 (a5 0) y5 ++ (WDay z a5 y6 ++ (WArr z a6 y7 ++ (WLet z a7 y8 ++ (WMod z a8 y9)))))))) (WFac z a1 (a2 0) (a3 0) a4 (a6 0) (a7 0) y72 ++ (WDay z a2 y3 ++ (WDay z a3 y4 ++ (WMin a4 (a5 0) y5 ++ (WDay z a5 y6 ++ (WArr z a6 y7 ++ (WLet z a7 y8))))))) := (foc_app foc_all (foc_app foc_all (foc_app foc_all (foc_app foc_all (foc_app foc_all (foc_app foc_all (foc_l foc_all)))))))
          refine z_goI (ws1 := (WFac z a1 (a2 0) (a3 0) a4 (a6 0) (a7 0) y72 ++ (WDay z a2 y3 ++ (WDay z a3 y4 ++ (WMin a4 (a5 0) y5 ++ (WDay z a5 y6 ++ (WArr z a6 y7 ++ (WLet z a7 y8 ++ (WMod z a8 y9))))))))) (va_runV (As := [.int (xs (x1 + 1).toNatClampNeg), .int (xs (x1 + 2).toNatClampNeg)]) (rest := []) ⟨hx, hb, hml, hown, hts⟩ (tX6_kettle l D z tt a1 a2 a3 a4 a5 a6 a7 y2 y3 y4 y5 y6 y7 y8 (xs (x1 + 1).toNatClampNeg) (xs (x1 + 2).toNatClampNeg) fu r71 y72 q73 _) (cwV 2 hts (gV4 aw402 aw403 aw404 aw45 aw405) rfl rfl rfl (by decide +kernel) ⟨Nat.le_of_ble_eq_true rfl, Nat.le_of_ble_eq_true rfl⟩) (z_preV hK hP hD hS hA hT hN hfo (va_recv hK hP (ci := 6) (q0 := 0) rfl rfl)) rfl rfl hl.1 rfl (lv_room (Nat.le_of_ble_eq_true rfl)) dL_law_283 ⟨Nat.le_of_ble_eq_true rfl, Nat.le_of_ble_eq_true rfl⟩) hP hD hS hA hfo (fun H locs hP hD hS => ?_)
          refine lv_aload_n hx hb dL_law_286 rfl (lv_at hl 2 rfl) ?_
          refine lv_aload_n hx hb dL_law_287 rfl (lv_at hl 0 rfl) ?_
          refine lv_iload_n hx hb dL_law_288 rfl (lv_at hl 3 rfl) ?_
          refine lv_iconst (v := 1) hx hb dL_law_289 (by decide) ?_
          refine lv_iadd hx hb dL_law_290 ?_
          obtain ⟨h74, hf⟩ := ck_use hf
          refine va_sld hx hb hX hbl hbA hS h74 dL_law_291 ?_
          refine lv_aload_n hx hb dL_law_292 rfl (lv_at hl 0 rfl) ?_
          refine lv_iload_n hx hb dL_law_293 rfl (lv_at hl 3 rfl) ?_
          refine lv_iconst (v := 2) hx hb dL_law_294 (by decide) ?_
          refine lv_iadd hx hb dL_law_295 ?_
          obtain ⟨h75, hf⟩ := ck_use hf
          refine va_sld hx hb hX hbl hbA hS h75 dL_law_296 ?_
          obtain ⟨r76, y77, q78, hf⟩ := bd2_use hf
          have hfo : Foc (WFac z a1 (a2 0) (a3 0) a4 (a6 0) (a7 0) y72 ++ (WDay z a2 y3 ++ (WDay z a3 y4 ++ (WMin a4 (a5 0) y5 ++ (WDay z a5 y6 ++ (WArr z a6 y7 ++ (WLet z a7 y8 ++ (WMod z a8 y9)))))))) (WMod z a8 y9) (WFac z a1 (a2 0) (a3 0) a4 (a6 0) (a7 0) y72 ++ (WDay z a2 y3 ++ (WDay z a3 y4 ++ (WMin a4 (a5 0) y5 ++ (WDay z a5 y6 ++ (WArr z a6 y7 ++ (WLet z a7 y8 ++ (WMod z a8 y77)))))))) (WMod z a8 y77) := (foc_r (foc_r (foc_r (foc_r (foc_r (foc_r (foc_r foc_all)))))))
          refine z_goI (ws1 := (WFac z a1 (a2 0) (a3 0) a4 (a6 0) (a7 0) y72 ++ (WDay z a2 y3 ++ (WDay z a3 y4 ++ (WMin a4 (a5 0) y5 ++ (WDay z a5 y6 ++ (WArr z a6 y7 ++ (WLet z a7 y8 ++ (WMod z a8 y77))))))))) (va_runV (As := [.int (xs (x1 + 1).toNatClampNeg), .int (xs (x1 + 2).toNatClampNeg)]) (rest := [.int r71]) ⟨hx, hb, hml, hown, hts⟩ (tX7_kettle l D z tt a8 y9 (xs (x1 + 1).toNatClampNeg) (xs (x1 + 2).toNatClampNeg) fu r76 y77 q78 _) (cwV 2 hts (gV4 aw940 aw941 aw942 aw52 aw943) rfl rfl rfl (by decide +kernel) ⟨Nat.le_of_ble_eq_true rfl, Nat.le_of_ble_eq_true rfl⟩) (z_preV hK hP hD hS hA hT hN hfo (va_recv hK hP (ci := 7) (q0 := 54) rfl rfl)) rfl rfl hl.1 rfl (lv_room (Nat.le_of_ble_eq_true rfl)) dL_law_297 ⟨Nat.le_of_ble_eq_true rfl, Nat.le_of_ble_eq_true rfl⟩) hP hD hS hA hfo (fun H locs hP hD hS => ?_)
          refine lv_icmp_eq (tgt := 824) hx hb dL_law_300 (by decide) (fun c79 => ?_) (fun c79 => ?_)
          · have hf := if_t c79 hf
            obtain ⟨x80, ex80⟩ : ∃ y : Int32, y = x1 + 4 := ⟨_, rfl⟩
            have hf := lt_use ex80 hf
            refine lv_iinc (v := x80) (lv' := [(3, .int x80), (0, .ref b), (1, .ref (a1 0)), (2, .ref (a8 0))]) hx hb dL_law_824 hl (k := 3) rfl (by rw [ex80]; rfl) (by decide) rfl (fun ls hl => ?_)
            refine lv_goto (tgt := 18) hx hb dL_law_827 (by decide) ?_
            exact ih12 _ _ _ _ _ _ _ _ _ _ _ hP hD hS _ (lv_sub hl [1, 2, 3, 0] rfl) hf
          · have hf := if_f c79 hf
            refine lv_iconst (v := 0) hx hb dL_law_303 (by decide) ?_
            exact absurd hf (by decide)
        have hf := if_f c68 hf
        by_cases c81 : x15 = 5
        · have hf := if_t c81 hf
          refine z_tin (K := 5) hx hb c81 dL_law_32 ⟨rfl, by decide, by decide⟩ (tgt := 305) (by decide) ?_
          refine lv_aload_n hx hb dL_law_305 rfl (lv_at hl 1 rfl) ?_
          refine lv_aload_n hx hb dL_law_306 rfl (lv_at hl 0 rfl) ?_
          refine lv_iload_n hx hb dL_law_307 rfl (lv_at hl 3 rfl) ?_
          refine lv_iconst (v := 1) hx hb dL_law_308 (by decide) ?_
          refine lv_iadd hx hb dL_law_309 ?_
          obtain ⟨h82, hf⟩ := ck_use hf
          refine va_sld hx hb hX hbl hbA hS h82 dL_law_310 ?_
          refine lv_aload_n hx hb dL_law_311 rfl (lv_at hl 0 rfl) ?_
          refine lv_iload_n hx hb dL_law_312 rfl (lv_at hl 3 rfl) ?_
          refine lv_iconst (v := 2) hx hb dL_law_313 (by decide) ?_
          refine lv_iadd hx hb dL_law_314 ?_
          obtain ⟨h83, hf⟩ := ck_use hf
          refine va_sld hx hb hX hbl hbA hS h83 dL_law_315 ?_
          obtain ⟨r84, y85, y86, q87, hf⟩ := bd3_use hf
          have hfo : Foc (WFac z a1 (a2 0) (a3 0) a4 (a6 0) (a7 0) y2 ++ (WDay z a2 y3 ++ (WDay z a3 y4 ++ (WMin a4 (a5 0) y5 ++ (WDay z a5 y6 ++ (WArr z a6 y7 ++ (WLet z a7 y8 ++ (WMod z a8 y9)))))))) (WFac z a1 (a2 0) (a3 0) a4 (a6 0) (a7 0) y2 ++ (WDay z a2 y3 ++ (WDay z a3 y4 ++ (WMin a4 (a5 0) y5 ++ (WDay z a5 y6 ++ (WArr z a6 y7 ++ (WLet z a7 y8))))))) (WFac z a1 (a2 0) (a3 0) a4 (a6 0) (a7 0) y85 ++ (WDay z a2 y86 ++ (WDay z a3 y4 ++ (WMin a4 (a5 0) y5 ++ (WDay z a5 y6 ++ (WArr z a6 y7 ++ (WLet z a7 y8 ++ (WMod z a8 y9)))))))) (WFac z a1 (a2 0) (a3 0) a4 (a6 0) (a7 0) y85 ++ (WDay z a2 y86 ++ (WDay z a3 y4 ++ (WMin a4 (a5 0) y5 ++ (WDay z a5 y6 ++ (WArr z a6 y7 ++ (WLet z a7 y8))))))) := (foc_app foc_all (foc_app foc_all (foc_app foc_all (foc_app foc_all (foc_app foc_all (foc_app foc_all (foc_l foc_all)))))))
          refine z_goI (ws1 := (WFac z a1 (a2 0) (a3 0) a4 (a6 0) (a7 0) y85 ++ (WDay z a2 y86 ++ (WDay z a3 y4 ++ (WMin a4 (a5 0) y5 ++ (WDay z a5 y6 ++ (WArr z a6 y7 ++ (WLet z a7 y8 ++ (WMod z a8 y9))))))))) (va_runV (As := [.int (xs (x1 + 1).toNatClampNeg), .int (xs (x1 + 2).toNatClampNeg)]) (rest := []) ⟨hx, hb, hml, hown, hts⟩ (tX6_set l D z tt a1 a2 a3 a4 a5 a6 a7 y2 y3 y4 y5 y6 y7 y8 (xs (x1 + 1).toNatClampNeg) (xs (x1 + 2).toNatClampNeg) fu r84 y85 y86 q87 _) (cwV 2 hts (gV4 aw412 aw413 aw414 aw45 aw415) rfl rfl rfl (by decide +kernel) ⟨Nat.le_of_ble_eq_true rfl, Nat.le_of_ble_eq_true rfl⟩) (z_preV hK hP hD hS hA hT hN hfo (va_recv hK hP (ci := 6) (q0 := 0) rfl rfl)) rfl rfl hl.1 rfl (lv_room (Nat.le_of_ble_eq_true rfl)) dL_law_316 ⟨Nat.le_of_ble_eq_true rfl, Nat.le_of_ble_eq_true rfl⟩) hP hD hS hA hfo (fun H locs hP hD hS => ?_)
          refine lv_aload_n hx hb dL_law_319 rfl (lv_at hl 2 rfl) ?_
          refine lv_aload_n hx hb dL_law_320 rfl (lv_at hl 0 rfl) ?_
          refine lv_iload_n hx hb dL_law_321 rfl (lv_at hl 3 rfl) ?_
          refine lv_iconst (v := 1) hx hb dL_law_322 (by decide) ?_
          refine lv_iadd hx hb dL_law_323 ?_
          obtain ⟨h88, hf⟩ := ck_use hf
          refine va_sld hx hb hX hbl hbA hS h88 dL_law_324 ?_
          refine lv_aload_n hx hb dL_law_325 rfl (lv_at hl 0 rfl) ?_
          refine lv_iload_n hx hb dL_law_326 rfl (lv_at hl 3 rfl) ?_
          refine lv_iconst (v := 2) hx hb dL_law_327 (by decide) ?_
          refine lv_iadd hx hb dL_law_328 ?_
          obtain ⟨h89, hf⟩ := ck_use hf
          refine va_sld hx hb hX hbl hbA hS h89 dL_law_329 ?_
          obtain ⟨r90, y91, q92, hf⟩ := bd2_use hf
          have hfo : Foc (WFac z a1 (a2 0) (a3 0) a4 (a6 0) (a7 0) y85 ++ (WDay z a2 y86 ++ (WDay z a3 y4 ++ (WMin a4 (a5 0) y5 ++ (WDay z a5 y6 ++ (WArr z a6 y7 ++ (WLet z a7 y8 ++ (WMod z a8 y9)))))))) (WMod z a8 y9) (WFac z a1 (a2 0) (a3 0) a4 (a6 0) (a7 0) y85 ++ (WDay z a2 y86 ++ (WDay z a3 y4 ++ (WMin a4 (a5 0) y5 ++ (WDay z a5 y6 ++ (WArr z a6 y7 ++ (WLet z a7 y8 ++ (WMod z a8 y91)))))))) (WMod z a8 y91) := (foc_r (foc_r (foc_r (foc_r (foc_r (foc_r (foc_r foc_all)))))))
          refine z_goI (ws1 := (WFac z a1 (a2 0) (a3 0) a4 (a6 0) (a7 0) y85 ++ (WDay z a2 y86 ++ (WDay z a3 y4 ++ (WMin a4 (a5 0) y5 ++ (WDay z a5 y6 ++ (WArr z a6 y7 ++ (WLet z a7 y8 ++ (WMod z a8 y91))))))))) (va_runV (As := [.int (xs (x1 + 1).toNatClampNeg), .int (xs (x1 + 2).toNatClampNeg)]) (rest := [.int r84]) ⟨hx, hb, hml, hown, hts⟩ (tX7_set l D z tt a8 y9 (xs (x1 + 1).toNatClampNeg) (xs (x1 + 2).toNatClampNeg) fu r90 y91 q92 _) (cwV 2 hts (gV4 aw948 aw949 aw950 aw52 aw951) rfl rfl rfl (by decide +kernel) ⟨Nat.le_of_ble_eq_true rfl, Nat.le_of_ble_eq_true rfl⟩) (z_preV hK hP hD hS hA hT hN hfo (va_recv hK hP (ci := 7) (q0 := 54) rfl rfl)) rfl rfl hl.1 rfl (lv_room (Nat.le_of_ble_eq_true rfl)) dL_law_330 ⟨Nat.le_of_ble_eq_true rfl, Nat.le_of_ble_eq_true rfl⟩) hP hD hS hA hfo (fun H locs hP hD hS => ?_)
          refine lv_icmp_eq (tgt := 824) hx hb dL_law_333 (by decide) (fun c93 => ?_) (fun c93 => ?_)
          · have hf := if_t c93 hf
            obtain ⟨x94, ex94⟩ : ∃ y : Int32, y = x1 + 4 := ⟨_, rfl⟩
            have hf := lt_use ex94 hf
            refine lv_iinc (v := x94) (lv' := [(3, .int x94), (0, .ref b), (1, .ref (a1 0)), (2, .ref (a8 0))]) hx hb dL_law_824 hl (k := 3) rfl (by rw [ex94]; rfl) (by decide) rfl (fun ls hl => ?_)
            refine lv_goto (tgt := 18) hx hb dL_law_827 (by decide) ?_
            exact ih12 _ _ _ _ _ _ _ _ _ _ _ hP hD hS _ (lv_sub hl [1, 2, 3, 0] rfl) hf
          · have hf := if_f c93 hf
            refine lv_iconst (v := 0) hx hb dL_law_336 (by decide) ?_
            exact absurd hf (by decide)
        have hf := if_f c81 hf
        by_cases c95 : x15 = 6
        · have hf := if_t c95 hf
          refine z_tin (K := 6) hx hb c95 dL_law_32 ⟨rfl, by decide, by decide⟩ (tgt := 338) (by decide) ?_
          refine lv_aload_n hx hb dL_law_338 rfl (lv_at hl 1 rfl) ?_
          refine lv_aload_n hx hb dL_law_339 rfl (lv_at hl 0 rfl) ?_
          refine lv_iload_n hx hb dL_law_340 rfl (lv_at hl 3 rfl) ?_
          refine lv_iconst (v := 1) hx hb dL_law_341 (by decide) ?_
          refine lv_iadd hx hb dL_law_342 ?_
          obtain ⟨h96, hf⟩ := ck_use hf
          refine va_sld hx hb hX hbl hbA hS h96 dL_law_343 ?_
          obtain ⟨r97, y98, y99, q100, hf⟩ := bd3_use hf
          have hfo : Foc (WFac z a1 (a2 0) (a3 0) a4 (a6 0) (a7 0) y2 ++ (WDay z a2 y3 ++ (WDay z a3 y4 ++ (WMin a4 (a5 0) y5 ++ (WDay z a5 y6 ++ (WArr z a6 y7 ++ (WLet z a7 y8 ++ (WMod z a8 y9)))))))) (WFac z a1 (a2 0) (a3 0) a4 (a6 0) (a7 0) y2 ++ (WDay z a2 y3 ++ (WDay z a3 y4 ++ (WMin a4 (a5 0) y5 ++ (WDay z a5 y6 ++ (WArr z a6 y7 ++ (WLet z a7 y8))))))) (WFac z a1 (a2 0) (a3 0) a4 (a6 0) (a7 0) y98 ++ (WDay z a2 y99 ++ (WDay z a3 y4 ++ (WMin a4 (a5 0) y5 ++ (WDay z a5 y6 ++ (WArr z a6 y7 ++ (WLet z a7 y8 ++ (WMod z a8 y9)))))))) (WFac z a1 (a2 0) (a3 0) a4 (a6 0) (a7 0) y98 ++ (WDay z a2 y99 ++ (WDay z a3 y4 ++ (WMin a4 (a5 0) y5 ++ (WDay z a5 y6 ++ (WArr z a6 y7 ++ (WLet z a7 y8))))))) := (foc_app foc_all (foc_app foc_all (foc_app foc_all (foc_app foc_all (foc_app foc_all (foc_app foc_all (foc_l foc_all)))))))
          refine z_goI (ws1 := (WFac z a1 (a2 0) (a3 0) a4 (a6 0) (a7 0) y98 ++ (WDay z a2 y99 ++ (WDay z a3 y4 ++ (WMin a4 (a5 0) y5 ++ (WDay z a5 y6 ++ (WArr z a6 y7 ++ (WLet z a7 y8 ++ (WMod z a8 y9))))))))) (va_runV (As := [.int (xs (x1 + 1).toNatClampNeg)]) (rest := []) ⟨hx, hb, hml, hown, hts⟩ (tX6_go l D z tt a1 a2 a3 a4 a5 a6 a7 y2 y3 y4 y5 y6 y7 y8 (xs (x1 + 1).toNatClampNeg) fu r97 y98 y99 q100 _) (cwV 1 hts (gV4 aw418 aw419 aw420 aw45 aw421) rfl rfl rfl (by decide +kernel) ⟨Nat.le_of_ble_eq_true rfl, Nat.le_of_ble_eq_true rfl⟩) (z_preV hK hP hD hS hA hT hN hfo (va_recv hK hP (ci := 6) (q0 := 0) rfl rfl)) rfl rfl hl.1 rfl (lv_room (Nat.le_of_ble_eq_true rfl)) dL_law_344 ⟨Nat.le_of_ble_eq_true rfl, Nat.le_of_ble_eq_true rfl⟩) hP hD hS hA hfo (fun H locs hP hD hS => ?_)
          refine lv_aload_n hx hb dL_law_347 rfl (lv_at hl 2 rfl) ?_
          refine lv_aload_n hx hb dL_law_348 rfl (lv_at hl 0 rfl) ?_
          refine lv_iload_n hx hb dL_law_349 rfl (lv_at hl 3 rfl) ?_
          refine lv_iconst (v := 1) hx hb dL_law_350 (by decide) ?_
          refine lv_iadd hx hb dL_law_351 ?_
          obtain ⟨h101, hf⟩ := ck_use hf
          refine va_sld hx hb hX hbl hbA hS h101 dL_law_352 ?_
          obtain ⟨r102, y103, q104, hf⟩ := bd2_use hf
          have hfo : Foc (WFac z a1 (a2 0) (a3 0) a4 (a6 0) (a7 0) y98 ++ (WDay z a2 y99 ++ (WDay z a3 y4 ++ (WMin a4 (a5 0) y5 ++ (WDay z a5 y6 ++ (WArr z a6 y7 ++ (WLet z a7 y8 ++ (WMod z a8 y9)))))))) (WMod z a8 y9) (WFac z a1 (a2 0) (a3 0) a4 (a6 0) (a7 0) y98 ++ (WDay z a2 y99 ++ (WDay z a3 y4 ++ (WMin a4 (a5 0) y5 ++ (WDay z a5 y6 ++ (WArr z a6 y7 ++ (WLet z a7 y8 ++ (WMod z a8 y103)))))))) (WMod z a8 y103) := (foc_r (foc_r (foc_r (foc_r (foc_r (foc_r (foc_r foc_all)))))))
          refine z_goI (ws1 := (WFac z a1 (a2 0) (a3 0) a4 (a6 0) (a7 0) y98 ++ (WDay z a2 y99 ++ (WDay z a3 y4 ++ (WMin a4 (a5 0) y5 ++ (WDay z a5 y6 ++ (WArr z a6 y7 ++ (WLet z a7 y8 ++ (WMod z a8 y103))))))))) (va_runV (As := [.int (xs (x1 + 1).toNatClampNeg)]) (rest := [.int r97]) ⟨hx, hb, hml, hown, hts⟩ (tX7_go l D z tt a8 y9 (xs (x1 + 1).toNatClampNeg) fu r102 y103 q104 _) (cwV 1 hts (gV4 aw952 aw953 aw954 aw52 aw955) rfl rfl rfl (by decide +kernel) ⟨Nat.le_of_ble_eq_true rfl, Nat.le_of_ble_eq_true rfl⟩) (z_preV hK hP hD hS hA hT hN hfo (va_recv hK hP (ci := 7) (q0 := 54) rfl rfl)) rfl rfl hl.1 rfl (lv_room (Nat.le_of_ble_eq_true rfl)) dL_law_353 ⟨Nat.le_of_ble_eq_true rfl, Nat.le_of_ble_eq_true rfl⟩) hP hD hS hA hfo (fun H locs hP hD hS => ?_)
          refine lv_icmp_eq (tgt := 824) hx hb dL_law_356 (by decide) (fun c105 => ?_) (fun c105 => ?_)
          · have hf := if_t c105 hf
            obtain ⟨x106, ex106⟩ : ∃ y : Int32, y = x1 + 4 := ⟨_, rfl⟩
            have hf := lt_use ex106 hf
            refine lv_iinc (v := x106) (lv' := [(3, .int x106), (0, .ref b), (1, .ref (a1 0)), (2, .ref (a8 0))]) hx hb dL_law_824 hl (k := 3) rfl (by rw [ex106]; rfl) (by decide) rfl (fun ls hl => ?_)
            refine lv_goto (tgt := 18) hx hb dL_law_827 (by decide) ?_
            exact ih12 _ _ _ _ _ _ _ _ _ _ _ hP hD hS _ (lv_sub hl [1, 2, 3, 0] rfl) hf
          · have hf := if_f c105 hf
            refine lv_iconst (v := 0) hx hb dL_law_359 (by decide) ?_
            exact absurd hf (by decide)
        have hf := if_f c95 hf
        by_cases c107 : x15 = 7
        · have hf := if_t c107 hf
          refine z_tin (K := 7) hx hb c107 dL_law_32 ⟨rfl, by decide, by decide⟩ (tgt := 361) (by decide) ?_
          refine lv_aload_n hx hb dL_law_361 rfl (lv_at hl 1 rfl) ?_
          obtain ⟨r108, y109, q110, hf⟩ := bd2_use hf
          have hfo : Foc (WFac z a1 (a2 0) (a3 0) a4 (a6 0) (a7 0) y2 ++ (WDay z a2 y3 ++ (WDay z a3 y4 ++ (WMin a4 (a5 0) y5 ++ (WDay z a5 y6 ++ (WArr z a6 y7 ++ (WLet z a7 y8 ++ (WMod z a8 y9)))))))) (WFac z a1 (a2 0) (a3 0) a4 (a6 0) (a7 0) y2 ++ (WDay z a2 y3 ++ (WDay z a3 y4 ++ (WMin a4 (a5 0) y5 ++ (WDay z a5 y6 ++ (WArr z a6 y7 ++ (WLet z a7 y8))))))) (WFac z a1 (a2 0) (a3 0) a4 (a6 0) (a7 0) y2 ++ (WDay z a2 y109 ++ (WDay z a3 y4 ++ (WMin a4 (a5 0) y5 ++ (WDay z a5 y6 ++ (WArr z a6 y7 ++ (WLet z a7 y8 ++ (WMod z a8 y9)))))))) (WFac z a1 (a2 0) (a3 0) a4 (a6 0) (a7 0) y2 ++ (WDay z a2 y109 ++ (WDay z a3 y4 ++ (WMin a4 (a5 0) y5 ++ (WDay z a5 y6 ++ (WArr z a6 y7 ++ (WLet z a7 y8))))))) := (foc_app foc_all (foc_app foc_all (foc_app foc_all (foc_app foc_all (foc_app foc_all (foc_app foc_all (foc_l foc_all)))))))
          refine z_goI (ws1 := (WFac z a1 (a2 0) (a3 0) a4 (a6 0) (a7 0) y2 ++ (WDay z a2 y109 ++ (WDay z a3 y4 ++ (WMin a4 (a5 0) y5 ++ (WDay z a5 y6 ++ (WArr z a6 y7 ++ (WLet z a7 y8 ++ (WMod z a8 y9))))))))) (va_runV (As := []) (rest := []) ⟨hx, hb, hml, hown, hts⟩ (tX6_anew l D z tt a1 a2 a3 a4 a5 a6 a7 y2 y3 y4 y5 y6 y7 y8  fu r108 y109 q110 _) (cwV 0 hts (gV4 aw503 aw504 aw505 aw45 aw506) rfl rfl rfl (by decide +kernel) ⟨Nat.le_of_ble_eq_true rfl, Nat.le_of_ble_eq_true rfl⟩) (z_preV hK hP hD hS hA hT hN hfo (va_recv hK hP (ci := 6) (q0 := 0) rfl rfl)) rfl rfl hl.1 rfl (lv_room (Nat.le_of_ble_eq_true rfl)) dL_law_362 ⟨Nat.le_of_ble_eq_true rfl, Nat.le_of_ble_eq_true rfl⟩) hP hD hS hA hfo (fun H locs hP hD hS => ?_)
          refine lv_aload_n hx hb dL_law_365 rfl (lv_at hl 2 rfl) ?_
          obtain ⟨r111, y112, q113, hf⟩ := bd2_use hf
          have hfo : Foc (WFac z a1 (a2 0) (a3 0) a4 (a6 0) (a7 0) y2 ++ (WDay z a2 y109 ++ (WDay z a3 y4 ++ (WMin a4 (a5 0) y5 ++ (WDay z a5 y6 ++ (WArr z a6 y7 ++ (WLet z a7 y8 ++ (WMod z a8 y9)))))))) (WMod z a8 y9) (WFac z a1 (a2 0) (a3 0) a4 (a6 0) (a7 0) y2 ++ (WDay z a2 y109 ++ (WDay z a3 y4 ++ (WMin a4 (a5 0) y5 ++ (WDay z a5 y6 ++ (WArr z a6 y7 ++ (WLet z a7 y8 ++ (WMod z a8 y112)))))))) (WMod z a8 y112) := (foc_r (foc_r (foc_r (foc_r (foc_r (foc_r (foc_r foc_all)))))))
          refine z_goI (ws1 := (WFac z a1 (a2 0) (a3 0) a4 (a6 0) (a7 0) y2 ++ (WDay z a2 y109 ++ (WDay z a3 y4 ++ (WMin a4 (a5 0) y5 ++ (WDay z a5 y6 ++ (WArr z a6 y7 ++ (WLet z a7 y8 ++ (WMod z a8 y112))))))))) (va_runV (As := []) (rest := [.int r108]) ⟨hx, hb, hml, hown, hts⟩ (tX7_anew l D z tt a8 y9  fu r111 y112 q113 _) (cwV 0 hts (gV4 aw992 aw993 aw994 aw52 aw995) rfl rfl rfl (by decide +kernel) ⟨Nat.le_of_ble_eq_true rfl, Nat.le_of_ble_eq_true rfl⟩) (z_preV hK hP hD hS hA hT hN hfo (va_recv hK hP (ci := 7) (q0 := 54) rfl rfl)) rfl rfl hl.1 rfl (lv_room (Nat.le_of_ble_eq_true rfl)) dL_law_366 ⟨Nat.le_of_ble_eq_true rfl, Nat.le_of_ble_eq_true rfl⟩) hP hD hS hA hfo (fun H locs hP hD hS => ?_)
          refine lv_icmp_eq (tgt := 824) hx hb dL_law_369 (by decide) (fun c114 => ?_) (fun c114 => ?_)
          · have hf := if_t c114 hf
            obtain ⟨x115, ex115⟩ : ∃ y : Int32, y = x1 + 4 := ⟨_, rfl⟩
            have hf := lt_use ex115 hf
            refine lv_iinc (v := x115) (lv' := [(3, .int x115), (0, .ref b), (1, .ref (a1 0)), (2, .ref (a8 0))]) hx hb dL_law_824 hl (k := 3) rfl (by rw [ex115]; rfl) (by decide) rfl (fun ls hl => ?_)
            refine lv_goto (tgt := 18) hx hb dL_law_827 (by decide) ?_
            exact ih12 _ _ _ _ _ _ _ _ _ _ _ hP hD hS _ (lv_sub hl [1, 2, 3, 0] rfl) hf
          · have hf := if_f c114 hf
            refine lv_iconst (v := 0) hx hb dL_law_372 (by decide) ?_
            exact absurd hf (by decide)
        have hf := if_f c107 hf
        by_cases c116 : x15 = 8
        · have hf := if_t c116 hf
          refine z_tin (K := 8) hx hb c116 dL_law_32 ⟨rfl, by decide, by decide⟩ (tgt := 374) (by decide) ?_
          refine lv_aload_n hx hb dL_law_374 rfl (lv_at hl 1 rfl) ?_
          refine lv_aload_n hx hb dL_law_375 rfl (lv_at hl 0 rfl) ?_
          refine lv_iload_n hx hb dL_law_376 rfl (lv_at hl 3 rfl) ?_
          refine lv_iconst (v := 1) hx hb dL_law_377 (by decide) ?_
          refine lv_iadd hx hb dL_law_378 ?_
          obtain ⟨h117, hf⟩ := ck_use hf
          refine va_sld hx hb hX hbl hbA hS h117 dL_law_379 ?_
          obtain ⟨r118, y119, q120, hf⟩ := bd2_use hf
          have hfo : Foc (WFac z a1 (a2 0) (a3 0) a4 (a6 0) (a7 0) y2 ++ (WDay z a2 y3 ++ (WDay z a3 y4 ++ (WMin a4 (a5 0) y5 ++ (WDay z a5 y6 ++ (WArr z a6 y7 ++ (WLet z a7 y8 ++ (WMod z a8 y9)))))))) (WFac z a1 (a2 0) (a3 0) a4 (a6 0) (a7 0) y2 ++ (WDay z a2 y3 ++ (WDay z a3 y4 ++ (WMin a4 (a5 0) y5 ++ (WDay z a5 y6 ++ (WArr z a6 y7 ++ (WLet z a7 y8))))))) (WFac z a1 (a2 0) (a3 0) a4 (a6 0) (a7 0) y119 ++ (WDay z a2 y3 ++ (WDay z a3 y4 ++ (WMin a4 (a5 0) y5 ++ (WDay z a5 y6 ++ (WArr z a6 y7 ++ (WLet z a7 y8 ++ (WMod z a8 y9)))))))) (WFac z a1 (a2 0) (a3 0) a4 (a6 0) (a7 0) y119 ++ (WDay z a2 y3 ++ (WDay z a3 y4 ++ (WMin a4 (a5 0) y5 ++ (WDay z a5 y6 ++ (WArr z a6 y7 ++ (WLet z a7 y8))))))) := (foc_app foc_all (foc_app foc_all (foc_app foc_all (foc_app foc_all (foc_app foc_all (foc_app foc_all (foc_l foc_all)))))))
          refine z_goI (ws1 := (WFac z a1 (a2 0) (a3 0) a4 (a6 0) (a7 0) y119 ++ (WDay z a2 y3 ++ (WDay z a3 y4 ++ (WMin a4 (a5 0) y5 ++ (WDay z a5 y6 ++ (WArr z a6 y7 ++ (WLet z a7 y8 ++ (WMod z a8 y9))))))))) (va_runV (As := [.int (xs (x1 + 1).toNatClampNeg)]) (rest := []) ⟨hx, hb, hml, hown, hts⟩ (tX6_line l D z tt a1 a2 a3 a4 a5 a6 a7 y2 y3 y4 y5 y6 y7 y8 (xs (x1 + 1).toNatClampNeg) fu r118 y119 q120 _) (cwV 1 hts (gV4 aw515 aw516 aw517 aw45 aw518) rfl rfl rfl (by decide +kernel) ⟨Nat.le_of_ble_eq_true rfl, Nat.le_of_ble_eq_true rfl⟩) (z_preV hK hP hD hS hA hT hN hfo (va_recv hK hP (ci := 6) (q0 := 0) rfl rfl)) rfl rfl hl.1 rfl (lv_room (Nat.le_of_ble_eq_true rfl)) dL_law_380 ⟨Nat.le_of_ble_eq_true rfl, Nat.le_of_ble_eq_true rfl⟩) hP hD hS hA hfo (fun H locs hP hD hS => ?_)
          refine lv_aload_n hx hb dL_law_383 rfl (lv_at hl 2 rfl) ?_
          refine lv_aload_n hx hb dL_law_384 rfl (lv_at hl 0 rfl) ?_
          refine lv_iload_n hx hb dL_law_385 rfl (lv_at hl 3 rfl) ?_
          refine lv_iconst (v := 1) hx hb dL_law_386 (by decide) ?_
          refine lv_iadd hx hb dL_law_387 ?_
          obtain ⟨h121, hf⟩ := ck_use hf
          refine va_sld hx hb hX hbl hbA hS h121 dL_law_388 ?_
          obtain ⟨r122, y123, q124, hf⟩ := bd2_use hf
          have hfo : Foc (WFac z a1 (a2 0) (a3 0) a4 (a6 0) (a7 0) y119 ++ (WDay z a2 y3 ++ (WDay z a3 y4 ++ (WMin a4 (a5 0) y5 ++ (WDay z a5 y6 ++ (WArr z a6 y7 ++ (WLet z a7 y8 ++ (WMod z a8 y9)))))))) (WMod z a8 y9) (WFac z a1 (a2 0) (a3 0) a4 (a6 0) (a7 0) y119 ++ (WDay z a2 y3 ++ (WDay z a3 y4 ++ (WMin a4 (a5 0) y5 ++ (WDay z a5 y6 ++ (WArr z a6 y7 ++ (WLet z a7 y8 ++ (WMod z a8 y123)))))))) (WMod z a8 y123) := (foc_r (foc_r (foc_r (foc_r (foc_r (foc_r (foc_r foc_all)))))))
          refine z_goI (ws1 := (WFac z a1 (a2 0) (a3 0) a4 (a6 0) (a7 0) y119 ++ (WDay z a2 y3 ++ (WDay z a3 y4 ++ (WMin a4 (a5 0) y5 ++ (WDay z a5 y6 ++ (WArr z a6 y7 ++ (WLet z a7 y8 ++ (WMod z a8 y123))))))))) (va_runV (As := [.int (xs (x1 + 1).toNatClampNeg)]) (rest := [.int r118]) ⟨hx, hb, hml, hown, hts⟩ (tX7_line l D z tt a8 y9 (xs (x1 + 1).toNatClampNeg) fu r122 y123 q124 _) (cwV 1 hts (gV4 aw1000 aw1001 aw1002 aw52 aw1003) rfl rfl rfl (by decide +kernel) ⟨Nat.le_of_ble_eq_true rfl, Nat.le_of_ble_eq_true rfl⟩) (z_preV hK hP hD hS hA hT hN hfo (va_recv hK hP (ci := 7) (q0 := 54) rfl rfl)) rfl rfl hl.1 rfl (lv_room (Nat.le_of_ble_eq_true rfl)) dL_law_389 ⟨Nat.le_of_ble_eq_true rfl, Nat.le_of_ble_eq_true rfl⟩) hP hD hS hA hfo (fun H locs hP hD hS => ?_)
          refine lv_icmp_eq (tgt := 824) hx hb dL_law_392 (by decide) (fun c125 => ?_) (fun c125 => ?_)
          · have hf := if_t c125 hf
            obtain ⟨x126, ex126⟩ : ∃ y : Int32, y = x1 + 4 := ⟨_, rfl⟩
            have hf := lt_use ex126 hf
            refine lv_iinc (v := x126) (lv' := [(3, .int x126), (0, .ref b), (1, .ref (a1 0)), (2, .ref (a8 0))]) hx hb dL_law_824 hl (k := 3) rfl (by rw [ex126]; rfl) (by decide) rfl (fun ls hl => ?_)
            refine lv_goto (tgt := 18) hx hb dL_law_827 (by decide) ?_
            exact ih12 _ _ _ _ _ _ _ _ _ _ _ hP hD hS _ (lv_sub hl [1, 2, 3, 0] rfl) hf
          · have hf := if_f c125 hf
            refine lv_iconst (v := 0) hx hb dL_law_395 (by decide) ?_
            exact absurd hf (by decide)
        have hf := if_f c116 hf
        by_cases c127 : x15 = 9
        · have hf := if_t c127 hf
          refine z_tin (K := 9) hx hb c127 dL_law_32 ⟨rfl, by decide, by decide⟩ (tgt := 397) (by decide) ?_
          refine lv_aload_n hx hb dL_law_397 rfl (lv_at hl 1 rfl) ?_
          refine lv_aload_n hx hb dL_law_398 rfl (lv_at hl 0 rfl) ?_
          refine lv_iload_n hx hb dL_law_399 rfl (lv_at hl 3 rfl) ?_
          refine lv_iconst (v := 1) hx hb dL_law_400 (by decide) ?_
          refine lv_iadd hx hb dL_law_401 ?_
          obtain ⟨h128, hf⟩ := ck_use hf
          refine va_sld hx hb hX hbl hbA hS h128 dL_law_402 ?_
          obtain ⟨r129, y130, y131, q132, hf⟩ := bd3_use hf
          have hfo : Foc (WFac z a1 (a2 0) (a3 0) a4 (a6 0) (a7 0) y2 ++ (WDay z a2 y3 ++ (WDay z a3 y4 ++ (WMin a4 (a5 0) y5 ++ (WDay z a5 y6 ++ (WArr z a6 y7 ++ (WLet z a7 y8 ++ (WMod z a8 y9)))))))) (WFac z a1 (a2 0) (a3 0) a4 (a6 0) (a7 0) y2 ++ (WDay z a2 y3 ++ (WDay z a3 y4 ++ (WMin a4 (a5 0) y5 ++ (WDay z a5 y6 ++ (WArr z a6 y7 ++ (WLet z a7 y8))))))) (WFac z a1 (a2 0) (a3 0) a4 (a6 0) (a7 0) y130 ++ (WDay z a2 y3 ++ (WDay z a3 y4 ++ (WMin a4 (a5 0) y5 ++ (WDay z a5 y131 ++ (WArr z a6 y7 ++ (WLet z a7 y8 ++ (WMod z a8 y9)))))))) (WFac z a1 (a2 0) (a3 0) a4 (a6 0) (a7 0) y130 ++ (WDay z a2 y3 ++ (WDay z a3 y4 ++ (WMin a4 (a5 0) y5 ++ (WDay z a5 y131 ++ (WArr z a6 y7 ++ (WLet z a7 y8))))))) := (foc_app foc_all (foc_app foc_all (foc_app foc_all (foc_app foc_all (foc_app foc_all (foc_app foc_all (foc_l foc_all)))))))
          refine z_goI (ws1 := (WFac z a1 (a2 0) (a3 0) a4 (a6 0) (a7 0) y130 ++ (WDay z a2 y3 ++ (WDay z a3 y4 ++ (WMin a4 (a5 0) y5 ++ (WDay z a5 y131 ++ (WArr z a6 y7 ++ (WLet z a7 y8 ++ (WMod z a8 y9))))))))) (va_runV (As := [.int (xs (x1 + 1).toNatClampNeg)]) (rest := []) ⟨hx, hb, hml, hown, hts⟩ (tX6_rest l D z tt a1 a2 a3 a4 a5 a6 a7 y2 y3 y4 y5 y6 y7 y8 (xs (x1 + 1).toNatClampNeg) fu r129 y130 y131 q132 _) (cwV 1 hts (gV4 aw519 aw520 aw521 aw45 aw522) rfl rfl rfl (by decide +kernel) ⟨Nat.le_of_ble_eq_true rfl, Nat.le_of_ble_eq_true rfl⟩) (z_preV hK hP hD hS hA hT hN hfo (va_recv hK hP (ci := 6) (q0 := 0) rfl rfl)) rfl rfl hl.1 rfl (lv_room (Nat.le_of_ble_eq_true rfl)) dL_law_403 ⟨Nat.le_of_ble_eq_true rfl, Nat.le_of_ble_eq_true rfl⟩) hP hD hS hA hfo (fun H locs hP hD hS => ?_)
          refine lv_aload_n hx hb dL_law_406 rfl (lv_at hl 2 rfl) ?_
          refine lv_aload_n hx hb dL_law_407 rfl (lv_at hl 0 rfl) ?_
          refine lv_iload_n hx hb dL_law_408 rfl (lv_at hl 3 rfl) ?_
          refine lv_iconst (v := 1) hx hb dL_law_409 (by decide) ?_
          refine lv_iadd hx hb dL_law_410 ?_
          obtain ⟨h133, hf⟩ := ck_use hf
          refine va_sld hx hb hX hbl hbA hS h133 dL_law_411 ?_
          obtain ⟨r134, y135, q136, hf⟩ := bd2_use hf
          have hfo : Foc (WFac z a1 (a2 0) (a3 0) a4 (a6 0) (a7 0) y130 ++ (WDay z a2 y3 ++ (WDay z a3 y4 ++ (WMin a4 (a5 0) y5 ++ (WDay z a5 y131 ++ (WArr z a6 y7 ++ (WLet z a7 y8 ++ (WMod z a8 y9)))))))) (WMod z a8 y9) (WFac z a1 (a2 0) (a3 0) a4 (a6 0) (a7 0) y130 ++ (WDay z a2 y3 ++ (WDay z a3 y4 ++ (WMin a4 (a5 0) y5 ++ (WDay z a5 y131 ++ (WArr z a6 y7 ++ (WLet z a7 y8 ++ (WMod z a8 y135)))))))) (WMod z a8 y135) := (foc_r (foc_r (foc_r (foc_r (foc_r (foc_r (foc_r foc_all)))))))
          refine z_goI (ws1 := (WFac z a1 (a2 0) (a3 0) a4 (a6 0) (a7 0) y130 ++ (WDay z a2 y3 ++ (WDay z a3 y4 ++ (WMin a4 (a5 0) y5 ++ (WDay z a5 y131 ++ (WArr z a6 y7 ++ (WLet z a7 y8 ++ (WMod z a8 y135))))))))) (va_runV (As := [.int (xs (x1 + 1).toNatClampNeg)]) (rest := [.int r129]) ⟨hx, hb, hml, hown, hts⟩ (tX7_rest l D z tt a8 y9 (xs (x1 + 1).toNatClampNeg) fu r134 y135 q136 _) (cwV 1 hts (gV4 aw1004 aw1005 aw1006 aw52 aw1007) rfl rfl rfl (by decide +kernel) ⟨Nat.le_of_ble_eq_true rfl, Nat.le_of_ble_eq_true rfl⟩) (z_preV hK hP hD hS hA hT hN hfo (va_recv hK hP (ci := 7) (q0 := 54) rfl rfl)) rfl rfl hl.1 rfl (lv_room (Nat.le_of_ble_eq_true rfl)) dL_law_412 ⟨Nat.le_of_ble_eq_true rfl, Nat.le_of_ble_eq_true rfl⟩) hP hD hS hA hfo (fun H locs hP hD hS => ?_)
          refine lv_icmp_eq (tgt := 824) hx hb dL_law_415 (by decide) (fun c137 => ?_) (fun c137 => ?_)
          · have hf := if_t c137 hf
            obtain ⟨x138, ex138⟩ : ∃ y : Int32, y = x1 + 4 := ⟨_, rfl⟩
            have hf := lt_use ex138 hf
            refine lv_iinc (v := x138) (lv' := [(3, .int x138), (0, .ref b), (1, .ref (a1 0)), (2, .ref (a8 0))]) hx hb dL_law_824 hl (k := 3) rfl (by rw [ex138]; rfl) (by decide) rfl (fun ls hl => ?_)
            refine lv_goto (tgt := 18) hx hb dL_law_827 (by decide) ?_
            exact ih12 _ _ _ _ _ _ _ _ _ _ _ hP hD hS _ (lv_sub hl [1, 2, 3, 0] rfl) hf
          · have hf := if_f c137 hf
            refine lv_iconst (v := 0) hx hb dL_law_418 (by decide) ?_
            exact absurd hf (by decide)
        have hf := if_f c127 hf
        by_cases c139 : x15 = 10
        · have hf := if_t c139 hf
          refine z_tin (K := 10) hx hb c139 dL_law_32 ⟨rfl, by decide, by decide⟩ (tgt := 420) (by decide) ?_
          refine lv_aload_n hx hb dL_law_420 rfl (lv_at hl 1 rfl) ?_
          refine lv_aload_n hx hb dL_law_421 rfl (lv_at hl 0 rfl) ?_
          refine lv_iload_n hx hb dL_law_422 rfl (lv_at hl 3 rfl) ?_
          refine lv_iconst (v := 1) hx hb dL_law_423 (by decide) ?_
          refine lv_iadd hx hb dL_law_424 ?_
          obtain ⟨h140, hf⟩ := ck_use hf
          refine va_sld hx hb hX hbl hbA hS h140 dL_law_425 ?_
          obtain ⟨r141, y142, y143, q144, hf⟩ := bd3_use hf
          have hfo : Foc (WFac z a1 (a2 0) (a3 0) a4 (a6 0) (a7 0) y2 ++ (WDay z a2 y3 ++ (WDay z a3 y4 ++ (WMin a4 (a5 0) y5 ++ (WDay z a5 y6 ++ (WArr z a6 y7 ++ (WLet z a7 y8 ++ (WMod z a8 y9)))))))) (WFac z a1 (a2 0) (a3 0) a4 (a6 0) (a7 0) y2 ++ (WDay z a2 y3 ++ (WDay z a3 y4 ++ (WMin a4 (a5 0) y5 ++ (WDay z a5 y6 ++ (WArr z a6 y7 ++ (WLet z a7 y8))))))) (WFac z a1 (a2 0) (a3 0) a4 (a6 0) (a7 0) y142 ++ (WDay z a2 y3 ++ (WDay z a3 y4 ++ (WMin a4 (a5 0) y5 ++ (WDay z a5 y143 ++ (WArr z a6 y7 ++ (WLet z a7 y8 ++ (WMod z a8 y9)))))))) (WFac z a1 (a2 0) (a3 0) a4 (a6 0) (a7 0) y142 ++ (WDay z a2 y3 ++ (WDay z a3 y4 ++ (WMin a4 (a5 0) y5 ++ (WDay z a5 y143 ++ (WArr z a6 y7 ++ (WLet z a7 y8))))))) := (foc_app foc_all (foc_app foc_all (foc_app foc_all (foc_app foc_all (foc_app foc_all (foc_app foc_all (foc_l foc_all)))))))
          refine z_goI (ws1 := (WFac z a1 (a2 0) (a3 0) a4 (a6 0) (a7 0) y142 ++ (WDay z a2 y3 ++ (WDay z a3 y4 ++ (WMin a4 (a5 0) y5 ++ (WDay z a5 y143 ++ (WArr z a6 y7 ++ (WLet z a7 y8 ++ (WMod z a8 y9))))))))) (va_runV (As := [.int (xs (x1 + 1).toNatClampNeg)]) (rest := []) ⟨hx, hb, hml, hown, hts⟩ (tX6_when l D z tt a1 a2 a3 a4 a5 a6 a7 y2 y3 y4 y5 y6 y7 y8 (xs (x1 + 1).toNatClampNeg) fu r141 y142 y143 q144 _) (cwV 1 hts (gV4 aw544 aw545 aw546 aw45 aw547) rfl rfl rfl (by decide +kernel) ⟨Nat.le_of_ble_eq_true rfl, Nat.le_of_ble_eq_true rfl⟩) (z_preV hK hP hD hS hA hT hN hfo (va_recv hK hP (ci := 6) (q0 := 0) rfl rfl)) rfl rfl hl.1 rfl (lv_room (Nat.le_of_ble_eq_true rfl)) dL_law_426 ⟨Nat.le_of_ble_eq_true rfl, Nat.le_of_ble_eq_true rfl⟩) hP hD hS hA hfo (fun H locs hP hD hS => ?_)
          refine lv_aload_n hx hb dL_law_429 rfl (lv_at hl 2 rfl) ?_
          refine lv_aload_n hx hb dL_law_430 rfl (lv_at hl 0 rfl) ?_
          refine lv_iload_n hx hb dL_law_431 rfl (lv_at hl 3 rfl) ?_
          refine lv_iconst (v := 1) hx hb dL_law_432 (by decide) ?_
          refine lv_iadd hx hb dL_law_433 ?_
          obtain ⟨h145, hf⟩ := ck_use hf
          refine va_sld hx hb hX hbl hbA hS h145 dL_law_434 ?_
          obtain ⟨r146, y147, q148, hf⟩ := bd2_use hf
          have hfo : Foc (WFac z a1 (a2 0) (a3 0) a4 (a6 0) (a7 0) y142 ++ (WDay z a2 y3 ++ (WDay z a3 y4 ++ (WMin a4 (a5 0) y5 ++ (WDay z a5 y143 ++ (WArr z a6 y7 ++ (WLet z a7 y8 ++ (WMod z a8 y9)))))))) (WMod z a8 y9) (WFac z a1 (a2 0) (a3 0) a4 (a6 0) (a7 0) y142 ++ (WDay z a2 y3 ++ (WDay z a3 y4 ++ (WMin a4 (a5 0) y5 ++ (WDay z a5 y143 ++ (WArr z a6 y7 ++ (WLet z a7 y8 ++ (WMod z a8 y147)))))))) (WMod z a8 y147) := (foc_r (foc_r (foc_r (foc_r (foc_r (foc_r (foc_r foc_all)))))))
          refine z_goI (ws1 := (WFac z a1 (a2 0) (a3 0) a4 (a6 0) (a7 0) y142 ++ (WDay z a2 y3 ++ (WDay z a3 y4 ++ (WMin a4 (a5 0) y5 ++ (WDay z a5 y143 ++ (WArr z a6 y7 ++ (WLet z a7 y8 ++ (WMod z a8 y147))))))))) (va_runV (As := [.int (xs (x1 + 1).toNatClampNeg)]) (rest := [.int r141]) ⟨hx, hb, hml, hown, hts⟩ (tX7_when l D z tt a8 y9 (xs (x1 + 1).toNatClampNeg) fu r146 y147 q148 _) (cwV 1 hts (gV4 aw1024 aw1025 aw1026 aw52 aw1027) rfl rfl rfl (by decide +kernel) ⟨Nat.le_of_ble_eq_true rfl, Nat.le_of_ble_eq_true rfl⟩) (z_preV hK hP hD hS hA hT hN hfo (va_recv hK hP (ci := 7) (q0 := 54) rfl rfl)) rfl rfl hl.1 rfl (lv_room (Nat.le_of_ble_eq_true rfl)) dL_law_435 ⟨Nat.le_of_ble_eq_true rfl, Nat.le_of_ble_eq_true rfl⟩) hP hD hS hA hfo (fun H locs hP hD hS => ?_)
          refine lv_icmp_eq (tgt := 824) hx hb dL_law_438 (by decide) (fun c149 => ?_) (fun c149 => ?_)
          · have hf := if_t c149 hf
            obtain ⟨x150, ex150⟩ : ∃ y : Int32, y = x1 + 4 := ⟨_, rfl⟩
            have hf := lt_use ex150 hf
            refine lv_iinc (v := x150) (lv' := [(3, .int x150), (0, .ref b), (1, .ref (a1 0)), (2, .ref (a8 0))]) hx hb dL_law_824 hl (k := 3) rfl (by rw [ex150]; rfl) (by decide) rfl (fun ls hl => ?_)
            refine lv_goto (tgt := 18) hx hb dL_law_827 (by decide) ?_
            exact ih12 _ _ _ _ _ _ _ _ _ _ _ hP hD hS _ (lv_sub hl [1, 2, 3, 0] rfl) hf
          · have hf := if_f c149 hf
            refine lv_iconst (v := 0) hx hb dL_law_441 (by decide) ?_
            exact absurd hf (by decide)
        have hf := if_f c139 hf
        by_cases c151 : x15 = 11
        · have hf := if_t c151 hf
          refine z_tin (K := 11) hx hb c151 dL_law_32 ⟨rfl, by decide, by decide⟩ (tgt := 443) (by decide) ?_
          refine lv_aload_n hx hb dL_law_443 rfl (lv_at hl 1 rfl) ?_
          refine lv_aload_n hx hb dL_law_444 rfl (lv_at hl 0 rfl) ?_
          refine lv_iload_n hx hb dL_law_445 rfl (lv_at hl 3 rfl) ?_
          refine lv_iconst (v := 1) hx hb dL_law_446 (by decide) ?_
          refine lv_iadd hx hb dL_law_447 ?_
          obtain ⟨h152, hf⟩ := ck_use hf
          refine va_sld hx hb hX hbl hbA hS h152 dL_law_448 ?_
          refine lv_aload_n hx hb dL_law_449 rfl (lv_at hl 0 rfl) ?_
          refine lv_iload_n hx hb dL_law_450 rfl (lv_at hl 3 rfl) ?_
          refine lv_iconst (v := 2) hx hb dL_law_451 (by decide) ?_
          refine lv_iadd hx hb dL_law_452 ?_
          obtain ⟨h153, hf⟩ := ck_use hf
          refine va_sld hx hb hX hbl hbA hS h153 dL_law_453 ?_
          obtain ⟨r154, y155, y156, q157, hf⟩ := bd3_use hf
          have hfo : Foc (WFac z a1 (a2 0) (a3 0) a4 (a6 0) (a7 0) y2 ++ (WDay z a2 y3 ++ (WDay z a3 y4 ++ (WMin a4 (a5 0) y5 ++ (WDay z a5 y6 ++ (WArr z a6 y7 ++ (WLet z a7 y8 ++ (WMod z a8 y9)))))))) (WFac z a1 (a2 0) (a3 0) a4 (a6 0) (a7 0) y2 ++ (WDay z a2 y3 ++ (WDay z a3 y4 ++ (WMin a4 (a5 0) y5 ++ (WDay z a5 y6 ++ (WArr z a6 y7 ++ (WLet z a7 y8))))))) (WFac z a1 (a2 0) (a3 0) a4 (a6 0) (a7 0) y155 ++ (WDay z a2 y3 ++ (WDay z a3 y4 ++ (WMin a4 (a5 0) y5 ++ (WDay z a5 y156 ++ (WArr z a6 y7 ++ (WLet z a7 y8 ++ (WMod z a8 y9)))))))) (WFac z a1 (a2 0) (a3 0) a4 (a6 0) (a7 0) y155 ++ (WDay z a2 y3 ++ (WDay z a3 y4 ++ (WMin a4 (a5 0) y5 ++ (WDay z a5 y156 ++ (WArr z a6 y7 ++ (WLet z a7 y8))))))) := (foc_app foc_all (foc_app foc_all (foc_app foc_all (foc_app foc_all (foc_app foc_all (foc_app foc_all (foc_l foc_all)))))))
          refine z_goI (ws1 := (WFac z a1 (a2 0) (a3 0) a4 (a6 0) (a7 0) y155 ++ (WDay z a2 y3 ++ (WDay z a3 y4 ++ (WMin a4 (a5 0) y5 ++ (WDay z a5 y156 ++ (WArr z a6 y7 ++ (WLet z a7 y8 ++ (WMod z a8 y9))))))))) (va_runV (As := [.int (xs (x1 + 1).toNatClampNeg), .int (xs (x1 + 2).toNatClampNeg)]) (rest := []) ⟨hx, hb, hml, hown, hts⟩ (tX6_best l D z tt a1 a2 a3 a4 a5 a6 a7 y2 y3 y4 y5 y6 y7 y8 (xs (x1 + 1).toNatClampNeg) (xs (x1 + 2).toNatClampNeg) fu r154 y155 y156 q157 _) (cwV 2 hts (gV4 aw552 aw553 aw554 aw45 aw555) rfl rfl rfl (by decide +kernel) ⟨Nat.le_of_ble_eq_true rfl, Nat.le_of_ble_eq_true rfl⟩) (z_preV hK hP hD hS hA hT hN hfo (va_recv hK hP (ci := 6) (q0 := 0) rfl rfl)) rfl rfl hl.1 rfl (lv_room (Nat.le_of_ble_eq_true rfl)) dL_law_454 ⟨Nat.le_of_ble_eq_true rfl, Nat.le_of_ble_eq_true rfl⟩) hP hD hS hA hfo (fun H locs hP hD hS => ?_)
          refine lv_aload_n hx hb dL_law_457 rfl (lv_at hl 2 rfl) ?_
          refine lv_aload_n hx hb dL_law_458 rfl (lv_at hl 0 rfl) ?_
          refine lv_iload_n hx hb dL_law_459 rfl (lv_at hl 3 rfl) ?_
          refine lv_iconst (v := 1) hx hb dL_law_460 (by decide) ?_
          refine lv_iadd hx hb dL_law_461 ?_
          obtain ⟨h158, hf⟩ := ck_use hf
          refine va_sld hx hb hX hbl hbA hS h158 dL_law_462 ?_
          refine lv_aload_n hx hb dL_law_463 rfl (lv_at hl 0 rfl) ?_
          refine lv_iload_n hx hb dL_law_464 rfl (lv_at hl 3 rfl) ?_
          refine lv_iconst (v := 2) hx hb dL_law_465 (by decide) ?_
          refine lv_iadd hx hb dL_law_466 ?_
          obtain ⟨h159, hf⟩ := ck_use hf
          refine va_sld hx hb hX hbl hbA hS h159 dL_law_467 ?_
          obtain ⟨r160, y161, q162, hf⟩ := bd2_use hf
          have hfo : Foc (WFac z a1 (a2 0) (a3 0) a4 (a6 0) (a7 0) y155 ++ (WDay z a2 y3 ++ (WDay z a3 y4 ++ (WMin a4 (a5 0) y5 ++ (WDay z a5 y156 ++ (WArr z a6 y7 ++ (WLet z a7 y8 ++ (WMod z a8 y9)))))))) (WMod z a8 y9) (WFac z a1 (a2 0) (a3 0) a4 (a6 0) (a7 0) y155 ++ (WDay z a2 y3 ++ (WDay z a3 y4 ++ (WMin a4 (a5 0) y5 ++ (WDay z a5 y156 ++ (WArr z a6 y7 ++ (WLet z a7 y8 ++ (WMod z a8 y161)))))))) (WMod z a8 y161) := (foc_r (foc_r (foc_r (foc_r (foc_r (foc_r (foc_r foc_all)))))))
          refine z_goI (ws1 := (WFac z a1 (a2 0) (a3 0) a4 (a6 0) (a7 0) y155 ++ (WDay z a2 y3 ++ (WDay z a3 y4 ++ (WMin a4 (a5 0) y5 ++ (WDay z a5 y156 ++ (WArr z a6 y7 ++ (WLet z a7 y8 ++ (WMod z a8 y161))))))))) (va_runV (As := [.int (xs (x1 + 1).toNatClampNeg), .int (xs (x1 + 2).toNatClampNeg)]) (rest := [.int r154]) ⟨hx, hb, hml, hown, hts⟩ (tX7_best l D z tt a8 y9 (xs (x1 + 1).toNatClampNeg) (xs (x1 + 2).toNatClampNeg) fu r160 y161 q162 _) (cwV 2 hts (gV4 aw1028 aw1029 aw1030 aw52 aw1031) rfl rfl rfl (by decide +kernel) ⟨Nat.le_of_ble_eq_true rfl, Nat.le_of_ble_eq_true rfl⟩) (z_preV hK hP hD hS hA hT hN hfo (va_recv hK hP (ci := 7) (q0 := 54) rfl rfl)) rfl rfl hl.1 rfl (lv_room (Nat.le_of_ble_eq_true rfl)) dL_law_468 ⟨Nat.le_of_ble_eq_true rfl, Nat.le_of_ble_eq_true rfl⟩) hP hD hS hA hfo (fun H locs hP hD hS => ?_)
          refine lv_icmp_eq (tgt := 824) hx hb dL_law_471 (by decide) (fun c163 => ?_) (fun c163 => ?_)
          · have hf := if_t c163 hf
            obtain ⟨x164, ex164⟩ : ∃ y : Int32, y = x1 + 4 := ⟨_, rfl⟩
            have hf := lt_use ex164 hf
            refine lv_iinc (v := x164) (lv' := [(3, .int x164), (0, .ref b), (1, .ref (a1 0)), (2, .ref (a8 0))]) hx hb dL_law_824 hl (k := 3) rfl (by rw [ex164]; rfl) (by decide) rfl (fun ls hl => ?_)
            refine lv_goto (tgt := 18) hx hb dL_law_827 (by decide) ?_
            exact ih12 _ _ _ _ _ _ _ _ _ _ _ hP hD hS _ (lv_sub hl [1, 2, 3, 0] rfl) hf
          · have hf := if_f c163 hf
            refine lv_iconst (v := 0) hx hb dL_law_474 (by decide) ?_
            exact absurd hf (by decide)
        have hf := if_f c151 hf
        by_cases c165 : x15 = 12
        · have hf := if_t c165 hf
          refine z_tin (K := 12) hx hb c165 dL_law_32 ⟨rfl, by decide, by decide⟩ (tgt := 476) (by decide) ?_
          refine lv_aload_n hx hb dL_law_476 rfl (lv_at hl 1 rfl) ?_
          refine lv_aload_n hx hb dL_law_477 rfl (lv_at hl 0 rfl) ?_
          refine lv_iload_n hx hb dL_law_478 rfl (lv_at hl 3 rfl) ?_
          refine lv_iconst (v := 1) hx hb dL_law_479 (by decide) ?_
          refine lv_iadd hx hb dL_law_480 ?_
          obtain ⟨h166, hf⟩ := ck_use hf
          refine va_sld hx hb hX hbl hbA hS h166 dL_law_481 ?_
          obtain ⟨r167, y168, y169, q170, hf⟩ := bd3_use hf
          have hfo : Foc (WFac z a1 (a2 0) (a3 0) a4 (a6 0) (a7 0) y2 ++ (WDay z a2 y3 ++ (WDay z a3 y4 ++ (WMin a4 (a5 0) y5 ++ (WDay z a5 y6 ++ (WArr z a6 y7 ++ (WLet z a7 y8 ++ (WMod z a8 y9)))))))) (WFac z a1 (a2 0) (a3 0) a4 (a6 0) (a7 0) y2 ++ (WDay z a2 y3 ++ (WDay z a3 y4 ++ (WMin a4 (a5 0) y5 ++ (WDay z a5 y6 ++ (WArr z a6 y7 ++ (WLet z a7 y8))))))) (WFac z a1 (a2 0) (a3 0) a4 (a6 0) (a7 0) y168 ++ (WDay z a2 y3 ++ (WDay z a3 y4 ++ (WMin a4 (a5 0) y5 ++ (WDay z a5 y169 ++ (WArr z a6 y7 ++ (WLet z a7 y8 ++ (WMod z a8 y9)))))))) (WFac z a1 (a2 0) (a3 0) a4 (a6 0) (a7 0) y168 ++ (WDay z a2 y3 ++ (WDay z a3 y4 ++ (WMin a4 (a5 0) y5 ++ (WDay z a5 y169 ++ (WArr z a6 y7 ++ (WLet z a7 y8))))))) := (foc_app foc_all (foc_app foc_all (foc_app foc_all (foc_app foc_all (foc_app foc_all (foc_app foc_all (foc_l foc_all)))))))
          refine z_goI (ws1 := (WFac z a1 (a2 0) (a3 0) a4 (a6 0) (a7 0) y168 ++ (WDay z a2 y3 ++ (WDay z a3 y4 ++ (WMin a4 (a5 0) y5 ++ (WDay z a5 y169 ++ (WArr z a6 y7 ++ (WLet z a7 y8 ++ (WMod z a8 y9))))))))) (va_runV (As := [.int (xs (x1 + 1).toNatClampNeg)]) (rest := []) ⟨hx, hb, hml, hown, hts⟩ (tX6_rounds l D z tt a1 a2 a3 a4 a5 a6 a7 y2 y3 y4 y5 y6 y7 y8 (xs (x1 + 1).toNatClampNeg) fu r167 y168 y169 q170 _) (cwV 1 hts (gV4 aw569 aw570 aw571 aw45 aw572) rfl rfl rfl (by decide +kernel) ⟨Nat.le_of_ble_eq_true rfl, Nat.le_of_ble_eq_true rfl⟩) (z_preV hK hP hD hS hA hT hN hfo (va_recv hK hP (ci := 6) (q0 := 0) rfl rfl)) rfl rfl hl.1 rfl (lv_room (Nat.le_of_ble_eq_true rfl)) dL_law_482 ⟨Nat.le_of_ble_eq_true rfl, Nat.le_of_ble_eq_true rfl⟩) hP hD hS hA hfo (fun H locs hP hD hS => ?_)
          refine lv_aload_n hx hb dL_law_485 rfl (lv_at hl 2 rfl) ?_
          refine lv_aload_n hx hb dL_law_486 rfl (lv_at hl 0 rfl) ?_
          refine lv_iload_n hx hb dL_law_487 rfl (lv_at hl 3 rfl) ?_
          refine lv_iconst (v := 1) hx hb dL_law_488 (by decide) ?_
          refine lv_iadd hx hb dL_law_489 ?_
          obtain ⟨h171, hf⟩ := ck_use hf
          refine va_sld hx hb hX hbl hbA hS h171 dL_law_490 ?_
          obtain ⟨r172, y173, q174, hf⟩ := bd2_use hf
          have hfo : Foc (WFac z a1 (a2 0) (a3 0) a4 (a6 0) (a7 0) y168 ++ (WDay z a2 y3 ++ (WDay z a3 y4 ++ (WMin a4 (a5 0) y5 ++ (WDay z a5 y169 ++ (WArr z a6 y7 ++ (WLet z a7 y8 ++ (WMod z a8 y9)))))))) (WMod z a8 y9) (WFac z a1 (a2 0) (a3 0) a4 (a6 0) (a7 0) y168 ++ (WDay z a2 y3 ++ (WDay z a3 y4 ++ (WMin a4 (a5 0) y5 ++ (WDay z a5 y169 ++ (WArr z a6 y7 ++ (WLet z a7 y8 ++ (WMod z a8 y173)))))))) (WMod z a8 y173) := (foc_r (foc_r (foc_r (foc_r (foc_r (foc_r (foc_r foc_all)))))))
          refine z_goI (ws1 := (WFac z a1 (a2 0) (a3 0) a4 (a6 0) (a7 0) y168 ++ (WDay z a2 y3 ++ (WDay z a3 y4 ++ (WMin a4 (a5 0) y5 ++ (WDay z a5 y169 ++ (WArr z a6 y7 ++ (WLet z a7 y8 ++ (WMod z a8 y173))))))))) (va_runV (As := [.int (xs (x1 + 1).toNatClampNeg)]) (rest := [.int r167]) ⟨hx, hb, hml, hown, hts⟩ (tX7_rounds l D z tt a8 y9 (xs (x1 + 1).toNatClampNeg) fu r172 y173 q174 _) (cwV 1 hts (gV4 aw1041 aw1042 aw1043 aw52 aw1044) rfl rfl rfl (by decide +kernel) ⟨Nat.le_of_ble_eq_true rfl, Nat.le_of_ble_eq_true rfl⟩) (z_preV hK hP hD hS hA hT hN hfo (va_recv hK hP (ci := 7) (q0 := 54) rfl rfl)) rfl rfl hl.1 rfl (lv_room (Nat.le_of_ble_eq_true rfl)) dL_law_491 ⟨Nat.le_of_ble_eq_true rfl, Nat.le_of_ble_eq_true rfl⟩) hP hD hS hA hfo (fun H locs hP hD hS => ?_)
          refine lv_icmp_eq (tgt := 824) hx hb dL_law_494 (by decide) (fun c175 => ?_) (fun c175 => ?_)
          · have hf := if_t c175 hf
            obtain ⟨x176, ex176⟩ : ∃ y : Int32, y = x1 + 4 := ⟨_, rfl⟩
            have hf := lt_use ex176 hf
            refine lv_iinc (v := x176) (lv' := [(3, .int x176), (0, .ref b), (1, .ref (a1 0)), (2, .ref (a8 0))]) hx hb dL_law_824 hl (k := 3) rfl (by rw [ex176]; rfl) (by decide) rfl (fun ls hl => ?_)
            refine lv_goto (tgt := 18) hx hb dL_law_827 (by decide) ?_
            exact ih12 _ _ _ _ _ _ _ _ _ _ _ hP hD hS _ (lv_sub hl [1, 2, 3, 0] rfl) hf
          · have hf := if_f c175 hf
            refine lv_iconst (v := 0) hx hb dL_law_497 (by decide) ?_
            exact absurd hf (by decide)
        have hf := if_f c165 hf
        by_cases c177 : x15 = 13
        · have hf := if_t c177 hf
          refine z_tin (K := 13) hx hb c177 dL_law_32 ⟨rfl, by decide, by decide⟩ (tgt := 499) (by decide) ?_
          refine lv_aload_n hx hb dL_law_499 rfl (lv_at hl 1 rfl) ?_
          refine lv_aload_n hx hb dL_law_500 rfl (lv_at hl 0 rfl) ?_
          refine lv_iload_n hx hb dL_law_501 rfl (lv_at hl 3 rfl) ?_
          refine lv_iconst (v := 1) hx hb dL_law_502 (by decide) ?_
          refine lv_iadd hx hb dL_law_503 ?_
          obtain ⟨h178, hf⟩ := ck_use hf
          refine va_sld hx hb hX hbl hbA hS h178 dL_law_504 ?_
          obtain ⟨r179, y180, y181, q182, hf⟩ := bd3_use hf
          have hfo : Foc (WFac z a1 (a2 0) (a3 0) a4 (a6 0) (a7 0) y2 ++ (WDay z a2 y3 ++ (WDay z a3 y4 ++ (WMin a4 (a5 0) y5 ++ (WDay z a5 y6 ++ (WArr z a6 y7 ++ (WLet z a7 y8 ++ (WMod z a8 y9)))))))) (WFac z a1 (a2 0) (a3 0) a4 (a6 0) (a7 0) y2 ++ (WDay z a2 y3 ++ (WDay z a3 y4 ++ (WMin a4 (a5 0) y5 ++ (WDay z a5 y6 ++ (WArr z a6 y7 ++ (WLet z a7 y8))))))) (WFac z a1 (a2 0) (a3 0) a4 (a6 0) (a7 0) y180 ++ (WDay z a2 y3 ++ (WDay z a3 y4 ++ (WMin a4 (a5 0) y5 ++ (WDay z a5 y181 ++ (WArr z a6 y7 ++ (WLet z a7 y8 ++ (WMod z a8 y9)))))))) (WFac z a1 (a2 0) (a3 0) a4 (a6 0) (a7 0) y180 ++ (WDay z a2 y3 ++ (WDay z a3 y4 ++ (WMin a4 (a5 0) y5 ++ (WDay z a5 y181 ++ (WArr z a6 y7 ++ (WLet z a7 y8))))))) := (foc_app foc_all (foc_app foc_all (foc_app foc_all (foc_app foc_all (foc_app foc_all (foc_app foc_all (foc_l foc_all)))))))
          refine z_goI (ws1 := (WFac z a1 (a2 0) (a3 0) a4 (a6 0) (a7 0) y180 ++ (WDay z a2 y3 ++ (WDay z a3 y4 ++ (WMin a4 (a5 0) y5 ++ (WDay z a5 y181 ++ (WArr z a6 y7 ++ (WLet z a7 y8 ++ (WMod z a8 y9))))))))) (va_runV (As := [.int (xs (x1 + 1).toNatClampNeg)]) (rest := []) ⟨hx, hb, hml, hown, hts⟩ (tX6_marks l D z tt a1 a2 a3 a4 a5 a6 a7 y2 y3 y4 y5 y6 y7 y8 (xs (x1 + 1).toNatClampNeg) fu r179 y180 y181 q182 _) (cwV 1 hts (gV4 aw589 aw590 aw591 aw45 aw592) rfl rfl rfl (by decide +kernel) ⟨Nat.le_of_ble_eq_true rfl, Nat.le_of_ble_eq_true rfl⟩) (z_preV hK hP hD hS hA hT hN hfo (va_recv hK hP (ci := 6) (q0 := 0) rfl rfl)) rfl rfl hl.1 rfl (lv_room (Nat.le_of_ble_eq_true rfl)) dL_law_505 ⟨Nat.le_of_ble_eq_true rfl, Nat.le_of_ble_eq_true rfl⟩) hP hD hS hA hfo (fun H locs hP hD hS => ?_)
          refine lv_aload_n hx hb dL_law_508 rfl (lv_at hl 2 rfl) ?_
          refine lv_aload_n hx hb dL_law_509 rfl (lv_at hl 0 rfl) ?_
          refine lv_iload_n hx hb dL_law_510 rfl (lv_at hl 3 rfl) ?_
          refine lv_iconst (v := 1) hx hb dL_law_511 (by decide) ?_
          refine lv_iadd hx hb dL_law_512 ?_
          obtain ⟨h183, hf⟩ := ck_use hf
          refine va_sld hx hb hX hbl hbA hS h183 dL_law_513 ?_
          obtain ⟨r184, y185, q186, hf⟩ := bd2_use hf
          have hfo : Foc (WFac z a1 (a2 0) (a3 0) a4 (a6 0) (a7 0) y180 ++ (WDay z a2 y3 ++ (WDay z a3 y4 ++ (WMin a4 (a5 0) y5 ++ (WDay z a5 y181 ++ (WArr z a6 y7 ++ (WLet z a7 y8 ++ (WMod z a8 y9)))))))) (WMod z a8 y9) (WFac z a1 (a2 0) (a3 0) a4 (a6 0) (a7 0) y180 ++ (WDay z a2 y3 ++ (WDay z a3 y4 ++ (WMin a4 (a5 0) y5 ++ (WDay z a5 y181 ++ (WArr z a6 y7 ++ (WLet z a7 y8 ++ (WMod z a8 y185)))))))) (WMod z a8 y185) := (foc_r (foc_r (foc_r (foc_r (foc_r (foc_r (foc_r foc_all)))))))
          refine z_goI (ws1 := (WFac z a1 (a2 0) (a3 0) a4 (a6 0) (a7 0) y180 ++ (WDay z a2 y3 ++ (WDay z a3 y4 ++ (WMin a4 (a5 0) y5 ++ (WDay z a5 y181 ++ (WArr z a6 y7 ++ (WLet z a7 y8 ++ (WMod z a8 y185))))))))) (va_runV (As := [.int (xs (x1 + 1).toNatClampNeg)]) (rest := [.int r179]) ⟨hx, hb, hml, hown, hts⟩ (tX7_marks l D z tt a8 y9 (xs (x1 + 1).toNatClampNeg) fu r184 y185 q186 _) (cwV 1 hts (gV4 aw1061 aw1062 aw1063 aw52 aw1064) rfl rfl rfl (by decide +kernel) ⟨Nat.le_of_ble_eq_true rfl, Nat.le_of_ble_eq_true rfl⟩) (z_preV hK hP hD hS hA hT hN hfo (va_recv hK hP (ci := 7) (q0 := 54) rfl rfl)) rfl rfl hl.1 rfl (lv_room (Nat.le_of_ble_eq_true rfl)) dL_law_514 ⟨Nat.le_of_ble_eq_true rfl, Nat.le_of_ble_eq_true rfl⟩) hP hD hS hA hfo (fun H locs hP hD hS => ?_)
          refine lv_icmp_eq (tgt := 824) hx hb dL_law_517 (by decide) (fun c187 => ?_) (fun c187 => ?_)
          · have hf := if_t c187 hf
            obtain ⟨x188, ex188⟩ : ∃ y : Int32, y = x1 + 4 := ⟨_, rfl⟩
            have hf := lt_use ex188 hf
            refine lv_iinc (v := x188) (lv' := [(3, .int x188), (0, .ref b), (1, .ref (a1 0)), (2, .ref (a8 0))]) hx hb dL_law_824 hl (k := 3) rfl (by rw [ex188]; rfl) (by decide) rfl (fun ls hl => ?_)
            refine lv_goto (tgt := 18) hx hb dL_law_827 (by decide) ?_
            exact ih12 _ _ _ _ _ _ _ _ _ _ _ hP hD hS _ (lv_sub hl [1, 2, 3, 0] rfl) hf
          · have hf := if_f c187 hf
            refine lv_iconst (v := 0) hx hb dL_law_520 (by decide) ?_
            exact absurd hf (by decide)
        have hf := if_f c177 hf
        by_cases c189 : x15 = 14
        · have hf := if_t c189 hf
          refine z_tin (K := 14) hx hb c189 dL_law_32 ⟨rfl, by decide, by decide⟩ (tgt := 522) (by decide) ?_
          refine lv_aload_n hx hb dL_law_522 rfl (lv_at hl 1 rfl) ?_
          obtain ⟨r190, y191, q192, hf⟩ := bd2_use hf
          have hfo : Foc (WFac z a1 (a2 0) (a3 0) a4 (a6 0) (a7 0) y2 ++ (WDay z a2 y3 ++ (WDay z a3 y4 ++ (WMin a4 (a5 0) y5 ++ (WDay z a5 y6 ++ (WArr z a6 y7 ++ (WLet z a7 y8 ++ (WMod z a8 y9)))))))) (WFac z a1 (a2 0) (a3 0) a4 (a6 0) (a7 0) y2 ++ (WDay z a2 y3 ++ (WDay z a3 y4 ++ (WMin a4 (a5 0) y5 ++ (WDay z a5 y6 ++ (WArr z a6 y7 ++ (WLet z a7 y8))))))) (WFac z a1 (a2 0) (a3 0) a4 (a6 0) (a7 0) y2 ++ (WDay z a2 y3 ++ (WDay z a3 y4 ++ (WMin a4 (a5 0) y5 ++ (WDay z a5 y191 ++ (WArr z a6 y7 ++ (WLet z a7 y8 ++ (WMod z a8 y9)))))))) (WFac z a1 (a2 0) (a3 0) a4 (a6 0) (a7 0) y2 ++ (WDay z a2 y3 ++ (WDay z a3 y4 ++ (WMin a4 (a5 0) y5 ++ (WDay z a5 y191 ++ (WArr z a6 y7 ++ (WLet z a7 y8))))))) := (foc_app foc_all (foc_app foc_all (foc_app foc_all (foc_app foc_all (foc_app foc_all (foc_app foc_all (foc_l foc_all)))))))
          refine z_goI (ws1 := (WFac z a1 (a2 0) (a3 0) a4 (a6 0) (a7 0) y2 ++ (WDay z a2 y3 ++ (WDay z a3 y4 ++ (WMin a4 (a5 0) y5 ++ (WDay z a5 y191 ++ (WArr z a6 y7 ++ (WLet z a7 y8 ++ (WMod z a8 y9))))))))) (va_runV (As := []) (rest := []) ⟨hx, hb, hml, hown, hts⟩ (tX6_second l D z tt a1 a2 a3 a4 a5 a6 a7 y2 y3 y4 y5 y6 y7 y8  fu r190 y191 q192 _) (cwV 0 hts (gV4 aw597 aw598 aw599 aw45 aw600) rfl rfl rfl (by decide +kernel) ⟨Nat.le_of_ble_eq_true rfl, Nat.le_of_ble_eq_true rfl⟩) (z_preV hK hP hD hS hA hT hN hfo (va_recv hK hP (ci := 6) (q0 := 0) rfl rfl)) rfl rfl hl.1 rfl (lv_room (Nat.le_of_ble_eq_true rfl)) dL_law_523 ⟨Nat.le_of_ble_eq_true rfl, Nat.le_of_ble_eq_true rfl⟩) hP hD hS hA hfo (fun H locs hP hD hS => ?_)
          refine lv_aload_n hx hb dL_law_526 rfl (lv_at hl 2 rfl) ?_
          obtain ⟨r193, y194, q195, hf⟩ := bd2_use hf
          have hfo : Foc (WFac z a1 (a2 0) (a3 0) a4 (a6 0) (a7 0) y2 ++ (WDay z a2 y3 ++ (WDay z a3 y4 ++ (WMin a4 (a5 0) y5 ++ (WDay z a5 y191 ++ (WArr z a6 y7 ++ (WLet z a7 y8 ++ (WMod z a8 y9)))))))) (WMod z a8 y9) (WFac z a1 (a2 0) (a3 0) a4 (a6 0) (a7 0) y2 ++ (WDay z a2 y3 ++ (WDay z a3 y4 ++ (WMin a4 (a5 0) y5 ++ (WDay z a5 y191 ++ (WArr z a6 y7 ++ (WLet z a7 y8 ++ (WMod z a8 y194)))))))) (WMod z a8 y194) := (foc_r (foc_r (foc_r (foc_r (foc_r (foc_r (foc_r foc_all)))))))
          refine z_goI (ws1 := (WFac z a1 (a2 0) (a3 0) a4 (a6 0) (a7 0) y2 ++ (WDay z a2 y3 ++ (WDay z a3 y4 ++ (WMin a4 (a5 0) y5 ++ (WDay z a5 y191 ++ (WArr z a6 y7 ++ (WLet z a7 y8 ++ (WMod z a8 y194))))))))) (va_runV (As := []) (rest := [.int r190]) ⟨hx, hb, hml, hown, hts⟩ (tX7_second l D z tt a8 y9  fu r193 y194 q195 _) (cwV 0 hts (gV4 aw1065 aw1066 aw1067 aw52 aw1068) rfl rfl rfl (by decide +kernel) ⟨Nat.le_of_ble_eq_true rfl, Nat.le_of_ble_eq_true rfl⟩) (z_preV hK hP hD hS hA hT hN hfo (va_recv hK hP (ci := 7) (q0 := 54) rfl rfl)) rfl rfl hl.1 rfl (lv_room (Nat.le_of_ble_eq_true rfl)) dL_law_527 ⟨Nat.le_of_ble_eq_true rfl, Nat.le_of_ble_eq_true rfl⟩) hP hD hS hA hfo (fun H locs hP hD hS => ?_)
          refine lv_icmp_eq (tgt := 824) hx hb dL_law_530 (by decide) (fun c196 => ?_) (fun c196 => ?_)
          · have hf := if_t c196 hf
            obtain ⟨x197, ex197⟩ : ∃ y : Int32, y = x1 + 4 := ⟨_, rfl⟩
            have hf := lt_use ex197 hf
            refine lv_iinc (v := x197) (lv' := [(3, .int x197), (0, .ref b), (1, .ref (a1 0)), (2, .ref (a8 0))]) hx hb dL_law_824 hl (k := 3) rfl (by rw [ex197]; rfl) (by decide) rfl (fun ls hl => ?_)
            refine lv_goto (tgt := 18) hx hb dL_law_827 (by decide) ?_
            exact ih12 _ _ _ _ _ _ _ _ _ _ _ hP hD hS _ (lv_sub hl [1, 2, 3, 0] rfl) hf
          · have hf := if_f c196 hf
            refine lv_iconst (v := 0) hx hb dL_law_533 (by decide) ?_
            exact absurd hf (by decide)
        have hf := if_f c189 hf
        by_cases c198 : x15 = 15
        · have hf := if_t c198 hf
          refine z_tin (K := 15) hx hb c198 dL_law_32 ⟨rfl, by decide, by decide⟩ (tgt := 535) (by decide) ?_
          refine lv_aload_n hx hb dL_law_535 rfl (lv_at hl 1 rfl) ?_
          refine lv_aload_n hx hb dL_law_536 rfl (lv_at hl 0 rfl) ?_
          refine lv_iload_n hx hb dL_law_537 rfl (lv_at hl 3 rfl) ?_
          refine lv_iconst (v := 1) hx hb dL_law_538 (by decide) ?_
          refine lv_iadd hx hb dL_law_539 ?_
          obtain ⟨h199, hf⟩ := ck_use hf
          refine va_sld hx hb hX hbl hbA hS h199 dL_law_540 ?_
          obtain ⟨r200, y201, y202, y203, q204, hf⟩ := bd4_use hf
          have hfo : Foc (WFac z a1 (a2 0) (a3 0) a4 (a6 0) (a7 0) y2 ++ (WDay z a2 y3 ++ (WDay z a3 y4 ++ (WMin a4 (a5 0) y5 ++ (WDay z a5 y6 ++ (WArr z a6 y7 ++ (WLet z a7 y8 ++ (WMod z a8 y9)))))))) (WFac z a1 (a2 0) (a3 0) a4 (a6 0) (a7 0) y2 ++ (WDay z a2 y3 ++ (WDay z a3 y4 ++ (WMin a4 (a5 0) y5 ++ (WDay z a5 y6 ++ (WArr z a6 y7 ++ (WLet z a7 y8))))))) (WFac z a1 (a2 0) (a3 0) a4 (a6 0) (a7 0) y201 ++ (WDay z a2 y3 ++ (WDay z a3 y4 ++ (WMin a4 (a5 0) y5 ++ (WDay z a5 y202 ++ (WArr z a6 y203 ++ (WLet z a7 y8 ++ (WMod z a8 y9)))))))) (WFac z a1 (a2 0) (a3 0) a4 (a6 0) (a7 0) y201 ++ (WDay z a2 y3 ++ (WDay z a3 y4 ++ (WMin a4 (a5 0) y5 ++ (WDay z a5 y202 ++ (WArr z a6 y203 ++ (WLet z a7 y8))))))) := (foc_app foc_all (foc_app foc_all (foc_app foc_all (foc_app foc_all (foc_app foc_all (foc_app foc_all (foc_l foc_all)))))))
          refine z_goI (ws1 := (WFac z a1 (a2 0) (a3 0) a4 (a6 0) (a7 0) y201 ++ (WDay z a2 y3 ++ (WDay z a3 y4 ++ (WMin a4 (a5 0) y5 ++ (WDay z a5 y202 ++ (WArr z a6 y203 ++ (WLet z a7 y8 ++ (WMod z a8 y9))))))))) (va_runV (As := [.int (xs (x1 + 1).toNatClampNeg)]) (rest := []) ⟨hx, hb, hml, hown, hts⟩ (tX6_urn l D z tt a1 a2 a3 a4 a5 a6 a7 y2 y3 y4 y5 y6 y7 y8 (xs (x1 + 1).toNatClampNeg) fu r200 y201 y202 y203 q204 _) (cwV 1 hts (gV4 aw605 aw606 aw607 aw45 aw608) rfl rfl rfl (by decide +kernel) ⟨Nat.le_of_ble_eq_true rfl, Nat.le_of_ble_eq_true rfl⟩) (z_preV hK hP hD hS hA hT hN hfo (va_recv hK hP (ci := 6) (q0 := 0) rfl rfl)) rfl rfl hl.1 rfl (lv_room (Nat.le_of_ble_eq_true rfl)) dL_law_541 ⟨Nat.le_of_ble_eq_true rfl, Nat.le_of_ble_eq_true rfl⟩) hP hD hS hA hfo (fun H locs hP hD hS => ?_)
          refine lv_aload_n hx hb dL_law_544 rfl (lv_at hl 2 rfl) ?_
          refine lv_aload_n hx hb dL_law_545 rfl (lv_at hl 0 rfl) ?_
          refine lv_iload_n hx hb dL_law_546 rfl (lv_at hl 3 rfl) ?_
          refine lv_iconst (v := 1) hx hb dL_law_547 (by decide) ?_
          refine lv_iadd hx hb dL_law_548 ?_
          obtain ⟨h205, hf⟩ := ck_use hf
          refine va_sld hx hb hX hbl hbA hS h205 dL_law_549 ?_
          obtain ⟨r206, y207, q208, hf⟩ := bd2_use hf
          have hfo : Foc (WFac z a1 (a2 0) (a3 0) a4 (a6 0) (a7 0) y201 ++ (WDay z a2 y3 ++ (WDay z a3 y4 ++ (WMin a4 (a5 0) y5 ++ (WDay z a5 y202 ++ (WArr z a6 y203 ++ (WLet z a7 y8 ++ (WMod z a8 y9)))))))) (WMod z a8 y9) (WFac z a1 (a2 0) (a3 0) a4 (a6 0) (a7 0) y201 ++ (WDay z a2 y3 ++ (WDay z a3 y4 ++ (WMin a4 (a5 0) y5 ++ (WDay z a5 y202 ++ (WArr z a6 y203 ++ (WLet z a7 y8 ++ (WMod z a8 y207)))))))) (WMod z a8 y207) := (foc_r (foc_r (foc_r (foc_r (foc_r (foc_r (foc_r foc_all)))))))
          refine z_goI (ws1 := (WFac z a1 (a2 0) (a3 0) a4 (a6 0) (a7 0) y201 ++ (WDay z a2 y3 ++ (WDay z a3 y4 ++ (WMin a4 (a5 0) y5 ++ (WDay z a5 y202 ++ (WArr z a6 y203 ++ (WLet z a7 y8 ++ (WMod z a8 y207))))))))) (va_runV (As := [.int (xs (x1 + 1).toNatClampNeg)]) (rest := [.int r200]) ⟨hx, hb, hml, hown, hts⟩ (tX7_urn l D z tt a8 y9 (xs (x1 + 1).toNatClampNeg) fu r206 y207 q208 _) (cwV 1 hts (gV4 aw1069 aw1070 aw1071 aw52 aw1072) rfl rfl rfl (by decide +kernel) ⟨Nat.le_of_ble_eq_true rfl, Nat.le_of_ble_eq_true rfl⟩) (z_preV hK hP hD hS hA hT hN hfo (va_recv hK hP (ci := 7) (q0 := 54) rfl rfl)) rfl rfl hl.1 rfl (lv_room (Nat.le_of_ble_eq_true rfl)) dL_law_550 ⟨Nat.le_of_ble_eq_true rfl, Nat.le_of_ble_eq_true rfl⟩) hP hD hS hA hfo (fun H locs hP hD hS => ?_)
          refine lv_icmp_eq (tgt := 824) hx hb dL_law_553 (by decide) (fun c209 => ?_) (fun c209 => ?_)
          · have hf := if_t c209 hf
            obtain ⟨x210, ex210⟩ : ∃ y : Int32, y = x1 + 4 := ⟨_, rfl⟩
            have hf := lt_use ex210 hf
            refine lv_iinc (v := x210) (lv' := [(3, .int x210), (0, .ref b), (1, .ref (a1 0)), (2, .ref (a8 0))]) hx hb dL_law_824 hl (k := 3) rfl (by rw [ex210]; rfl) (by decide) rfl (fun ls hl => ?_)
            refine lv_goto (tgt := 18) hx hb dL_law_827 (by decide) ?_
            exact ih12 _ _ _ _ _ _ _ _ _ _ _ hP hD hS _ (lv_sub hl [1, 2, 3, 0] rfl) hf
          · have hf := if_f c209 hf
            refine lv_iconst (v := 0) hx hb dL_law_556 (by decide) ?_
            exact absurd hf (by decide)
        have hf := if_f c198 hf
        by_cases c211 : x15 = 16
        · have hf := if_t c211 hf
          refine z_tin (K := 16) hx hb c211 dL_law_32 ⟨rfl, by decide, by decide⟩ (tgt := 558) (by decide) ?_
          refine lv_aload_n hx hb dL_law_558 rfl (lv_at hl 1 rfl) ?_
          refine lv_aload_n hx hb dL_law_559 rfl (lv_at hl 0 rfl) ?_
          refine lv_iload_n hx hb dL_law_560 rfl (lv_at hl 3 rfl) ?_
          refine lv_iconst (v := 1) hx hb dL_law_561 (by decide) ?_
          refine lv_iadd hx hb dL_law_562 ?_
          obtain ⟨h212, hf⟩ := ck_use hf
          refine va_sld hx hb hX hbl hbA hS h212 dL_law_563 ?_
          obtain ⟨r213, y214, y215, q216, hf⟩ := bd3_use hf
          have hfo : Foc (WFac z a1 (a2 0) (a3 0) a4 (a6 0) (a7 0) y2 ++ (WDay z a2 y3 ++ (WDay z a3 y4 ++ (WMin a4 (a5 0) y5 ++ (WDay z a5 y6 ++ (WArr z a6 y7 ++ (WLet z a7 y8 ++ (WMod z a8 y9)))))))) (WFac z a1 (a2 0) (a3 0) a4 (a6 0) (a7 0) y2 ++ (WDay z a2 y3 ++ (WDay z a3 y4 ++ (WMin a4 (a5 0) y5 ++ (WDay z a5 y6 ++ (WArr z a6 y7 ++ (WLet z a7 y8))))))) (WFac z a1 (a2 0) (a3 0) a4 (a6 0) (a7 0) y214 ++ (WDay z a2 y3 ++ (WDay z a3 y4 ++ (WMin a4 (a5 0) y5 ++ (WDay z a5 y6 ++ (WArr z a6 y215 ++ (WLet z a7 y8 ++ (WMod z a8 y9)))))))) (WFac z a1 (a2 0) (a3 0) a4 (a6 0) (a7 0) y214 ++ (WDay z a2 y3 ++ (WDay z a3 y4 ++ (WMin a4 (a5 0) y5 ++ (WDay z a5 y6 ++ (WArr z a6 y215 ++ (WLet z a7 y8))))))) := (foc_app foc_all (foc_app foc_all (foc_app foc_all (foc_app foc_all (foc_app foc_all (foc_app foc_all (foc_l foc_all)))))))
          refine z_goI (ws1 := (WFac z a1 (a2 0) (a3 0) a4 (a6 0) (a7 0) y214 ++ (WDay z a2 y3 ++ (WDay z a3 y4 ++ (WMin a4 (a5 0) y5 ++ (WDay z a5 y6 ++ (WArr z a6 y215 ++ (WLet z a7 y8 ++ (WMod z a8 y9))))))))) (va_runV (As := [.int (xs (x1 + 1).toNatClampNeg)]) (rest := []) ⟨hx, hb, hml, hown, hts⟩ (tX6_least l D z tt a1 a2 a3 a4 a5 a6 a7 y2 y3 y4 y5 y6 y7 y8 (xs (x1 + 1).toNatClampNeg) fu r213 y214 y215 q216 _) (cwV 1 hts (gV4 aw622 aw623 aw624 aw45 aw625) rfl rfl rfl (by decide +kernel) ⟨Nat.le_of_ble_eq_true rfl, Nat.le_of_ble_eq_true rfl⟩) (z_preV hK hP hD hS hA hT hN hfo (va_recv hK hP (ci := 6) (q0 := 0) rfl rfl)) rfl rfl hl.1 rfl (lv_room (Nat.le_of_ble_eq_true rfl)) dL_law_564 ⟨Nat.le_of_ble_eq_true rfl, Nat.le_of_ble_eq_true rfl⟩) hP hD hS hA hfo (fun H locs hP hD hS => ?_)
          refine lv_aload_n hx hb dL_law_567 rfl (lv_at hl 2 rfl) ?_
          refine lv_aload_n hx hb dL_law_568 rfl (lv_at hl 0 rfl) ?_
          refine lv_iload_n hx hb dL_law_569 rfl (lv_at hl 3 rfl) ?_
          refine lv_iconst (v := 1) hx hb dL_law_570 (by decide) ?_
          refine lv_iadd hx hb dL_law_571 ?_
          obtain ⟨h217, hf⟩ := ck_use hf
          refine va_sld hx hb hX hbl hbA hS h217 dL_law_572 ?_
          obtain ⟨r218, y219, q220, hf⟩ := bd2_use hf
          have hfo : Foc (WFac z a1 (a2 0) (a3 0) a4 (a6 0) (a7 0) y214 ++ (WDay z a2 y3 ++ (WDay z a3 y4 ++ (WMin a4 (a5 0) y5 ++ (WDay z a5 y6 ++ (WArr z a6 y215 ++ (WLet z a7 y8 ++ (WMod z a8 y9)))))))) (WMod z a8 y9) (WFac z a1 (a2 0) (a3 0) a4 (a6 0) (a7 0) y214 ++ (WDay z a2 y3 ++ (WDay z a3 y4 ++ (WMin a4 (a5 0) y5 ++ (WDay z a5 y6 ++ (WArr z a6 y215 ++ (WLet z a7 y8 ++ (WMod z a8 y219)))))))) (WMod z a8 y219) := (foc_r (foc_r (foc_r (foc_r (foc_r (foc_r (foc_r foc_all)))))))
          refine z_goI (ws1 := (WFac z a1 (a2 0) (a3 0) a4 (a6 0) (a7 0) y214 ++ (WDay z a2 y3 ++ (WDay z a3 y4 ++ (WMin a4 (a5 0) y5 ++ (WDay z a5 y6 ++ (WArr z a6 y215 ++ (WLet z a7 y8 ++ (WMod z a8 y219))))))))) (va_runV (As := [.int (xs (x1 + 1).toNatClampNeg)]) (rest := [.int r213]) ⟨hx, hb, hml, hown, hts⟩ (tX7_least l D z tt a8 y9 (xs (x1 + 1).toNatClampNeg) fu r218 y219 q220 _) (cwV 1 hts (gV4 aw1077 aw1078 aw1079 aw52 aw1080) rfl rfl rfl (by decide +kernel) ⟨Nat.le_of_ble_eq_true rfl, Nat.le_of_ble_eq_true rfl⟩) (z_preV hK hP hD hS hA hT hN hfo (va_recv hK hP (ci := 7) (q0 := 54) rfl rfl)) rfl rfl hl.1 rfl (lv_room (Nat.le_of_ble_eq_true rfl)) dL_law_573 ⟨Nat.le_of_ble_eq_true rfl, Nat.le_of_ble_eq_true rfl⟩) hP hD hS hA hfo (fun H locs hP hD hS => ?_)
          refine lv_icmp_eq (tgt := 824) hx hb dL_law_576 (by decide) (fun c221 => ?_) (fun c221 => ?_)
          · have hf := if_t c221 hf
            obtain ⟨x222, ex222⟩ : ∃ y : Int32, y = x1 + 4 := ⟨_, rfl⟩
            have hf := lt_use ex222 hf
            refine lv_iinc (v := x222) (lv' := [(3, .int x222), (0, .ref b), (1, .ref (a1 0)), (2, .ref (a8 0))]) hx hb dL_law_824 hl (k := 3) rfl (by rw [ex222]; rfl) (by decide) rfl (fun ls hl => ?_)
            refine lv_goto (tgt := 18) hx hb dL_law_827 (by decide) ?_
            exact ih12 _ _ _ _ _ _ _ _ _ _ _ hP hD hS _ (lv_sub hl [1, 2, 3, 0] rfl) hf
          · have hf := if_f c221 hf
            refine lv_iconst (v := 0) hx hb dL_law_579 (by decide) ?_
            exact absurd hf (by decide)
        have hf := if_f c211 hf
        by_cases c223 : x15 = 17
        · have hf := if_t c223 hf
          refine z_tin (K := 17) hx hb c223 dL_law_32 ⟨rfl, by decide, by decide⟩ (tgt := 581) (by decide) ?_
          refine lv_aload_n hx hb dL_law_581 rfl (lv_at hl 1 rfl) ?_
          refine lv_aload_n hx hb dL_law_582 rfl (lv_at hl 0 rfl) ?_
          refine lv_iload_n hx hb dL_law_583 rfl (lv_at hl 3 rfl) ?_
          refine lv_iconst (v := 1) hx hb dL_law_584 (by decide) ?_
          refine lv_iadd hx hb dL_law_585 ?_
          obtain ⟨h224, hf⟩ := ck_use hf
          refine va_sld hx hb hX hbl hbA hS h224 dL_law_586 ?_
          refine lv_aload_n hx hb dL_law_587 rfl (lv_at hl 0 rfl) ?_
          refine lv_iload_n hx hb dL_law_588 rfl (lv_at hl 3 rfl) ?_
          refine lv_iconst (v := 2) hx hb dL_law_589 (by decide) ?_
          refine lv_iadd hx hb dL_law_590 ?_
          obtain ⟨h225, hf⟩ := ck_use hf
          refine va_sld hx hb hX hbl hbA hS h225 dL_law_591 ?_
          obtain ⟨r226, y227, y228, q229, hf⟩ := bd3_use hf
          have hfo : Foc (WFac z a1 (a2 0) (a3 0) a4 (a6 0) (a7 0) y2 ++ (WDay z a2 y3 ++ (WDay z a3 y4 ++ (WMin a4 (a5 0) y5 ++ (WDay z a5 y6 ++ (WArr z a6 y7 ++ (WLet z a7 y8 ++ (WMod z a8 y9)))))))) (WFac z a1 (a2 0) (a3 0) a4 (a6 0) (a7 0) y2 ++ (WDay z a2 y3 ++ (WDay z a3 y4 ++ (WMin a4 (a5 0) y5 ++ (WDay z a5 y6 ++ (WArr z a6 y7 ++ (WLet z a7 y8))))))) (WFac z a1 (a2 0) (a3 0) a4 (a6 0) (a7 0) y227 ++ (WDay z a2 y3 ++ (WDay z a3 y4 ++ (WMin a4 (a5 0) y5 ++ (WDay z a5 y6 ++ (WArr z a6 y228 ++ (WLet z a7 y8 ++ (WMod z a8 y9)))))))) (WFac z a1 (a2 0) (a3 0) a4 (a6 0) (a7 0) y227 ++ (WDay z a2 y3 ++ (WDay z a3 y4 ++ (WMin a4 (a5 0) y5 ++ (WDay z a5 y6 ++ (WArr z a6 y228 ++ (WLet z a7 y8))))))) := (foc_app foc_all (foc_app foc_all (foc_app foc_all (foc_app foc_all (foc_app foc_all (foc_app foc_all (foc_l foc_all)))))))
          refine z_goI (ws1 := (WFac z a1 (a2 0) (a3 0) a4 (a6 0) (a7 0) y227 ++ (WDay z a2 y3 ++ (WDay z a3 y4 ++ (WMin a4 (a5 0) y5 ++ (WDay z a5 y6 ++ (WArr z a6 y228 ++ (WLet z a7 y8 ++ (WMod z a8 y9))))))))) (va_runV (As := [.int (xs (x1 + 1).toNatClampNeg), .int (xs (x1 + 2).toNatClampNeg)]) (rest := []) ⟨hx, hb, hml, hown, hts⟩ (tX6_ferry l D z tt a1 a2 a3 a4 a5 a6 a7 y2 y3 y4 y5 y6 y7 y8 (xs (x1 + 1).toNatClampNeg) (xs (x1 + 2).toNatClampNeg) fu r226 y227 y228 q229 _) (cwV 2 hts (gV4 aw644 aw645 aw646 aw45 aw647) rfl rfl rfl (by decide +kernel) ⟨Nat.le_of_ble_eq_true rfl, Nat.le_of_ble_eq_true rfl⟩) (z_preV hK hP hD hS hA hT hN hfo (va_recv hK hP (ci := 6) (q0 := 0) rfl rfl)) rfl rfl hl.1 rfl (lv_room (Nat.le_of_ble_eq_true rfl)) dL_law_592 ⟨Nat.le_of_ble_eq_true rfl, Nat.le_of_ble_eq_true rfl⟩) hP hD hS hA hfo (fun H locs hP hD hS => ?_)
          refine lv_aload_n hx hb dL_law_595 rfl (lv_at hl 2 rfl) ?_
          refine lv_aload_n hx hb dL_law_596 rfl (lv_at hl 0 rfl) ?_
          refine lv_iload_n hx hb dL_law_597 rfl (lv_at hl 3 rfl) ?_
          refine lv_iconst (v := 1) hx hb dL_law_598 (by decide) ?_
          refine lv_iadd hx hb dL_law_599 ?_
          obtain ⟨h230, hf⟩ := ck_use hf
          refine va_sld hx hb hX hbl hbA hS h230 dL_law_600 ?_
          refine lv_aload_n hx hb dL_law_601 rfl (lv_at hl 0 rfl) ?_
          refine lv_iload_n hx hb dL_law_602 rfl (lv_at hl 3 rfl) ?_
          refine lv_iconst (v := 2) hx hb dL_law_603 (by decide) ?_
          refine lv_iadd hx hb dL_law_604 ?_
          obtain ⟨h231, hf⟩ := ck_use hf
          refine va_sld hx hb hX hbl hbA hS h231 dL_law_605 ?_
          obtain ⟨r232, y233, q234, hf⟩ := bd2_use hf
          have hfo : Foc (WFac z a1 (a2 0) (a3 0) a4 (a6 0) (a7 0) y227 ++ (WDay z a2 y3 ++ (WDay z a3 y4 ++ (WMin a4 (a5 0) y5 ++ (WDay z a5 y6 ++ (WArr z a6 y228 ++ (WLet z a7 y8 ++ (WMod z a8 y9)))))))) (WMod z a8 y9) (WFac z a1 (a2 0) (a3 0) a4 (a6 0) (a7 0) y227 ++ (WDay z a2 y3 ++ (WDay z a3 y4 ++ (WMin a4 (a5 0) y5 ++ (WDay z a5 y6 ++ (WArr z a6 y228 ++ (WLet z a7 y8 ++ (WMod z a8 y233)))))))) (WMod z a8 y233) := (foc_r (foc_r (foc_r (foc_r (foc_r (foc_r (foc_r foc_all)))))))
          refine z_goI (ws1 := (WFac z a1 (a2 0) (a3 0) a4 (a6 0) (a7 0) y227 ++ (WDay z a2 y3 ++ (WDay z a3 y4 ++ (WMin a4 (a5 0) y5 ++ (WDay z a5 y6 ++ (WArr z a6 y228 ++ (WLet z a7 y8 ++ (WMod z a8 y233))))))))) (va_runV (As := [.int (xs (x1 + 1).toNatClampNeg), .int (xs (x1 + 2).toNatClampNeg)]) (rest := [.int r226]) ⟨hx, hb, hml, hown, hts⟩ (tX7_ferry l D z tt a8 y9 (xs (x1 + 1).toNatClampNeg) (xs (x1 + 2).toNatClampNeg) fu r232 y233 q234 _) (cwV 2 hts (gV4 aw1089 aw1090 aw1091 aw52 aw1092) rfl rfl rfl (by decide +kernel) ⟨Nat.le_of_ble_eq_true rfl, Nat.le_of_ble_eq_true rfl⟩) (z_preV hK hP hD hS hA hT hN hfo (va_recv hK hP (ci := 7) (q0 := 54) rfl rfl)) rfl rfl hl.1 rfl (lv_room (Nat.le_of_ble_eq_true rfl)) dL_law_606 ⟨Nat.le_of_ble_eq_true rfl, Nat.le_of_ble_eq_true rfl⟩) hP hD hS hA hfo (fun H locs hP hD hS => ?_)
          refine lv_icmp_eq (tgt := 824) hx hb dL_law_609 (by decide) (fun c235 => ?_) (fun c235 => ?_)
          · have hf := if_t c235 hf
            obtain ⟨x236, ex236⟩ : ∃ y : Int32, y = x1 + 4 := ⟨_, rfl⟩
            have hf := lt_use ex236 hf
            refine lv_iinc (v := x236) (lv' := [(3, .int x236), (0, .ref b), (1, .ref (a1 0)), (2, .ref (a8 0))]) hx hb dL_law_824 hl (k := 3) rfl (by rw [ex236]; rfl) (by decide) rfl (fun ls hl => ?_)
            refine lv_goto (tgt := 18) hx hb dL_law_827 (by decide) ?_
            exact ih12 _ _ _ _ _ _ _ _ _ _ _ hP hD hS _ (lv_sub hl [1, 2, 3, 0] rfl) hf
          · have hf := if_f c235 hf
            refine lv_iconst (v := 0) hx hb dL_law_612 (by decide) ?_
            exact absurd hf (by decide)
        have hf := if_f c223 hf
        by_cases c237 : x15 = 18
        · have hf := if_t c237 hf
          refine z_tin (K := 18) hx hb c237 dL_law_32 ⟨rfl, by decide, by decide⟩ (tgt := 614) (by decide) ?_
          refine lv_aload_n hx hb dL_law_614 rfl (lv_at hl 1 rfl) ?_
          refine lv_aload_n hx hb dL_law_615 rfl (lv_at hl 0 rfl) ?_
          refine lv_iload_n hx hb dL_law_616 rfl (lv_at hl 3 rfl) ?_
          refine lv_iconst (v := 1) hx hb dL_law_617 (by decide) ?_
          refine lv_iadd hx hb dL_law_618 ?_
          obtain ⟨h238, hf⟩ := ck_use hf
          refine va_sld hx hb hX hbl hbA hS h238 dL_law_619 ?_
          obtain ⟨r239, y240, y241, q242, hf⟩ := bd3_use hf
          have hfo : Foc (WFac z a1 (a2 0) (a3 0) a4 (a6 0) (a7 0) y2 ++ (WDay z a2 y3 ++ (WDay z a3 y4 ++ (WMin a4 (a5 0) y5 ++ (WDay z a5 y6 ++ (WArr z a6 y7 ++ (WLet z a7 y8 ++ (WMod z a8 y9)))))))) (WFac z a1 (a2 0) (a3 0) a4 (a6 0) (a7 0) y2 ++ (WDay z a2 y3 ++ (WDay z a3 y4 ++ (WMin a4 (a5 0) y5 ++ (WDay z a5 y6 ++ (WArr z a6 y7 ++ (WLet z a7 y8))))))) (WFac z a1 (a2 0) (a3 0) a4 (a6 0) (a7 0) y240 ++ (WDay z a2 y3 ++ (WDay z a3 y4 ++ (WMin a4 (a5 0) y5 ++ (WDay z a5 y6 ++ (WArr z a6 y241 ++ (WLet z a7 y8 ++ (WMod z a8 y9)))))))) (WFac z a1 (a2 0) (a3 0) a4 (a6 0) (a7 0) y240 ++ (WDay z a2 y3 ++ (WDay z a3 y4 ++ (WMin a4 (a5 0) y5 ++ (WDay z a5 y6 ++ (WArr z a6 y241 ++ (WLet z a7 y8))))))) := (foc_app foc_all (foc_app foc_all (foc_app foc_all (foc_app foc_all (foc_app foc_all (foc_app foc_all (foc_l foc_all)))))))
          refine z_goI (ws1 := (WFac z a1 (a2 0) (a3 0) a4 (a6 0) (a7 0) y240 ++ (WDay z a2 y3 ++ (WDay z a3 y4 ++ (WMin a4 (a5 0) y5 ++ (WDay z a5 y6 ++ (WArr z a6 y241 ++ (WLet z a7 y8 ++ (WMod z a8 y9))))))))) (va_runV (As := [.int (xs (x1 + 1).toNatClampNeg)]) (rest := []) ⟨hx, hb, hml, hown, hts⟩ (tX6_times l D z tt a1 a2 a3 a4 a5 a6 a7 y2 y3 y4 y5 y6 y7 y8 (xs (x1 + 1).toNatClampNeg) fu r239 y240 y241 q242 _) (cwV 1 hts (gV4 aw652 aw653 aw654 aw45 aw655) rfl rfl rfl (by decide +kernel) ⟨Nat.le_of_ble_eq_true rfl, Nat.le_of_ble_eq_true rfl⟩) (z_preV hK hP hD hS hA hT hN hfo (va_recv hK hP (ci := 6) (q0 := 0) rfl rfl)) rfl rfl hl.1 rfl (lv_room (Nat.le_of_ble_eq_true rfl)) dL_law_620 ⟨Nat.le_of_ble_eq_true rfl, Nat.le_of_ble_eq_true rfl⟩) hP hD hS hA hfo (fun H locs hP hD hS => ?_)
          refine lv_aload_n hx hb dL_law_623 rfl (lv_at hl 2 rfl) ?_
          refine lv_aload_n hx hb dL_law_624 rfl (lv_at hl 0 rfl) ?_
          refine lv_iload_n hx hb dL_law_625 rfl (lv_at hl 3 rfl) ?_
          refine lv_iconst (v := 1) hx hb dL_law_626 (by decide) ?_
          refine lv_iadd hx hb dL_law_627 ?_
          obtain ⟨h243, hf⟩ := ck_use hf
          refine va_sld hx hb hX hbl hbA hS h243 dL_law_628 ?_
          obtain ⟨r244, y245, q246, hf⟩ := bd2_use hf
          have hfo : Foc (WFac z a1 (a2 0) (a3 0) a4 (a6 0) (a7 0) y240 ++ (WDay z a2 y3 ++ (WDay z a3 y4 ++ (WMin a4 (a5 0) y5 ++ (WDay z a5 y6 ++ (WArr z a6 y241 ++ (WLet z a7 y8 ++ (WMod z a8 y9)))))))) (WMod z a8 y9) (WFac z a1 (a2 0) (a3 0) a4 (a6 0) (a7 0) y240 ++ (WDay z a2 y3 ++ (WDay z a3 y4 ++ (WMin a4 (a5 0) y5 ++ (WDay z a5 y6 ++ (WArr z a6 y241 ++ (WLet z a7 y8 ++ (WMod z a8 y245)))))))) (WMod z a8 y245) := (foc_r (foc_r (foc_r (foc_r (foc_r (foc_r (foc_r foc_all)))))))
          refine z_goI (ws1 := (WFac z a1 (a2 0) (a3 0) a4 (a6 0) (a7 0) y240 ++ (WDay z a2 y3 ++ (WDay z a3 y4 ++ (WMin a4 (a5 0) y5 ++ (WDay z a5 y6 ++ (WArr z a6 y241 ++ (WLet z a7 y8 ++ (WMod z a8 y245))))))))) (va_runV (As := [.int (xs (x1 + 1).toNatClampNeg)]) (rest := [.int r239]) ⟨hx, hb, hml, hown, hts⟩ (tX7_times l D z tt a8 y9 (xs (x1 + 1).toNatClampNeg) fu r244 y245 q246 _) (cwV 1 hts (gV4 aw1097 aw1098 aw1099 aw52 aw1100) rfl rfl rfl (by decide +kernel) ⟨Nat.le_of_ble_eq_true rfl, Nat.le_of_ble_eq_true rfl⟩) (z_preV hK hP hD hS hA hT hN hfo (va_recv hK hP (ci := 7) (q0 := 54) rfl rfl)) rfl rfl hl.1 rfl (lv_room (Nat.le_of_ble_eq_true rfl)) dL_law_629 ⟨Nat.le_of_ble_eq_true rfl, Nat.le_of_ble_eq_true rfl⟩) hP hD hS hA hfo (fun H locs hP hD hS => ?_)
          refine lv_icmp_eq (tgt := 824) hx hb dL_law_632 (by decide) (fun c247 => ?_) (fun c247 => ?_)
          · have hf := if_t c247 hf
            obtain ⟨x248, ex248⟩ : ∃ y : Int32, y = x1 + 4 := ⟨_, rfl⟩
            have hf := lt_use ex248 hf
            refine lv_iinc (v := x248) (lv' := [(3, .int x248), (0, .ref b), (1, .ref (a1 0)), (2, .ref (a8 0))]) hx hb dL_law_824 hl (k := 3) rfl (by rw [ex248]; rfl) (by decide) rfl (fun ls hl => ?_)
            refine lv_goto (tgt := 18) hx hb dL_law_827 (by decide) ?_
            exact ih12 _ _ _ _ _ _ _ _ _ _ _ hP hD hS _ (lv_sub hl [1, 2, 3, 0] rfl) hf
          · have hf := if_f c247 hf
            refine lv_iconst (v := 0) hx hb dL_law_635 (by decide) ?_
            exact absurd hf (by decide)
        have hf := if_f c237 hf
        by_cases c249 : x15 = 19
        · have hf := if_t c249 hf
          refine z_tin (K := 19) hx hb c249 dL_law_32 ⟨rfl, by decide, by decide⟩ (tgt := 637) (by decide) ?_
          refine lv_aload_n hx hb dL_law_637 rfl (lv_at hl 1 rfl) ?_
          refine lv_aload_n hx hb dL_law_638 rfl (lv_at hl 0 rfl) ?_
          refine lv_iload_n hx hb dL_law_639 rfl (lv_at hl 3 rfl) ?_
          refine lv_iconst (v := 1) hx hb dL_law_640 (by decide) ?_
          refine lv_iadd hx hb dL_law_641 ?_
          obtain ⟨h250, hf⟩ := ck_use hf
          refine va_sld hx hb hX hbl hbA hS h250 dL_law_642 ?_
          obtain ⟨r251, y252, y253, q254, hf⟩ := bd3_use hf
          have hfo : Foc (WFac z a1 (a2 0) (a3 0) a4 (a6 0) (a7 0) y2 ++ (WDay z a2 y3 ++ (WDay z a3 y4 ++ (WMin a4 (a5 0) y5 ++ (WDay z a5 y6 ++ (WArr z a6 y7 ++ (WLet z a7 y8 ++ (WMod z a8 y9)))))))) (WFac z a1 (a2 0) (a3 0) a4 (a6 0) (a7 0) y2 ++ (WDay z a2 y3 ++ (WDay z a3 y4 ++ (WMin a4 (a5 0) y5 ++ (WDay z a5 y6 ++ (WArr z a6 y7 ++ (WLet z a7 y8))))))) (WFac z a1 (a2 0) (a3 0) a4 (a6 0) (a7 0) y252 ++ (WDay z a2 y3 ++ (WDay z a3 y4 ++ (WMin a4 (a5 0) y5 ++ (WDay z a5 y6 ++ (WArr z a6 y253 ++ (WLet z a7 y8 ++ (WMod z a8 y9)))))))) (WFac z a1 (a2 0) (a3 0) a4 (a6 0) (a7 0) y252 ++ (WDay z a2 y3 ++ (WDay z a3 y4 ++ (WMin a4 (a5 0) y5 ++ (WDay z a5 y6 ++ (WArr z a6 y253 ++ (WLet z a7 y8))))))) := (foc_app foc_all (foc_app foc_all (foc_app foc_all (foc_app foc_all (foc_app foc_all (foc_app foc_all (foc_l foc_all)))))))
          refine z_goI (ws1 := (WFac z a1 (a2 0) (a3 0) a4 (a6 0) (a7 0) y252 ++ (WDay z a2 y3 ++ (WDay z a3 y4 ++ (WMin a4 (a5 0) y5 ++ (WDay z a5 y6 ++ (WArr z a6 y253 ++ (WLet z a7 y8 ++ (WMod z a8 y9))))))))) (va_runV (As := [.int (xs (x1 + 1).toNatClampNeg)]) (rest := []) ⟨hx, hb, hml, hown, hts⟩ (tX6_better l D z tt a1 a2 a3 a4 a5 a6 a7 y2 y3 y4 y5 y6 y7 y8 (xs (x1 + 1).toNatClampNeg) fu r251 y252 y253 q254 _) (cwV 1 hts (gV4 aw663 aw664 aw665 aw45 aw666) rfl rfl rfl (by decide +kernel) ⟨Nat.le_of_ble_eq_true rfl, Nat.le_of_ble_eq_true rfl⟩) (z_preV hK hP hD hS hA hT hN hfo (va_recv hK hP (ci := 6) (q0 := 0) rfl rfl)) rfl rfl hl.1 rfl (lv_room (Nat.le_of_ble_eq_true rfl)) dL_law_643 ⟨Nat.le_of_ble_eq_true rfl, Nat.le_of_ble_eq_true rfl⟩) hP hD hS hA hfo (fun H locs hP hD hS => ?_)
          refine lv_aload_n hx hb dL_law_646 rfl (lv_at hl 2 rfl) ?_
          refine lv_aload_n hx hb dL_law_647 rfl (lv_at hl 0 rfl) ?_
          refine lv_iload_n hx hb dL_law_648 rfl (lv_at hl 3 rfl) ?_
          refine lv_iconst (v := 1) hx hb dL_law_649 (by decide) ?_
          refine lv_iadd hx hb dL_law_650 ?_
          obtain ⟨h255, hf⟩ := ck_use hf
          refine va_sld hx hb hX hbl hbA hS h255 dL_law_651 ?_
          obtain ⟨r256, y257, q258, hf⟩ := bd2_use hf
          have hfo : Foc (WFac z a1 (a2 0) (a3 0) a4 (a6 0) (a7 0) y252 ++ (WDay z a2 y3 ++ (WDay z a3 y4 ++ (WMin a4 (a5 0) y5 ++ (WDay z a5 y6 ++ (WArr z a6 y253 ++ (WLet z a7 y8 ++ (WMod z a8 y9)))))))) (WMod z a8 y9) (WFac z a1 (a2 0) (a3 0) a4 (a6 0) (a7 0) y252 ++ (WDay z a2 y3 ++ (WDay z a3 y4 ++ (WMin a4 (a5 0) y5 ++ (WDay z a5 y6 ++ (WArr z a6 y253 ++ (WLet z a7 y8 ++ (WMod z a8 y257)))))))) (WMod z a8 y257) := (foc_r (foc_r (foc_r (foc_r (foc_r (foc_r (foc_r foc_all)))))))
          refine z_goI (ws1 := (WFac z a1 (a2 0) (a3 0) a4 (a6 0) (a7 0) y252 ++ (WDay z a2 y3 ++ (WDay z a3 y4 ++ (WMin a4 (a5 0) y5 ++ (WDay z a5 y6 ++ (WArr z a6 y253 ++ (WLet z a7 y8 ++ (WMod z a8 y257))))))))) (va_runV (As := [.int (xs (x1 + 1).toNatClampNeg)]) (rest := [.int r251]) ⟨hx, hb, hml, hown, hts⟩ (tX7_better l D z tt a8 y9 (xs (x1 + 1).toNatClampNeg) fu r256 y257 q258 _) (cwV 1 hts (gV4 aw1105 aw1106 aw1107 aw52 aw1108) rfl rfl rfl (by decide +kernel) ⟨Nat.le_of_ble_eq_true rfl, Nat.le_of_ble_eq_true rfl⟩) (z_preV hK hP hD hS hA hT hN hfo (va_recv hK hP (ci := 7) (q0 := 54) rfl rfl)) rfl rfl hl.1 rfl (lv_room (Nat.le_of_ble_eq_true rfl)) dL_law_652 ⟨Nat.le_of_ble_eq_true rfl, Nat.le_of_ble_eq_true rfl⟩) hP hD hS hA hfo (fun H locs hP hD hS => ?_)
          refine lv_icmp_eq (tgt := 824) hx hb dL_law_655 (by decide) (fun c259 => ?_) (fun c259 => ?_)
          · have hf := if_t c259 hf
            obtain ⟨x260, ex260⟩ : ∃ y : Int32, y = x1 + 4 := ⟨_, rfl⟩
            have hf := lt_use ex260 hf
            refine lv_iinc (v := x260) (lv' := [(3, .int x260), (0, .ref b), (1, .ref (a1 0)), (2, .ref (a8 0))]) hx hb dL_law_824 hl (k := 3) rfl (by rw [ex260]; rfl) (by decide) rfl (fun ls hl => ?_)
            refine lv_goto (tgt := 18) hx hb dL_law_827 (by decide) ?_
            exact ih12 _ _ _ _ _ _ _ _ _ _ _ hP hD hS _ (lv_sub hl [1, 2, 3, 0] rfl) hf
          · have hf := if_f c259 hf
            refine lv_iconst (v := 0) hx hb dL_law_658 (by decide) ?_
            exact absurd hf (by decide)
        have hf := if_f c249 hf
        by_cases c261 : x15 = 20
        · have hf := if_t c261 hf
          refine z_tin (K := 20) hx hb c261 dL_law_32 ⟨rfl, by decide, by decide⟩ (tgt := 660) (by decide) ?_
          refine lv_aload_n hx hb dL_law_660 rfl (lv_at hl 1 rfl) ?_
          obtain ⟨r262, y263, q264, hf⟩ := bd2_use hf
          have hfo : Foc (WFac z a1 (a2 0) (a3 0) a4 (a6 0) (a7 0) y2 ++ (WDay z a2 y3 ++ (WDay z a3 y4 ++ (WMin a4 (a5 0) y5 ++ (WDay z a5 y6 ++ (WArr z a6 y7 ++ (WLet z a7 y8 ++ (WMod z a8 y9)))))))) (WFac z a1 (a2 0) (a3 0) a4 (a6 0) (a7 0) y2 ++ (WDay z a2 y3 ++ (WDay z a3 y4 ++ (WMin a4 (a5 0) y5 ++ (WDay z a5 y6 ++ (WArr z a6 y7 ++ (WLet z a7 y8))))))) (WFac z a1 (a2 0) (a3 0) a4 (a6 0) (a7 0) y2 ++ (WDay z a2 y3 ++ (WDay z a3 y4 ++ (WMin a4 (a5 0) y5 ++ (WDay z a5 y263 ++ (WArr z a6 y7 ++ (WLet z a7 y8 ++ (WMod z a8 y9)))))))) (WFac z a1 (a2 0) (a3 0) a4 (a6 0) (a7 0) y2 ++ (WDay z a2 y3 ++ (WDay z a3 y4 ++ (WMin a4 (a5 0) y5 ++ (WDay z a5 y263 ++ (WArr z a6 y7 ++ (WLet z a7 y8))))))) := (foc_app foc_all (foc_app foc_all (foc_app foc_all (foc_app foc_all (foc_app foc_all (foc_app foc_all (foc_l foc_all)))))))
          refine z_goI (ws1 := (WFac z a1 (a2 0) (a3 0) a4 (a6 0) (a7 0) y2 ++ (WDay z a2 y3 ++ (WDay z a3 y4 ++ (WMin a4 (a5 0) y5 ++ (WDay z a5 y263 ++ (WArr z a6 y7 ++ (WLet z a7 y8 ++ (WMod z a8 y9))))))))) (va_runV (As := []) (rest := []) ⟨hx, hb, hml, hown, hts⟩ (tX6_follow l D z tt a1 a2 a3 a4 a5 a6 a7 y2 y3 y4 y5 y6 y7 y8  fu r262 y263 q264 _) (cwV 0 hts (gV4 aw673 aw674 aw675 aw45 aw676) rfl rfl rfl (by decide +kernel) ⟨Nat.le_of_ble_eq_true rfl, Nat.le_of_ble_eq_true rfl⟩) (z_preV hK hP hD hS hA hT hN hfo (va_recv hK hP (ci := 6) (q0 := 0) rfl rfl)) rfl rfl hl.1 rfl (lv_room (Nat.le_of_ble_eq_true rfl)) dL_law_661 ⟨Nat.le_of_ble_eq_true rfl, Nat.le_of_ble_eq_true rfl⟩) hP hD hS hA hfo (fun H locs hP hD hS => ?_)
          refine lv_aload_n hx hb dL_law_664 rfl (lv_at hl 2 rfl) ?_
          obtain ⟨r265, y266, q267, hf⟩ := bd2_use hf
          have hfo : Foc (WFac z a1 (a2 0) (a3 0) a4 (a6 0) (a7 0) y2 ++ (WDay z a2 y3 ++ (WDay z a3 y4 ++ (WMin a4 (a5 0) y5 ++ (WDay z a5 y263 ++ (WArr z a6 y7 ++ (WLet z a7 y8 ++ (WMod z a8 y9)))))))) (WMod z a8 y9) (WFac z a1 (a2 0) (a3 0) a4 (a6 0) (a7 0) y2 ++ (WDay z a2 y3 ++ (WDay z a3 y4 ++ (WMin a4 (a5 0) y5 ++ (WDay z a5 y263 ++ (WArr z a6 y7 ++ (WLet z a7 y8 ++ (WMod z a8 y266)))))))) (WMod z a8 y266) := (foc_r (foc_r (foc_r (foc_r (foc_r (foc_r (foc_r foc_all)))))))
          refine z_goI (ws1 := (WFac z a1 (a2 0) (a3 0) a4 (a6 0) (a7 0) y2 ++ (WDay z a2 y3 ++ (WDay z a3 y4 ++ (WMin a4 (a5 0) y5 ++ (WDay z a5 y263 ++ (WArr z a6 y7 ++ (WLet z a7 y8 ++ (WMod z a8 y266))))))))) (va_runV (As := []) (rest := [.int r262]) ⟨hx, hb, hml, hown, hts⟩ (tX7_follow l D z tt a8 y9  fu r265 y266 q267 _) (cwV 0 hts (gV4 aw1109 aw1110 aw1111 aw52 aw1112) rfl rfl rfl (by decide +kernel) ⟨Nat.le_of_ble_eq_true rfl, Nat.le_of_ble_eq_true rfl⟩) (z_preV hK hP hD hS hA hT hN hfo (va_recv hK hP (ci := 7) (q0 := 54) rfl rfl)) rfl rfl hl.1 rfl (lv_room (Nat.le_of_ble_eq_true rfl)) dL_law_665 ⟨Nat.le_of_ble_eq_true rfl, Nat.le_of_ble_eq_true rfl⟩) hP hD hS hA hfo (fun H locs hP hD hS => ?_)
          refine lv_icmp_eq (tgt := 824) hx hb dL_law_668 (by decide) (fun c268 => ?_) (fun c268 => ?_)
          · have hf := if_t c268 hf
            obtain ⟨x269, ex269⟩ : ∃ y : Int32, y = x1 + 4 := ⟨_, rfl⟩
            have hf := lt_use ex269 hf
            refine lv_iinc (v := x269) (lv' := [(3, .int x269), (0, .ref b), (1, .ref (a1 0)), (2, .ref (a8 0))]) hx hb dL_law_824 hl (k := 3) rfl (by rw [ex269]; rfl) (by decide) rfl (fun ls hl => ?_)
            refine lv_goto (tgt := 18) hx hb dL_law_827 (by decide) ?_
            exact ih12 _ _ _ _ _ _ _ _ _ _ _ hP hD hS _ (lv_sub hl [1, 2, 3, 0] rfl) hf
          · have hf := if_f c268 hf
            refine lv_iconst (v := 0) hx hb dL_law_671 (by decide) ?_
            exact absurd hf (by decide)
        have hf := if_f c261 hf
        by_cases c270 : x15 = 21
        · have hf := if_t c270 hf
          refine z_tin (K := 21) hx hb c270 dL_law_32 ⟨rfl, by decide, by decide⟩ (tgt := 673) (by decide) ?_
          refine lv_aload_n hx hb dL_law_673 rfl (lv_at hl 1 rfl) ?_
          refine lv_aload_n hx hb dL_law_674 rfl (lv_at hl 0 rfl) ?_
          refine lv_iload_n hx hb dL_law_675 rfl (lv_at hl 3 rfl) ?_
          refine lv_iconst (v := 1) hx hb dL_law_676 (by decide) ?_
          refine lv_iadd hx hb dL_law_677 ?_
          obtain ⟨h271, hf⟩ := ck_use hf
          refine va_sld hx hb hX hbl hbA hS h271 dL_law_678 ?_
          obtain ⟨r272, y273, q274, hf⟩ := bd2_use hf
          have hfo : Foc (WFac z a1 (a2 0) (a3 0) a4 (a6 0) (a7 0) y2 ++ (WDay z a2 y3 ++ (WDay z a3 y4 ++ (WMin a4 (a5 0) y5 ++ (WDay z a5 y6 ++ (WArr z a6 y7 ++ (WLet z a7 y8 ++ (WMod z a8 y9)))))))) (WFac z a1 (a2 0) (a3 0) a4 (a6 0) (a7 0) y2 ++ (WDay z a2 y3 ++ (WDay z a3 y4 ++ (WMin a4 (a5 0) y5 ++ (WDay z a5 y6 ++ (WArr z a6 y7 ++ (WLet z a7 y8))))))) (WFac z a1 (a2 0) (a3 0) a4 (a6 0) (a7 0) y273 ++ (WDay z a2 y3 ++ (WDay z a3 y4 ++ (WMin a4 (a5 0) y5 ++ (WDay z a5 y6 ++ (WArr z a6 y7 ++ (WLet z a7 y8 ++ (WMod z a8 y9)))))))) (WFac z a1 (a2 0) (a3 0) a4 (a6 0) (a7 0) y273 ++ (WDay z a2 y3 ++ (WDay z a3 y4 ++ (WMin a4 (a5 0) y5 ++ (WDay z a5 y6 ++ (WArr z a6 y7 ++ (WLet z a7 y8))))))) := (foc_app foc_all (foc_app foc_all (foc_app foc_all (foc_app foc_all (foc_app foc_all (foc_app foc_all (foc_l foc_all)))))))
          refine z_goI (ws1 := (WFac z a1 (a2 0) (a3 0) a4 (a6 0) (a7 0) y273 ++ (WDay z a2 y3 ++ (WDay z a3 y4 ++ (WMin a4 (a5 0) y5 ++ (WDay z a5 y6 ++ (WArr z a6 y7 ++ (WLet z a7 y8 ++ (WMod z a8 y9))))))))) (va_runV (As := [.int (xs (x1 + 1).toNatClampNeg)]) (rest := []) ⟨hx, hb, hml, hown, hts⟩ (tX6_row l D z tt a1 a2 a3 a4 a5 a6 a7 y2 y3 y4 y5 y6 y7 y8 (xs (x1 + 1).toNatClampNeg) fu r272 y273 q274 _) (cwV 1 hts (gV4 aw682 aw683 aw684 aw45 aw685) rfl rfl rfl (by decide +kernel) ⟨Nat.le_of_ble_eq_true rfl, Nat.le_of_ble_eq_true rfl⟩) (z_preV hK hP hD hS hA hT hN hfo (va_recv hK hP (ci := 6) (q0 := 0) rfl rfl)) rfl rfl hl.1 rfl (lv_room (Nat.le_of_ble_eq_true rfl)) dL_law_679 ⟨Nat.le_of_ble_eq_true rfl, Nat.le_of_ble_eq_true rfl⟩) hP hD hS hA hfo (fun H locs hP hD hS => ?_)
          refine lv_aload_n hx hb dL_law_682 rfl (lv_at hl 2 rfl) ?_
          refine lv_aload_n hx hb dL_law_683 rfl (lv_at hl 0 rfl) ?_
          refine lv_iload_n hx hb dL_law_684 rfl (lv_at hl 3 rfl) ?_
          refine lv_iconst (v := 1) hx hb dL_law_685 (by decide) ?_
          refine lv_iadd hx hb dL_law_686 ?_
          obtain ⟨h275, hf⟩ := ck_use hf
          refine va_sld hx hb hX hbl hbA hS h275 dL_law_687 ?_
          obtain ⟨r276, y277, q278, hf⟩ := bd2_use hf
          have hfo : Foc (WFac z a1 (a2 0) (a3 0) a4 (a6 0) (a7 0) y273 ++ (WDay z a2 y3 ++ (WDay z a3 y4 ++ (WMin a4 (a5 0) y5 ++ (WDay z a5 y6 ++ (WArr z a6 y7 ++ (WLet z a7 y8 ++ (WMod z a8 y9)))))))) (WMod z a8 y9) (WFac z a1 (a2 0) (a3 0) a4 (a6 0) (a7 0) y273 ++ (WDay z a2 y3 ++ (WDay z a3 y4 ++ (WMin a4 (a5 0) y5 ++ (WDay z a5 y6 ++ (WArr z a6 y7 ++ (WLet z a7 y8 ++ (WMod z a8 y277)))))))) (WMod z a8 y277) := (foc_r (foc_r (foc_r (foc_r (foc_r (foc_r (foc_r foc_all)))))))
          refine z_goI (ws1 := (WFac z a1 (a2 0) (a3 0) a4 (a6 0) (a7 0) y273 ++ (WDay z a2 y3 ++ (WDay z a3 y4 ++ (WMin a4 (a5 0) y5 ++ (WDay z a5 y6 ++ (WArr z a6 y7 ++ (WLet z a7 y8 ++ (WMod z a8 y277))))))))) (va_runV (As := [.int (xs (x1 + 1).toNatClampNeg)]) (rest := [.int r272]) ⟨hx, hb, hml, hown, hts⟩ (tX7_row l D z tt a8 y9 (xs (x1 + 1).toNatClampNeg) fu r276 y277 q278 _) (cwV 1 hts (gV4 aw1113 aw1114 aw1115 aw52 aw1116) rfl rfl rfl (by decide +kernel) ⟨Nat.le_of_ble_eq_true rfl, Nat.le_of_ble_eq_true rfl⟩) (z_preV hK hP hD hS hA hT hN hfo (va_recv hK hP (ci := 7) (q0 := 54) rfl rfl)) rfl rfl hl.1 rfl (lv_room (Nat.le_of_ble_eq_true rfl)) dL_law_688 ⟨Nat.le_of_ble_eq_true rfl, Nat.le_of_ble_eq_true rfl⟩) hP hD hS hA hfo (fun H locs hP hD hS => ?_)
          refine lv_icmp_eq (tgt := 824) hx hb dL_law_691 (by decide) (fun c279 => ?_) (fun c279 => ?_)
          · have hf := if_t c279 hf
            obtain ⟨x280, ex280⟩ : ∃ y : Int32, y = x1 + 4 := ⟨_, rfl⟩
            have hf := lt_use ex280 hf
            refine lv_iinc (v := x280) (lv' := [(3, .int x280), (0, .ref b), (1, .ref (a1 0)), (2, .ref (a8 0))]) hx hb dL_law_824 hl (k := 3) rfl (by rw [ex280]; rfl) (by decide) rfl (fun ls hl => ?_)
            refine lv_goto (tgt := 18) hx hb dL_law_827 (by decide) ?_
            exact ih12 _ _ _ _ _ _ _ _ _ _ _ hP hD hS _ (lv_sub hl [1, 2, 3, 0] rfl) hf
          · have hf := if_f c279 hf
            refine lv_iconst (v := 0) hx hb dL_law_694 (by decide) ?_
            exact absurd hf (by decide)
        have hf := if_f c270 hf
        by_cases c281 : x15 = 22
        · have hf := if_t c281 hf
          refine z_tin (K := 22) hx hb c281 dL_law_32 ⟨rfl, by decide, by decide⟩ (tgt := 696) (by decide) ?_
          refine lv_aload_n hx hb dL_law_696 rfl (lv_at hl 1 rfl) ?_
          obtain ⟨r282, y283, y284, q285, hf⟩ := bd3_use hf
          have hfo : Foc (WFac z a1 (a2 0) (a3 0) a4 (a6 0) (a7 0) y2 ++ (WDay z a2 y3 ++ (WDay z a3 y4 ++ (WMin a4 (a5 0) y5 ++ (WDay z a5 y6 ++ (WArr z a6 y7 ++ (WLet z a7 y8 ++ (WMod z a8 y9)))))))) (WFac z a1 (a2 0) (a3 0) a4 (a6 0) (a7 0) y2 ++ (WDay z a2 y3 ++ (WDay z a3 y4 ++ (WMin a4 (a5 0) y5 ++ (WDay z a5 y6 ++ (WArr z a6 y7 ++ (WLet z a7 y8))))))) (WFac z a1 (a2 0) (a3 0) a4 (a6 0) (a7 0) y283 ++ (WDay z a2 y3 ++ (WDay z a3 y4 ++ (WMin a4 (a5 0) y5 ++ (WDay z a5 y284 ++ (WArr z a6 y7 ++ (WLet z a7 y8 ++ (WMod z a8 y9)))))))) (WFac z a1 (a2 0) (a3 0) a4 (a6 0) (a7 0) y283 ++ (WDay z a2 y3 ++ (WDay z a3 y4 ++ (WMin a4 (a5 0) y5 ++ (WDay z a5 y284 ++ (WArr z a6 y7 ++ (WLet z a7 y8))))))) := (foc_app foc_all (foc_app foc_all (foc_app foc_all (foc_app foc_all (foc_app foc_all (foc_app foc_all (foc_l foc_all)))))))
          refine z_goI (ws1 := (WFac z a1 (a2 0) (a3 0) a4 (a6 0) (a7 0) y283 ++ (WDay z a2 y3 ++ (WDay z a3 y4 ++ (WMin a4 (a5 0) y5 ++ (WDay z a5 y284 ++ (WArr z a6 y7 ++ (WLet z a7 y8 ++ (WMod z a8 y9))))))))) (va_runV (As := []) (rest := []) ⟨hx, hb, hml, hown, hts⟩ (tX6_judge l D z tt a1 a2 a3 a4 a5 a6 a7 y2 y3 y4 y5 y6 y7 y8  fu r282 y283 y284 q285 _) (cwV 0 hts (gV4 aw686 aw687 aw688 aw45 aw689) rfl rfl rfl (by decide +kernel) ⟨Nat.le_of_ble_eq_true rfl, Nat.le_of_ble_eq_true rfl⟩) (z_preV hK hP hD hS hA hT hN hfo (va_recv hK hP (ci := 6) (q0 := 0) rfl rfl)) rfl rfl hl.1 rfl (lv_room (Nat.le_of_ble_eq_true rfl)) dL_law_697 ⟨Nat.le_of_ble_eq_true rfl, Nat.le_of_ble_eq_true rfl⟩) hP hD hS hA hfo (fun H locs hP hD hS => ?_)
          refine lv_aload_n hx hb dL_law_700 rfl (lv_at hl 2 rfl) ?_
          obtain ⟨r286, y287, q288, hf⟩ := bd2_use hf
          have hfo : Foc (WFac z a1 (a2 0) (a3 0) a4 (a6 0) (a7 0) y283 ++ (WDay z a2 y3 ++ (WDay z a3 y4 ++ (WMin a4 (a5 0) y5 ++ (WDay z a5 y284 ++ (WArr z a6 y7 ++ (WLet z a7 y8 ++ (WMod z a8 y9)))))))) (WMod z a8 y9) (WFac z a1 (a2 0) (a3 0) a4 (a6 0) (a7 0) y283 ++ (WDay z a2 y3 ++ (WDay z a3 y4 ++ (WMin a4 (a5 0) y5 ++ (WDay z a5 y284 ++ (WArr z a6 y7 ++ (WLet z a7 y8 ++ (WMod z a8 y287)))))))) (WMod z a8 y287) := (foc_r (foc_r (foc_r (foc_r (foc_r (foc_r (foc_r foc_all)))))))
          refine z_goI (ws1 := (WFac z a1 (a2 0) (a3 0) a4 (a6 0) (a7 0) y283 ++ (WDay z a2 y3 ++ (WDay z a3 y4 ++ (WMin a4 (a5 0) y5 ++ (WDay z a5 y284 ++ (WArr z a6 y7 ++ (WLet z a7 y8 ++ (WMod z a8 y287))))))))) (va_runV (As := []) (rest := [.int r282]) ⟨hx, hb, hml, hown, hts⟩ (tX7_judge l D z tt a8 y9  fu r286 y287 q288 _) (cwV 0 hts (gV4 aw1117 aw1118 aw1119 aw52 aw1120) rfl rfl rfl (by decide +kernel) ⟨Nat.le_of_ble_eq_true rfl, Nat.le_of_ble_eq_true rfl⟩) (z_preV hK hP hD hS hA hT hN hfo (va_recv hK hP (ci := 7) (q0 := 54) rfl rfl)) rfl rfl hl.1 rfl (lv_room (Nat.le_of_ble_eq_true rfl)) dL_law_701 ⟨Nat.le_of_ble_eq_true rfl, Nat.le_of_ble_eq_true rfl⟩) hP hD hS hA hfo (fun H locs hP hD hS => ?_)
          refine lv_icmp_eq (tgt := 824) hx hb dL_law_704 (by decide) (fun c289 => ?_) (fun c289 => ?_)
          · have hf := if_t c289 hf
            obtain ⟨x290, ex290⟩ : ∃ y : Int32, y = x1 + 4 := ⟨_, rfl⟩
            have hf := lt_use ex290 hf
            refine lv_iinc (v := x290) (lv' := [(3, .int x290), (0, .ref b), (1, .ref (a1 0)), (2, .ref (a8 0))]) hx hb dL_law_824 hl (k := 3) rfl (by rw [ex290]; rfl) (by decide) rfl (fun ls hl => ?_)
            refine lv_goto (tgt := 18) hx hb dL_law_827 (by decide) ?_
            exact ih12 _ _ _ _ _ _ _ _ _ _ _ hP hD hS _ (lv_sub hl [1, 2, 3, 0] rfl) hf
          · have hf := if_f c289 hf
            refine lv_iconst (v := 0) hx hb dL_law_707 (by decide) ?_
            exact absurd hf (by decide)
        have hf := if_f c281 hf
        by_cases c291 : x15 = 23
        · have hf := if_t c291 hf
          refine z_tin (K := 23) hx hb c291 dL_law_32 ⟨rfl, by decide, by decide⟩ (tgt := 709) (by decide) ?_
          refine lv_aload_n hx hb dL_law_709 rfl (lv_at hl 1 rfl) ?_
          refine lv_aload_n hx hb dL_law_710 rfl (lv_at hl 0 rfl) ?_
          refine lv_iload_n hx hb dL_law_711 rfl (lv_at hl 3 rfl) ?_
          refine lv_iconst (v := 1) hx hb dL_law_712 (by decide) ?_
          refine lv_iadd hx hb dL_law_713 ?_
          obtain ⟨h292, hf⟩ := ck_use hf
          refine va_sld hx hb hX hbl hbA hS h292 dL_law_714 ?_
          obtain ⟨r293, y294, q295, hf⟩ := bd2_use hf
          have hfo : Foc (WFac z a1 (a2 0) (a3 0) a4 (a6 0) (a7 0) y2 ++ (WDay z a2 y3 ++ (WDay z a3 y4 ++ (WMin a4 (a5 0) y5 ++ (WDay z a5 y6 ++ (WArr z a6 y7 ++ (WLet z a7 y8 ++ (WMod z a8 y9)))))))) (WFac z a1 (a2 0) (a3 0) a4 (a6 0) (a7 0) y2 ++ (WDay z a2 y3 ++ (WDay z a3 y4 ++ (WMin a4 (a5 0) y5 ++ (WDay z a5 y6 ++ (WArr z a6 y7 ++ (WLet z a7 y8))))))) (WFac z a1 (a2 0) (a3 0) a4 (a6 0) (a7 0) y294 ++ (WDay z a2 y3 ++ (WDay z a3 y4 ++ (WMin a4 (a5 0) y5 ++ (WDay z a5 y6 ++ (WArr z a6 y7 ++ (WLet z a7 y8 ++ (WMod z a8 y9)))))))) (WFac z a1 (a2 0) (a3 0) a4 (a6 0) (a7 0) y294 ++ (WDay z a2 y3 ++ (WDay z a3 y4 ++ (WMin a4 (a5 0) y5 ++ (WDay z a5 y6 ++ (WArr z a6 y7 ++ (WLet z a7 y8))))))) := (foc_app foc_all (foc_app foc_all (foc_app foc_all (foc_app foc_all (foc_app foc_all (foc_app foc_all (foc_l foc_all)))))))
          refine z_goI (ws1 := (WFac z a1 (a2 0) (a3 0) a4 (a6 0) (a7 0) y294 ++ (WDay z a2 y3 ++ (WDay z a3 y4 ++ (WMin a4 (a5 0) y5 ++ (WDay z a5 y6 ++ (WArr z a6 y7 ++ (WLet z a7 y8 ++ (WMod z a8 y9))))))))) (va_runV (As := [.int (xs (x1 + 1).toNatClampNeg)]) (rest := []) ⟨hx, hb, hml, hown, hts⟩ (tX6_fits l D z tt a1 a2 a3 a4 a5 a6 a7 y2 y3 y4 y5 y6 y7 y8 (xs (x1 + 1).toNatClampNeg) fu r293 y294 q295 _) (cwV 1 hts (gV4 aw694 aw695 aw696 aw45 aw697) rfl rfl rfl (by decide +kernel) ⟨Nat.le_of_ble_eq_true rfl, Nat.le_of_ble_eq_true rfl⟩) (z_preV hK hP hD hS hA hT hN hfo (va_recv hK hP (ci := 6) (q0 := 0) rfl rfl)) rfl rfl hl.1 rfl (lv_room (Nat.le_of_ble_eq_true rfl)) dL_law_715 ⟨Nat.le_of_ble_eq_true rfl, Nat.le_of_ble_eq_true rfl⟩) hP hD hS hA hfo (fun H locs hP hD hS => ?_)
          refine lv_aload_n hx hb dL_law_718 rfl (lv_at hl 2 rfl) ?_
          refine lv_aload_n hx hb dL_law_719 rfl (lv_at hl 0 rfl) ?_
          refine lv_iload_n hx hb dL_law_720 rfl (lv_at hl 3 rfl) ?_
          refine lv_iconst (v := 1) hx hb dL_law_721 (by decide) ?_
          refine lv_iadd hx hb dL_law_722 ?_
          obtain ⟨h296, hf⟩ := ck_use hf
          refine va_sld hx hb hX hbl hbA hS h296 dL_law_723 ?_
          obtain ⟨r297, y298, q299, hf⟩ := bd2_use hf
          have hfo : Foc (WFac z a1 (a2 0) (a3 0) a4 (a6 0) (a7 0) y294 ++ (WDay z a2 y3 ++ (WDay z a3 y4 ++ (WMin a4 (a5 0) y5 ++ (WDay z a5 y6 ++ (WArr z a6 y7 ++ (WLet z a7 y8 ++ (WMod z a8 y9)))))))) (WMod z a8 y9) (WFac z a1 (a2 0) (a3 0) a4 (a6 0) (a7 0) y294 ++ (WDay z a2 y3 ++ (WDay z a3 y4 ++ (WMin a4 (a5 0) y5 ++ (WDay z a5 y6 ++ (WArr z a6 y7 ++ (WLet z a7 y8 ++ (WMod z a8 y298)))))))) (WMod z a8 y298) := (foc_r (foc_r (foc_r (foc_r (foc_r (foc_r (foc_r foc_all)))))))
          refine z_goI (ws1 := (WFac z a1 (a2 0) (a3 0) a4 (a6 0) (a7 0) y294 ++ (WDay z a2 y3 ++ (WDay z a3 y4 ++ (WMin a4 (a5 0) y5 ++ (WDay z a5 y6 ++ (WArr z a6 y7 ++ (WLet z a7 y8 ++ (WMod z a8 y298))))))))) (va_runV (As := [.int (xs (x1 + 1).toNatClampNeg)]) (rest := [.int r293]) ⟨hx, hb, hml, hown, hts⟩ (tX7_fits l D z tt a8 y9 (xs (x1 + 1).toNatClampNeg) fu r297 y298 q299 _) (cwV 1 hts (gV4 aw1121 aw1122 aw1123 aw52 aw1124) rfl rfl rfl (by decide +kernel) ⟨Nat.le_of_ble_eq_true rfl, Nat.le_of_ble_eq_true rfl⟩) (z_preV hK hP hD hS hA hT hN hfo (va_recv hK hP (ci := 7) (q0 := 54) rfl rfl)) rfl rfl hl.1 rfl (lv_room (Nat.le_of_ble_eq_true rfl)) dL_law_724 ⟨Nat.le_of_ble_eq_true rfl, Nat.le_of_ble_eq_true rfl⟩) hP hD hS hA hfo (fun H locs hP hD hS => ?_)
          refine lv_icmp_eq (tgt := 824) hx hb dL_law_727 (by decide) (fun c300 => ?_) (fun c300 => ?_)
          · have hf := if_t c300 hf
            obtain ⟨x301, ex301⟩ : ∃ y : Int32, y = x1 + 4 := ⟨_, rfl⟩
            have hf := lt_use ex301 hf
            refine lv_iinc (v := x301) (lv' := [(3, .int x301), (0, .ref b), (1, .ref (a1 0)), (2, .ref (a8 0))]) hx hb dL_law_824 hl (k := 3) rfl (by rw [ex301]; rfl) (by decide) rfl (fun ls hl => ?_)
            refine lv_goto (tgt := 18) hx hb dL_law_827 (by decide) ?_
            exact ih12 _ _ _ _ _ _ _ _ _ _ _ hP hD hS _ (lv_sub hl [1, 2, 3, 0] rfl) hf
          · have hf := if_f c300 hf
            refine lv_iconst (v := 0) hx hb dL_law_730 (by decide) ?_
            exact absurd hf (by decide)
        have hf := if_f c291 hf
        by_cases c302 : x15 = 24
        · have hf := if_t c302 hf
          refine z_tin (K := 24) hx hb c302 dL_law_32 ⟨rfl, by decide, by decide⟩ (tgt := 732) (by decide) ?_
          refine lv_aload_n hx hb dL_law_732 rfl (lv_at hl 1 rfl) ?_
          refine lv_aload_n hx hb dL_law_733 rfl (lv_at hl 0 rfl) ?_
          refine lv_iload_n hx hb dL_law_734 rfl (lv_at hl 3 rfl) ?_
          refine lv_iconst (v := 1) hx hb dL_law_735 (by decide) ?_
          refine lv_iadd hx hb dL_law_736 ?_
          obtain ⟨h303, hf⟩ := ck_use hf
          refine va_sld hx hb hX hbl hbA hS h303 dL_law_737 ?_
          refine lv_aload_n hx hb dL_law_738 rfl (lv_at hl 0 rfl) ?_
          refine lv_iload_n hx hb dL_law_739 rfl (lv_at hl 3 rfl) ?_
          refine lv_iconst (v := 2) hx hb dL_law_740 (by decide) ?_
          refine lv_iadd hx hb dL_law_741 ?_
          obtain ⟨h304, hf⟩ := ck_use hf
          refine va_sld hx hb hX hbl hbA hS h304 dL_law_742 ?_
          refine lv_aload_n hx hb dL_law_743 rfl (lv_at hl 0 rfl) ?_
          refine lv_iload_n hx hb dL_law_744 rfl (lv_at hl 3 rfl) ?_
          refine lv_iconst (v := 3) hx hb dL_law_745 (by decide) ?_
          refine lv_iadd hx hb dL_law_746 ?_
          obtain ⟨h305, hf⟩ := ck_use hf
          refine va_sld hx hb hX hbl hbA hS h305 dL_law_747 ?_
          obtain ⟨r306, y307, y308, y309, q310, hf⟩ := bd4_use hf
          have hfo : Foc (WFac z a1 (a2 0) (a3 0) a4 (a6 0) (a7 0) y2 ++ (WDay z a2 y3 ++ (WDay z a3 y4 ++ (WMin a4 (a5 0) y5 ++ (WDay z a5 y6 ++ (WArr z a6 y7 ++ (WLet z a7 y8 ++ (WMod z a8 y9)))))))) (WFac z a1 (a2 0) (a3 0) a4 (a6 0) (a7 0) y2 ++ (WDay z a2 y3 ++ (WDay z a3 y4 ++ (WMin a4 (a5 0) y5 ++ (WDay z a5 y6 ++ (WArr z a6 y7 ++ (WLet z a7 y8))))))) (WFac z a1 (a2 0) (a3 0) a4 (a6 0) (a7 0) y307 ++ (WDay z a2 y3 ++ (WDay z a3 y4 ++ (WMin a4 (a5 0) y308 ++ (WDay z a5 y309 ++ (WArr z a6 y7 ++ (WLet z a7 y8 ++ (WMod z a8 y9)))))))) (WFac z a1 (a2 0) (a3 0) a4 (a6 0) (a7 0) y307 ++ (WDay z a2 y3 ++ (WDay z a3 y4 ++ (WMin a4 (a5 0) y308 ++ (WDay z a5 y309 ++ (WArr z a6 y7 ++ (WLet z a7 y8))))))) := (foc_app foc_all (foc_app foc_all (foc_app foc_all (foc_app foc_all (foc_app foc_all (foc_app foc_all (foc_l foc_all)))))))
          refine z_goI (ws1 := (WFac z a1 (a2 0) (a3 0) a4 (a6 0) (a7 0) y307 ++ (WDay z a2 y3 ++ (WDay z a3 y4 ++ (WMin a4 (a5 0) y308 ++ (WDay z a5 y309 ++ (WArr z a6 y7 ++ (WLet z a7 y8 ++ (WMod z a8 y9))))))))) (va_runV (As := [.int (xs (x1 + 1).toNatClampNeg), .int (xs (x1 + 2).toNatClampNeg), .int (xs (x1 + 3).toNatClampNeg)]) (rest := []) ⟨hx, hb, hml, hown, hts⟩ (tX6_seeds l D z tt a1 a2 a3 a4 a5 a6 a7 y2 y3 y4 y5 y6 y7 y8 (xs (x1 + 1).toNatClampNeg) (xs (x1 + 2).toNatClampNeg) (xs (x1 + 3).toNatClampNeg) fu r306 y307 y308 y309 q310 _) (cwV 3 hts (gV4 aw702 aw703 aw704 aw45 aw705) rfl rfl rfl (by decide +kernel) ⟨Nat.le_of_ble_eq_true rfl, Nat.le_of_ble_eq_true rfl⟩) (z_preV hK hP hD hS hA hT hN hfo (va_recv hK hP (ci := 6) (q0 := 0) rfl rfl)) rfl rfl hl.1 rfl (lv_room (Nat.le_of_ble_eq_true rfl)) dL_law_748 ⟨Nat.le_of_ble_eq_true rfl, Nat.le_of_ble_eq_true rfl⟩) hP hD hS hA hfo (fun H locs hP hD hS => ?_)
          refine lv_aload_n hx hb dL_law_751 rfl (lv_at hl 2 rfl) ?_
          refine lv_aload_n hx hb dL_law_752 rfl (lv_at hl 0 rfl) ?_
          refine lv_iload_n hx hb dL_law_753 rfl (lv_at hl 3 rfl) ?_
          refine lv_iconst (v := 1) hx hb dL_law_754 (by decide) ?_
          refine lv_iadd hx hb dL_law_755 ?_
          obtain ⟨h311, hf⟩ := ck_use hf
          refine va_sld hx hb hX hbl hbA hS h311 dL_law_756 ?_
          refine lv_aload_n hx hb dL_law_757 rfl (lv_at hl 0 rfl) ?_
          refine lv_iload_n hx hb dL_law_758 rfl (lv_at hl 3 rfl) ?_
          refine lv_iconst (v := 2) hx hb dL_law_759 (by decide) ?_
          refine lv_iadd hx hb dL_law_760 ?_
          obtain ⟨h312, hf⟩ := ck_use hf
          refine va_sld hx hb hX hbl hbA hS h312 dL_law_761 ?_
          refine lv_aload_n hx hb dL_law_762 rfl (lv_at hl 0 rfl) ?_
          refine lv_iload_n hx hb dL_law_763 rfl (lv_at hl 3 rfl) ?_
          refine lv_iconst (v := 3) hx hb dL_law_764 (by decide) ?_
          refine lv_iadd hx hb dL_law_765 ?_
          obtain ⟨h313, hf⟩ := ck_use hf
          refine va_sld hx hb hX hbl hbA hS h313 dL_law_766 ?_
          obtain ⟨r314, y315, q316, hf⟩ := bd2_use hf
          have hfo : Foc (WFac z a1 (a2 0) (a3 0) a4 (a6 0) (a7 0) y307 ++ (WDay z a2 y3 ++ (WDay z a3 y4 ++ (WMin a4 (a5 0) y308 ++ (WDay z a5 y309 ++ (WArr z a6 y7 ++ (WLet z a7 y8 ++ (WMod z a8 y9)))))))) (WMod z a8 y9) (WFac z a1 (a2 0) (a3 0) a4 (a6 0) (a7 0) y307 ++ (WDay z a2 y3 ++ (WDay z a3 y4 ++ (WMin a4 (a5 0) y308 ++ (WDay z a5 y309 ++ (WArr z a6 y7 ++ (WLet z a7 y8 ++ (WMod z a8 y315)))))))) (WMod z a8 y315) := (foc_r (foc_r (foc_r (foc_r (foc_r (foc_r (foc_r foc_all)))))))
          refine z_goI (ws1 := (WFac z a1 (a2 0) (a3 0) a4 (a6 0) (a7 0) y307 ++ (WDay z a2 y3 ++ (WDay z a3 y4 ++ (WMin a4 (a5 0) y308 ++ (WDay z a5 y309 ++ (WArr z a6 y7 ++ (WLet z a7 y8 ++ (WMod z a8 y315))))))))) (va_runV (As := [.int (xs (x1 + 1).toNatClampNeg), .int (xs (x1 + 2).toNatClampNeg), .int (xs (x1 + 3).toNatClampNeg)]) (rest := [.int r306]) ⟨hx, hb, hml, hown, hts⟩ (tX7_seeds l D z tt a8 y9 (xs (x1 + 1).toNatClampNeg) (xs (x1 + 2).toNatClampNeg) (xs (x1 + 3).toNatClampNeg) fu r314 y315 q316 _) (cwV 3 hts (gV4 aw1125 aw1126 aw1127 aw52 aw1128) rfl rfl rfl (by decide +kernel) ⟨Nat.le_of_ble_eq_true rfl, Nat.le_of_ble_eq_true rfl⟩) (z_preV hK hP hD hS hA hT hN hfo (va_recv hK hP (ci := 7) (q0 := 54) rfl rfl)) rfl rfl hl.1 rfl (lv_room (Nat.le_of_ble_eq_true rfl)) dL_law_767 ⟨Nat.le_of_ble_eq_true rfl, Nat.le_of_ble_eq_true rfl⟩) hP hD hS hA hfo (fun H locs hP hD hS => ?_)
          refine lv_icmp_eq (tgt := 824) hx hb dL_law_770 (by decide) (fun c317 => ?_) (fun c317 => ?_)
          · have hf := if_t c317 hf
            obtain ⟨x318, ex318⟩ : ∃ y : Int32, y = x1 + 4 := ⟨_, rfl⟩
            have hf := lt_use ex318 hf
            refine lv_iinc (v := x318) (lv' := [(3, .int x318), (0, .ref b), (1, .ref (a1 0)), (2, .ref (a8 0))]) hx hb dL_law_824 hl (k := 3) rfl (by rw [ex318]; rfl) (by decide) rfl (fun ls hl => ?_)
            refine lv_goto (tgt := 18) hx hb dL_law_827 (by decide) ?_
            exact ih12 _ _ _ _ _ _ _ _ _ _ _ hP hD hS _ (lv_sub hl [1, 2, 3, 0] rfl) hf
          · have hf := if_f c317 hf
            refine lv_iconst (v := 0) hx hb dL_law_773 (by decide) ?_
            exact absurd hf (by decide)
        have hf := if_f c302 hf
        by_cases c319 : x15 = 25
        · have hf := if_t c319 hf
          refine z_tin (K := 25) hx hb c319 dL_law_32 ⟨rfl, by decide, by decide⟩ (tgt := 775) (by decide) ?_
          refine lv_aload_n hx hb dL_law_775 rfl (lv_at hl 1 rfl) ?_
          obtain ⟨r320, y321, y322, q323, hf⟩ := bd3_use hf
          have hfo : Foc (WFac z a1 (a2 0) (a3 0) a4 (a6 0) (a7 0) y2 ++ (WDay z a2 y3 ++ (WDay z a3 y4 ++ (WMin a4 (a5 0) y5 ++ (WDay z a5 y6 ++ (WArr z a6 y7 ++ (WLet z a7 y8 ++ (WMod z a8 y9)))))))) (WFac z a1 (a2 0) (a3 0) a4 (a6 0) (a7 0) y2 ++ (WDay z a2 y3 ++ (WDay z a3 y4 ++ (WMin a4 (a5 0) y5 ++ (WDay z a5 y6 ++ (WArr z a6 y7 ++ (WLet z a7 y8))))))) (WFac z a1 (a2 0) (a3 0) a4 (a6 0) (a7 0) y321 ++ (WDay z a2 y3 ++ (WDay z a3 y322 ++ (WMin a4 (a5 0) y5 ++ (WDay z a5 y6 ++ (WArr z a6 y7 ++ (WLet z a7 y8 ++ (WMod z a8 y9)))))))) (WFac z a1 (a2 0) (a3 0) a4 (a6 0) (a7 0) y321 ++ (WDay z a2 y3 ++ (WDay z a3 y322 ++ (WMin a4 (a5 0) y5 ++ (WDay z a5 y6 ++ (WArr z a6 y7 ++ (WLet z a7 y8))))))) := (foc_app foc_all (foc_app foc_all (foc_app foc_all (foc_app foc_all (foc_app foc_all (foc_app foc_all (foc_l foc_all)))))))
          refine z_goI (ws1 := (WFac z a1 (a2 0) (a3 0) a4 (a6 0) (a7 0) y321 ++ (WDay z a2 y3 ++ (WDay z a3 y322 ++ (WMin a4 (a5 0) y5 ++ (WDay z a5 y6 ++ (WArr z a6 y7 ++ (WLet z a7 y8 ++ (WMod z a8 y9))))))))) (va_runV (As := []) (rest := []) ⟨hx, hb, hml, hown, hts⟩ (tX6_image l D z tt a1 a2 a3 a4 a5 a6 a7 y2 y3 y4 y5 y6 y7 y8  fu r320 y321 y322 q323 _) (cwV 0 hts (gV4 aw716 aw717 aw718 aw45 aw719) rfl rfl rfl (by decide +kernel) ⟨Nat.le_of_ble_eq_true rfl, Nat.le_of_ble_eq_true rfl⟩) (z_preV hK hP hD hS hA hT hN hfo (va_recv hK hP (ci := 6) (q0 := 0) rfl rfl)) rfl rfl hl.1 rfl (lv_room (Nat.le_of_ble_eq_true rfl)) dL_law_776 ⟨Nat.le_of_ble_eq_true rfl, Nat.le_of_ble_eq_true rfl⟩) hP hD hS hA hfo (fun H locs hP hD hS => ?_)
          refine lv_aload_n hx hb dL_law_779 rfl (lv_at hl 2 rfl) ?_
          obtain ⟨r324, y325, q326, hf⟩ := bd2_use hf
          have hfo : Foc (WFac z a1 (a2 0) (a3 0) a4 (a6 0) (a7 0) y321 ++ (WDay z a2 y3 ++ (WDay z a3 y322 ++ (WMin a4 (a5 0) y5 ++ (WDay z a5 y6 ++ (WArr z a6 y7 ++ (WLet z a7 y8 ++ (WMod z a8 y9)))))))) (WMod z a8 y9) (WFac z a1 (a2 0) (a3 0) a4 (a6 0) (a7 0) y321 ++ (WDay z a2 y3 ++ (WDay z a3 y322 ++ (WMin a4 (a5 0) y5 ++ (WDay z a5 y6 ++ (WArr z a6 y7 ++ (WLet z a7 y8 ++ (WMod z a8 y325)))))))) (WMod z a8 y325) := (foc_r (foc_r (foc_r (foc_r (foc_r (foc_r (foc_r foc_all)))))))
          refine z_goI (ws1 := (WFac z a1 (a2 0) (a3 0) a4 (a6 0) (a7 0) y321 ++ (WDay z a2 y3 ++ (WDay z a3 y322 ++ (WMin a4 (a5 0) y5 ++ (WDay z a5 y6 ++ (WArr z a6 y7 ++ (WLet z a7 y8 ++ (WMod z a8 y325))))))))) (va_runV (As := []) (rest := [.int r320]) ⟨hx, hb, hml, hown, hts⟩ (tX7_image l D z tt a8 y9  fu r324 y325 q326 _) (cwV 0 hts (gV4 aw908 aw909 aw910 aw52 aw911) rfl rfl rfl (by decide +kernel) ⟨Nat.le_of_ble_eq_true rfl, Nat.le_of_ble_eq_true rfl⟩) (z_preV hK hP hD hS hA hT hN hfo (va_recv hK hP (ci := 7) (q0 := 54) rfl rfl)) rfl rfl hl.1 rfl (lv_room (Nat.le_of_ble_eq_true rfl)) dL_law_780 ⟨Nat.le_of_ble_eq_true rfl, Nat.le_of_ble_eq_true rfl⟩) hP hD hS hA hfo (fun H locs hP hD hS => ?_)
          refine lv_icmp_eq (tgt := 824) hx hb dL_law_783 (by decide) (fun c327 => ?_) (fun c327 => ?_)
          · have hf := if_t c327 hf
            obtain ⟨x328, ex328⟩ : ∃ y : Int32, y = x1 + 4 := ⟨_, rfl⟩
            have hf := lt_use ex328 hf
            refine lv_iinc (v := x328) (lv' := [(3, .int x328), (0, .ref b), (1, .ref (a1 0)), (2, .ref (a8 0))]) hx hb dL_law_824 hl (k := 3) rfl (by rw [ex328]; rfl) (by decide) rfl (fun ls hl => ?_)
            refine lv_goto (tgt := 18) hx hb dL_law_827 (by decide) ?_
            exact ih12 _ _ _ _ _ _ _ _ _ _ _ hP hD hS _ (lv_sub hl [1, 2, 3, 0] rfl) hf
          · have hf := if_f c327 hf
            refine lv_iconst (v := 0) hx hb dL_law_786 (by decide) ?_
            exact absurd hf (by decide)
        have hf := if_f c319 hf
        by_cases c329 : x15 = 26
        · have hf := if_t c329 hf
          refine z_tin (K := 26) hx hb c329 dL_law_32 ⟨rfl, by decide, by decide⟩ (tgt := 788) (by decide) ?_
          refine lv_aload_n hx hb dL_law_788 rfl (lv_at hl 1 rfl) ?_
          obtain ⟨r330, y331, y332, q333, hf⟩ := bd3_use hf
          have hfo : Foc (WFac z a1 (a2 0) (a3 0) a4 (a6 0) (a7 0) y2 ++ (WDay z a2 y3 ++ (WDay z a3 y4 ++ (WMin a4 (a5 0) y5 ++ (WDay z a5 y6 ++ (WArr z a6 y7 ++ (WLet z a7 y8 ++ (WMod z a8 y9)))))))) (WFac z a1 (a2 0) (a3 0) a4 (a6 0) (a7 0) y2 ++ (WDay z a2 y3 ++ (WDay z a3 y4 ++ (WMin a4 (a5 0) y5 ++ (WDay z a5 y6 ++ (WArr z a6 y7 ++ (WLet z a7 y8))))))) (WFac z a1 (a2 0) (a3 0) a4 (a6 0) (a7 0) y331 ++ (WDay z a2 y332 ++ (WDay z a3 y4 ++ (WMin a4 (a5 0) y5 ++ (WDay z a5 y6 ++ (WArr z a6 y7 ++ (WLet z a7 y8 ++ (WMod z a8 y9)))))))) (WFac z a1 (a2 0) (a3 0) a4 (a6 0) (a7 0) y331 ++ (WDay z a2 y332 ++ (WDay z a3 y4 ++ (WMin a4 (a5 0) y5 ++ (WDay z a5 y6 ++ (WArr z a6 y7 ++ (WLet z a7 y8))))))) := (foc_app foc_all (foc_app foc_all (foc_app foc_all (foc_app foc_all (foc_app foc_all (foc_app foc_all (foc_l foc_all)))))))
          refine z_goI (ws1 := (WFac z a1 (a2 0) (a3 0) a4 (a6 0) (a7 0) y331 ++ (WDay z a2 y332 ++ (WDay z a3 y4 ++ (WMin a4 (a5 0) y5 ++ (WDay z a5 y6 ++ (WArr z a6 y7 ++ (WLet z a7 y8 ++ (WMod z a8 y9))))))))) (va_runV (As := []) (rest := []) ⟨hx, hb, hml, hown, hts⟩ (tX6_restore l D z tt a1 a2 a3 a4 a5 a6 a7 y2 y3 y4 y5 y6 y7 y8  fu r330 y331 y332 q333 _) (cwV 0 hts (gV4 aw720 aw721 aw722 aw45 aw723) rfl rfl rfl (by decide +kernel) ⟨Nat.le_of_ble_eq_true rfl, Nat.le_of_ble_eq_true rfl⟩) (z_preV hK hP hD hS hA hT hN hfo (va_recv hK hP (ci := 6) (q0 := 0) rfl rfl)) rfl rfl hl.1 rfl (lv_room (Nat.le_of_ble_eq_true rfl)) dL_law_789 ⟨Nat.le_of_ble_eq_true rfl, Nat.le_of_ble_eq_true rfl⟩) hP hD hS hA hfo (fun H locs hP hD hS => ?_)
          refine lv_aload_n hx hb dL_law_792 rfl (lv_at hl 2 rfl) ?_
          obtain ⟨r334, y335, q336, hf⟩ := bd2_use hf
          have hfo : Foc (WFac z a1 (a2 0) (a3 0) a4 (a6 0) (a7 0) y331 ++ (WDay z a2 y332 ++ (WDay z a3 y4 ++ (WMin a4 (a5 0) y5 ++ (WDay z a5 y6 ++ (WArr z a6 y7 ++ (WLet z a7 y8 ++ (WMod z a8 y9)))))))) (WMod z a8 y9) (WFac z a1 (a2 0) (a3 0) a4 (a6 0) (a7 0) y331 ++ (WDay z a2 y332 ++ (WDay z a3 y4 ++ (WMin a4 (a5 0) y5 ++ (WDay z a5 y6 ++ (WArr z a6 y7 ++ (WLet z a7 y8 ++ (WMod z a8 y335)))))))) (WMod z a8 y335) := (foc_r (foc_r (foc_r (foc_r (foc_r (foc_r (foc_r foc_all)))))))
          refine z_goI (ws1 := (WFac z a1 (a2 0) (a3 0) a4 (a6 0) (a7 0) y331 ++ (WDay z a2 y332 ++ (WDay z a3 y4 ++ (WMin a4 (a5 0) y5 ++ (WDay z a5 y6 ++ (WArr z a6 y7 ++ (WLet z a7 y8 ++ (WMod z a8 y335))))))))) (va_runV (As := []) (rest := [.int r330]) ⟨hx, hb, hml, hown, hts⟩ (tX7_restore l D z tt a8 y9  fu r334 y335 q336 _) (cwV 0 hts (gV4 aw912 aw913 aw914 aw52 aw915) rfl rfl rfl (by decide +kernel) ⟨Nat.le_of_ble_eq_true rfl, Nat.le_of_ble_eq_true rfl⟩) (z_preV hK hP hD hS hA hT hN hfo (va_recv hK hP (ci := 7) (q0 := 54) rfl rfl)) rfl rfl hl.1 rfl (lv_room (Nat.le_of_ble_eq_true rfl)) dL_law_793 ⟨Nat.le_of_ble_eq_true rfl, Nat.le_of_ble_eq_true rfl⟩) hP hD hS hA hfo (fun H locs hP hD hS => ?_)
          refine lv_icmp_eq (tgt := 824) hx hb dL_law_796 (by decide) (fun c337 => ?_) (fun c337 => ?_)
          · have hf := if_t c337 hf
            obtain ⟨x338, ex338⟩ : ∃ y : Int32, y = x1 + 4 := ⟨_, rfl⟩
            have hf := lt_use ex338 hf
            refine lv_iinc (v := x338) (lv' := [(3, .int x338), (0, .ref b), (1, .ref (a1 0)), (2, .ref (a8 0))]) hx hb dL_law_824 hl (k := 3) rfl (by rw [ex338]; rfl) (by decide) rfl (fun ls hl => ?_)
            refine lv_goto (tgt := 18) hx hb dL_law_827 (by decide) ?_
            exact ih12 _ _ _ _ _ _ _ _ _ _ _ hP hD hS _ (lv_sub hl [1, 2, 3, 0] rfl) hf
          · have hf := if_f c337 hf
            refine lv_iconst (v := 0) hx hb dL_law_799 (by decide) ?_
            exact absurd hf (by decide)
        have hf := if_f c329 hf
        by_cases c339 : x15 = 27
        · have hf := if_t c339 hf
          refine z_tin (K := 27) hx hb c339 dL_law_32 ⟨rfl, by decide, by decide⟩ (tgt := 801) (by decide) ?_
          refine lv_aload_n hx hb dL_law_801 rfl (lv_at hl 1 rfl) ?_
          refine lv_aload_n hx hb dL_law_802 rfl (lv_at hl 0 rfl) ?_
          refine lv_iload_n hx hb dL_law_803 rfl (lv_at hl 3 rfl) ?_
          refine lv_iconst (v := 1) hx hb dL_law_804 (by decide) ?_
          refine lv_iadd hx hb dL_law_805 ?_
          obtain ⟨h340, hf⟩ := ck_use hf
          refine va_sld hx hb hX hbl hbA hS h340 dL_law_806 ?_
          obtain ⟨r341, q342, hf⟩ := bd_use hf
          have hfo : Foc (WFac z a1 (a2 0) (a3 0) a4 (a6 0) (a7 0) y2 ++ (WDay z a2 y3 ++ (WDay z a3 y4 ++ (WMin a4 (a5 0) y5 ++ (WDay z a5 y6 ++ (WArr z a6 y7 ++ (WLet z a7 y8 ++ (WMod z a8 y9)))))))) (WFac z a1 (a2 0) (a3 0) a4 (a6 0) (a7 0) y2 ++ (WDay z a2 y3 ++ (WDay z a3 y4 ++ (WMin a4 (a5 0) y5 ++ (WDay z a5 y6 ++ (WArr z a6 y7 ++ (WLet z a7 y8))))))) (WFac z a1 (a2 0) (a3 0) a4 (a6 0) (a7 0) y2 ++ (WDay z a2 y3 ++ (WDay z a3 y4 ++ (WMin a4 (a5 0) y5 ++ (WDay z a5 y6 ++ (WArr z a6 y7 ++ (WLet z a7 y8 ++ (WMod z a8 y9)))))))) (WFac z a1 (a2 0) (a3 0) a4 (a6 0) (a7 0) y2 ++ (WDay z a2 y3 ++ (WDay z a3 y4 ++ (WMin a4 (a5 0) y5 ++ (WDay z a5 y6 ++ (WArr z a6 y7 ++ (WLet z a7 y8))))))) := (foc_app foc_all (foc_app foc_all (foc_app foc_all (foc_app foc_all (foc_app foc_all (foc_app foc_all (foc_l foc_all)))))))
          refine z_goI (ws1 := (WFac z a1 (a2 0) (a3 0) a4 (a6 0) (a7 0) y2 ++ (WDay z a2 y3 ++ (WDay z a3 y4 ++ (WMin a4 (a5 0) y5 ++ (WDay z a5 y6 ++ (WArr z a6 y7 ++ (WLet z a7 y8 ++ (WMod z a8 y9))))))))) (va_runV (As := [.int (xs (x1 + 1).toNatClampNeg)]) (rest := []) ⟨hx, hb, hml, hown, hts⟩ (tX6_count l D z tt a1 a2 a3 a4 a5 a6 a7 y2 y3 y4 y5 y6 y7 y8 (xs (x1 + 1).toNatClampNeg) fu r341 q342 _) (cwV 1 hts (gV4 aw724 aw725 aw726 aw45 aw727) rfl rfl rfl (by decide +kernel) ⟨Nat.le_of_ble_eq_true rfl, Nat.le_of_ble_eq_true rfl⟩) (z_preV hK hP hD hS hA hT hN hfo (va_recv hK hP (ci := 6) (q0 := 0) rfl rfl)) rfl rfl hl.1 rfl (lv_room (Nat.le_of_ble_eq_true rfl)) dL_law_807 ⟨Nat.le_of_ble_eq_true rfl, Nat.le_of_ble_eq_true rfl⟩) hP hD hS hA hfo (fun H locs hP hD hS => ?_)
          refine lv_aload_n hx hb dL_law_810 rfl (lv_at hl 2 rfl) ?_
          refine lv_aload_n hx hb dL_law_811 rfl (lv_at hl 0 rfl) ?_
          refine lv_iload_n hx hb dL_law_812 rfl (lv_at hl 3 rfl) ?_
          refine lv_iconst (v := 1) hx hb dL_law_813 (by decide) ?_
          refine lv_iadd hx hb dL_law_814 ?_
          obtain ⟨h343, hf⟩ := ck_use hf
          refine va_sld hx hb hX hbl hbA hS h343 dL_law_815 ?_
          obtain ⟨r344, q345, hf⟩ := bd_use hf
          have hfo : Foc (WFac z a1 (a2 0) (a3 0) a4 (a6 0) (a7 0) y2 ++ (WDay z a2 y3 ++ (WDay z a3 y4 ++ (WMin a4 (a5 0) y5 ++ (WDay z a5 y6 ++ (WArr z a6 y7 ++ (WLet z a7 y8 ++ (WMod z a8 y9)))))))) (WMod z a8 y9) (WFac z a1 (a2 0) (a3 0) a4 (a6 0) (a7 0) y2 ++ (WDay z a2 y3 ++ (WDay z a3 y4 ++ (WMin a4 (a5 0) y5 ++ (WDay z a5 y6 ++ (WArr z a6 y7 ++ (WLet z a7 y8 ++ (WMod z a8 y9)))))))) (WMod z a8 y9) := (foc_r (foc_r (foc_r (foc_r (foc_r (foc_r (foc_r foc_all)))))))
          refine z_goI (ws1 := (WFac z a1 (a2 0) (a3 0) a4 (a6 0) (a7 0) y2 ++ (WDay z a2 y3 ++ (WDay z a3 y4 ++ (WMin a4 (a5 0) y5 ++ (WDay z a5 y6 ++ (WArr z a6 y7 ++ (WLet z a7 y8 ++ (WMod z a8 y9))))))))) (va_runV (As := [.int (xs (x1 + 1).toNatClampNeg)]) (rest := [.int r341]) ⟨hx, hb, hml, hown, hts⟩ (tX7_count l D z tt a8 y9 (xs (x1 + 1).toNatClampNeg) fu r344 q345 _) (cwV 1 hts (gV4 aw1132 aw1133 aw1134 aw52 aw1135) rfl rfl rfl (by decide +kernel) ⟨Nat.le_of_ble_eq_true rfl, Nat.le_of_ble_eq_true rfl⟩) (z_preV hK hP hD hS hA hT hN hfo (va_recv hK hP (ci := 7) (q0 := 54) rfl rfl)) rfl rfl hl.1 rfl (lv_room (Nat.le_of_ble_eq_true rfl)) dL_law_816 ⟨Nat.le_of_ble_eq_true rfl, Nat.le_of_ble_eq_true rfl⟩) hP hD hS hA hfo (fun H locs hP hD hS => ?_)
          refine lv_icmp_eq (tgt := 824) hx hb dL_law_819 (by decide) (fun c346 => ?_) (fun c346 => ?_)
          · have hf := if_t c346 hf
            obtain ⟨x347, ex347⟩ : ∃ y : Int32, y = x1 + 4 := ⟨_, rfl⟩
            have hf := lt_use ex347 hf
            refine lv_iinc (v := x347) (lv' := [(3, .int x347), (0, .ref b), (1, .ref (a1 0)), (2, .ref (a8 0))]) hx hb dL_law_824 hl (k := 3) rfl (by rw [ex347]; rfl) (by decide) rfl (fun ls hl => ?_)
            refine lv_goto (tgt := 18) hx hb dL_law_827 (by decide) ?_
            exact ih12 _ _ _ _ _ _ _ _ _ _ _ hP hD hS _ (lv_sub hl [1, 2, 3, 0] rfl) hf
          · have hf := if_f c346 hf
            refine lv_iconst (v := 0) hx hb dL_law_822 (by decide) ?_
            exact absurd hf (by decide)
        have hf := if_f c339 hf
        refine lv_tableOut (tgt := 824) hx hb dL_law_32 (by have qc16 := lv_neT c16 (show (0 : Int32).toInt = 0 from by decide); have qc28 := lv_neT c28 (show (1 : Int32).toInt = 1 from by decide); have qc39 := lv_neT c39 (show (2 : Int32).toInt = 2 from by decide); have qc52 := lv_neT c52 (show (3 : Int32).toInt = 3 from by decide); have qc68 := lv_neT c68 (show (4 : Int32).toInt = 4 from by decide); have qc81 := lv_neT c81 (show (5 : Int32).toInt = 5 from by decide); have qc95 := lv_neT c95 (show (6 : Int32).toInt = 6 from by decide); have qc107 := lv_neT c107 (show (7 : Int32).toInt = 7 from by decide); have qc116 := lv_neT c116 (show (8 : Int32).toInt = 8 from by decide); have qc127 := lv_neT c127 (show (9 : Int32).toInt = 9 from by decide); have qc139 := lv_neT c139 (show (10 : Int32).toInt = 10 from by decide); have qc151 := lv_neT c151 (show (11 : Int32).toInt = 11 from by decide); have qc165 := lv_neT c165 (show (12 : Int32).toInt = 12 from by decide); have qc177 := lv_neT c177 (show (13 : Int32).toInt = 13 from by decide); have qc189 := lv_neT c189 (show (14 : Int32).toInt = 14 from by decide); have qc198 := lv_neT c198 (show (15 : Int32).toInt = 15 from by decide); have qc211 := lv_neT c211 (show (16 : Int32).toInt = 16 from by decide); have qc223 := lv_neT c223 (show (17 : Int32).toInt = 17 from by decide); have qc237 := lv_neT c237 (show (18 : Int32).toInt = 18 from by decide); have qc249 := lv_neT c249 (show (19 : Int32).toInt = 19 from by decide); have qc261 := lv_neT c261 (show (20 : Int32).toInt = 20 from by decide); have qc270 := lv_neT c270 (show (21 : Int32).toInt = 21 from by decide); have qc281 := lv_neT c281 (show (22 : Int32).toInt = 22 from by decide); have qc291 := lv_neT c291 (show (23 : Int32).toInt = 23 from by decide); have qc302 := lv_neT c302 (show (24 : Int32).toInt = 24 from by decide); have qc319 := lv_neT c319 (show (25 : Int32).toInt = 25 from by decide); have qc329 := lv_neT c329 (show (26 : Int32).toInt = 26 from by decide); have qc339 := lv_neT c339 (show (27 : Int32).toInt = 27 from by decide); omega) (by decide) ?_
        obtain ⟨x348, ex348⟩ : ∃ y : Int32, y = x1 + 4 := ⟨_, rfl⟩
        have hf := lt_use ex348 hf
        refine lv_iinc (v := x348) (lv' := [(3, .int x348), (0, .ref b), (1, .ref (a1 0)), (2, .ref (a8 0))]) hx hb dL_law_824 hl (k := 3) rfl (by rw [ex348]; rfl) (by decide) rfl (fun ls hl => ?_)
        refine lv_goto (tgt := 18) hx hb dL_law_827 (by decide) ?_
        exact ih12 _ _ _ _ _ _ _ _ _ _ _ hP hD hS _ (lv_sub hl [1, 2, 3, 0] rfl) hf
  exact L18_F10 fu _ _ _ _ _ _ _ _ _ _ _ hP hD hS _ (lv_sub hl [0, 1, 2, 3] rfl) hf
