/-! BASE: memories, the steps of the pure pictures, worlds by places, calls and ends over them -/
abbrev Mem : Type := Nat → Nat → Int32
abbrev Rw : Type := Nat → Int32
def up2 (m : Mem) (o k : Nat) (v : Int32) : Mem := va_up m o (upd (m o) k v)
def lt' {α β : Type} (v : α) (k : α → Option β) : Option β := k v
def ck {β : Type} (i : Int32) (n : Nat) (k : Option β) : Option β := if i < 0 ∨ n ≤ i.toNatClampNeg then none else k
def ckn {β : Type} (y : Int32) (k : Option β) : Option β := if y = 0 then none else k
def ckz {β : Type} (y : Int32) (k : Option β) : Option β := if y &&& 1 = y then k else none
def bd {α β : Type} (x : Option α) (k : α → Option β) : Option β := match x with | some a => k a | none => none
def bd2 {α α2 β : Type} (x : Option (α × α2)) (k : α → α2 → Option β) : Option β := match x with | some (a, b) => k a b | none => none
def bd3 {α α2 α3 β : Type} (x : Option (α × α2 × α3)) (k : α → α2 → α3 → Option β) : Option β := match x with | some (a, b, c) => k a b c | none => none
def bd4 {α α2 α3 α4 β : Type} (x : Option (α × α2 × α3 × α4)) (k : α → α2 → α3 → α4 → Option β) : Option β := match x with | some (a, b, c, d) => k a b c d | none => none
def bd5 {α α2 α3 α4 α5 β : Type} (x : Option (α × α2 × α3 × α4 × α5)) (k : α → α2 → α3 → α4 → α5 → Option β) : Option β := match x with | some (a, b, c, d, e) => k a b c d e | none => none
theorem lt_use {α β : Type} {v y : α} {k : α → Option β} {r : β} (e : y = v) (h : lt' v k = some r) : k y = some r := by subst e; exact h
theorem ck_use {β : Type} {i : Int32} {n : Nat} {k : Option β} {r : β} (h : ck i n k = some r) : vp_in i n ∧ k = some r := by
  unfold ck at h
  split at h
  · cases h
  · exact ⟨by assumption, h⟩
theorem ckn_use {β : Type} {y : Int32} {k : Option β} {r : β} (h : ckn y k = some r) : ¬ y = 0 ∧ k = some r := by
  unfold ckn at h
  split at h
  · cases h
  · exact ⟨by assumption, h⟩
theorem ckz_use {β : Type} {y : Int32} {k : Option β} {r : β} (h : ckz y k = some r) : y &&& 1 = y ∧ k = some r := by
  unfold ckz at h
  split at h
  · exact ⟨by assumption, h⟩
  · cases h
theorem bd_use {α β : Type} {x : Option α} {k : α → Option β} {r : β} (h : bd x k = some r) : ∃ a, x = some a ∧ k a = some r := by
  cases x with
  | none => cases h
  | some a => exact ⟨a, rfl, h⟩
theorem bd2_use {α α2 β : Type} {x : Option (α × α2)} {k : α → α2 → Option β} {r : β} (h : bd2 x k = some r) : ∃ a b, x = some (a, b) ∧ k a b = some r := by
  cases x with
  | none => cases h
  | some a => exact ⟨a.1, a.2, rfl, h⟩
theorem bd3_use {α α2 α3 β : Type} {x : Option (α × α2 × α3)} {k : α → α2 → α3 → Option β} {r : β} (h : bd3 x k = some r) : ∃ a b c, x = some (a, b, c) ∧ k a b c = some r := by
  cases x with
  | none => cases h
  | some a => exact ⟨a.1, a.2.1, a.2.2, rfl, h⟩
theorem bd4_use {α α2 α3 α4 β : Type} {x : Option (α × α2 × α3 × α4)} {k : α → α2 → α3 → α4 → Option β} {r : β} (h : bd4 x k = some r) : ∃ a b c d, x = some (a, b, c, d) ∧ k a b c d = some r := by
  cases x with
  | none => cases h
  | some a => exact ⟨a.1, a.2.1, a.2.2.1, a.2.2.2, rfl, h⟩
theorem bd5_use {α α2 α3 α4 α5 β : Type} {x : Option (α × α2 × α3 × α4 × α5)} {k : α → α2 → α3 → α4 → α5 → Option β} {r : β} (h : bd5 x k = some r) : ∃ a b c d e, x = some (a, b, c, d, e) ∧ k a b c d e = some r := by
  cases x with
  | none => cases h
  | some a => exact ⟨a.1, a.2.1, a.2.2.1, a.2.2.2.1, a.2.2.2.2, rfl, h⟩
theorem if_t {c : Prop} [Decidable c] {α : Type} {a b r : α} (h : c) (q : (if c then a else b) = r) : a = r := by rwa [if_pos h] at q
theorem if_f {c : Prop} [Decidable c] {α : Type} {a b r : α} (h : ¬ c) (q : (if c then a else b) = r) : b = r := by rwa [if_neg h] at q
theorem so1 {α : Type} {a b : α} (h : some a = some b) : b = a := (Option.some.inj h).symm
theorem so2 {α β : Type} {a c : α} {b d : β} (h : some (a, b) = some (c, d)) : c = a ∧ d = b := by
  have h := Option.some.inj h
  exact ⟨(congrArg Prod.fst h).symm, (congrArg Prod.snd h).symm⟩
theorem so3 {α β γ : Type} {a a' : α} {b b' : β} {c c' : γ} (h : some (a, b, c) = some (a', b', c')) : a' = a ∧ b' = b ∧ c' = c := ⟨(so2 h).1, so2 (congrArg some (so2 h).2.symm)⟩
theorem so4 {α β γ δ : Type} {a a' : α} {b b' : β} {c c' : γ} {d d' : δ} (h : some (a, b, c, d) = some (a', b', c', d')) : a' = a ∧ b' = b ∧ c' = c ∧ d' = d := ⟨(so2 h).1, so3 (congrArg some (so2 h).2.symm)⟩
theorem so5 {α β γ δ ε : Type} {a a' : α} {b b' : β} {c c' : γ} {d d' : δ} {f f' : ε} (h : some (a, b, c, d, f) = some (a', b', c', d', f')) : a' = a ∧ b' = b ∧ c' = c ∧ d' = d ∧ f' = f := ⟨(so2 h).1, so4 (congrArg some (so2 h).2.symm)⟩
theorem no_none {α : Type} {r : α} {P : Prop} (h : (none : Option α) = some r) : P := by cases h
theorem vp_lt {i : Int32} {n : Nat} (h : vp_in i n) : i.toNatClampNeg < n := Nat.not_le.mp fun q => h (Or.inr q)
theorem nar_z {v : Int32} (h : v &&& 1 = v) : narrow .boolean (.int v) = .int v := by
  show Value.int (v &&& 1) = .int v
  rw [h]
-- a part of a world, and what comes in its place
theorem va_P_perm {D : va_G} {cl : List vw_C} {ws ws' : va_W} {H : Heap} (h : ws.Perm ws') (hP : va_P D cl ws H) : va_P D cl ws' H := fun k q hk => by
  obtain ⟨i, hi⟩ := List.getElem?_of_mem (h.mem_iff.mpr (List.mem_of_getElem? hk))
  exact hP i q hi
theorem va_D_iff {A : Nat → Prop} {ws : va_W} : va_D A ws ↔ ((ws.map Prod.fst).Nodup ∧ ∀ q ∈ ws, A q.1) := by
  have key : (ws.map Prod.fst).Nodup ↔ ∀ (i j : Nat) (hi : i < ws.length) (hj : j < ws.length), i < j → ws[i].1 ≠ ws[j].1 := by
    unfold List.Nodup
    rw [List.pairwise_iff_getElem]
    constructor
    · intro h i j hi hj hij
      have := h i j (by simpa using hi) (by simpa using hj) hij
      simpa using this
    · intro h i j hi hj hij
      have := h i j (by simpa using hi) (by simpa using hj) hij
      simpa using this
  rw [key]
  constructor
  · intro h
    refine ⟨fun i j hi hj hij e => ?_, fun q hq => ?_⟩
    · have := h.1 i j _ _ (List.getElem?_eq_getElem hi) (List.getElem?_eq_getElem hj) e
      omega
    · obtain ⟨i, hi⟩ := List.getElem?_of_mem hq
      exact h.2 i q hi
  · intro h
    refine ⟨fun i j x y hi hj hxy => ?_, fun k q hk => h.2 q (List.mem_of_getElem? hk)⟩
    obtain ⟨li, ei⟩ := List.getElem?_eq_some_iff.mp hi
    obtain ⟨lj, ej⟩ := List.getElem?_eq_some_iff.mp hj
    rcases Nat.lt_trichotomy i j with q | q | q
    · exact absurd (by rw [ei, ej]; exact hxy) (h.1 i j li lj q)
    · exact q
    · exact absurd (by rw [ei, ej]; exact hxy.symm) (h.1 j i lj li q)
theorem perm_el {α : Type} : ∀ (l : List α) (k : Nat) (e : α), l[k]? = some e → l.Perm (e :: l.eraseIdx k)
  | [], k, e, h => by simp at h
  | a :: l, 0, e, h => by
    simp at h
    subst h
    exact List.Perm.refl _
  | a :: l, k + 1, e, h => by
    have h2 := perm_el l k e (by simpa using h)
    rw [List.eraseIdx_cons_succ]
    exact (h2.cons a).trans (List.Perm.swap e a _)
theorem perm_set {α : Type} : ∀ (l : List α) (k : Nat) (e : α), k < l.length → (l.set k e).Perm (e :: l.eraseIdx k)
  | [], k, e, h => by simp at h
  | a :: l, 0, e, h => by
    show (e :: l).Perm _
    exact List.Perm.refl _
  | a :: l, k + 1, e, h => by
    have h2 := perm_set l k e (by simpa using h)
    rw [List.eraseIdx_cons_succ, List.set_cons_succ]
    exact (h2.cons a).trans (List.Perm.swap e a _)
theorem va_D_perm {A : Nat → Prop} {ws ws' : va_W} (h : ws.Perm ws') (hD : va_D A ws) : va_D A ws' := by
  rw [va_D_iff] at hD ⊢
  exact ⟨(h.map Prod.fst).nodup_iff.mp hD.1, fun q hq => hD.2 q (h.mem_iff.mpr hq)⟩
def Foc (ws wc ws1 w1 : va_W) : Prop := ∃ R : va_W, ws.Perm (wc ++ R) ∧ ws1.Perm (w1 ++ R)
theorem foc_all {ws w1 : va_W} : Foc ws ws w1 w1 := ⟨[], by rw [List.append_nil], by rw [List.append_nil]⟩
theorem foc_nil {ws : va_W} : Foc ws [] ws [] := ⟨ws, List.Perm.refl _, List.Perm.refl _⟩
theorem foc_l {Y Z yc Y1 y1 : va_W} (h : Foc Y yc Y1 y1) : Foc (Y ++ Z) yc (Y1 ++ Z) y1 := by
  obtain ⟨R, h1, h2⟩ := h
  exact ⟨R ++ Z, by rw [← List.append_assoc]; exact h1.append_right Z, by rw [← List.append_assoc]; exact h2.append_right Z⟩
theorem foc_r {X Y yc Y1 y1 : va_W} (h : Foc Y yc Y1 y1) : Foc (X ++ Y) yc (X ++ Y1) y1 := by
  obtain ⟨R, h1, h2⟩ := h
  have key : ∀ (a b c d : va_W), b.Perm (c ++ d) → (a ++ b).Perm (c ++ (a ++ d)) := by
    intro a b c d h
    refine (h.append_left a).trans ?_
    rw [← List.append_assoc, ← List.append_assoc]
    exact List.perm_append_comm.append_right d
  exact ⟨X ++ R, key _ _ _ _ h1, key _ _ _ _ h2⟩
theorem foc_app {X xc X1 x1 Y yc Y1 y1 : va_W} (h : Foc X xc X1 x1) (g : Foc Y yc Y1 y1) : Foc (X ++ Y) (xc ++ yc) (X1 ++ Y1) (x1 ++ y1) := by
  obtain ⟨R, h1, h2⟩ := h
  obtain ⟨T, g1, g2⟩ := g
  have key : ∀ (a b c d a' c' : va_W), a.Perm (b ++ a') → c.Perm (d ++ c') → (a ++ c).Perm ((b ++ d) ++ (a' ++ c')) := by
    intro a b c d a' c' h g
    refine (h.append g).trans ?_
    rw [List.append_assoc, List.append_assoc]
    refine List.Perm.append_left b ?_
    rw [← List.append_assoc, ← List.append_assoc]
    exact List.perm_append_comm.append_right c'
  exact ⟨R ++ T, key _ _ _ _ _ _ h1 g1, key _ _ _ _ _ _ h2 g2⟩
theorem foc_perm {ws wc wc' ws1 w1 w1' : va_W} (h : Foc ws wc ws1 w1) (g : wc.Perm wc') (g1 : w1.Perm w1') : Foc ws wc' ws1 w1' := by
  obtain ⟨R, h1, h2⟩ := h
  exact ⟨R, h1.trans (g.append_right R), h2.trans (g1.append_right R)⟩
theorem foc_swap {ws a b ws1 a1 b1 : va_W} (h : Foc ws (a ++ b) ws1 (a1 ++ b1)) : Foc ws (b ++ a) ws1 (b1 ++ a1) := foc_perm h List.perm_append_comm List.perm_append_comm
theorem foc_rot {ws a b c ws1 a1 b1 c1 : va_W} (h : Foc ws (a ++ (b ++ c)) ws1 (a1 ++ (b1 ++ c1))) : Foc ws (b ++ (c ++ a)) ws1 (b1 ++ (c1 ++ a1)) := by
  have h2 := foc_swap h
  rwa [List.append_assoc, List.append_assoc] at h2
theorem foc_el {ws : va_W} {k : Nat} {e e1 : Nat × va_E} {ws1 : va_W} (h : ws[k]? = some e) (hs : ws.set k e1 = ws1) : Foc ws [e] ws1 [e1] := by
  obtain ⟨hl, he⟩ := List.getElem?_eq_some_iff.mp h
  subst hs
  exact ⟨ws.eraseIdx k, perm_el ws k e h, perm_set ws k e1 hl⟩
theorem foc_els {ws : va_W} {k : Nat} {e : Nat × va_E} (h : ws[k]? = some e) : Foc ws [e] ws [e] := by
  refine foc_el h ?_
  apply List.ext_getElem?
  intro i
  rw [List.getElem?_set]
  by_cases q : k = i
  · subst q
    have hl := (List.getElem?_eq_some_iff.mp h).1
    rw [if_pos rfl, if_pos hl, h]
  · rw [if_neg q]
theorem Foc.dis {A : Nat → Prop} {ws wc ws1 w1 : va_W} (hf : Foc ws wc ws1 w1) (hD : va_D A ws) : va_D A wc := by
  obtain ⟨R, h1, -⟩ := hf
  have h := va_D_perm h1 hD
  rw [va_D_iff] at h ⊢
  rw [List.map_append] at h
  exact ⟨(List.nodup_append.mp h.1).1, fun q hq => h.2 q (List.mem_append_left _ hq)⟩
theorem Foc.free {A : Nat → Prop} {ws wc ws1 w1 : va_W} {H0 H : Heap} {locs : List Loc} (hf : Foc ws wc ws1 w1) (hD : va_D A ws) (hS : va_S A H0 H locs) (hA : ∀ q, H0.size ≤ q → A q) : ∀ q, va_A wc H.size q → A q := by
  intro q h
  rcases h with ⟨k, e, h⟩ | h
  · exact (hf.dis hD).2 k (q, e) h
  · exact hA q (Nat.le_trans hS.1 h)
theorem Foc.join {A0 : Nat → Prop} {D : va_G} {cl : List vw_C} {ws wc ws1 w1 : va_W} {H H1 : Heap} (hf : Foc ws wc ws1 w1) (hP : va_P D cl ws H) (hD : va_D A0 ws) (hF : ∀ q, va_A wc H.size q → A0 q) (hk : ∀ q : Nat, q < H.size → ¬ va_A wc H.size q → H1[q]? = H[q]?) (hP1 : va_P D cl w1 H1) (hD1 : va_D (va_A wc H.size) w1) : va_P D cl ws1 H1 ∧ va_D A0 ws1 := by
  obtain ⟨R, h1, h2⟩ := hf
  have hP' := va_P_perm h1 hP
  have hD' := va_D_perm h1 hD
  have hDi := va_D_iff.mp hD'
  rw [List.map_append] at hDi
  have hnd := List.nodup_append.mp hDi.1
  have apart : ∀ q ∈ R, q.1 < H.size ∧ ¬ va_A wc H.size q.1 := by
    intro q hq
    obtain ⟨i, hi⟩ := List.getElem?_of_mem (List.mem_append_right wc hq)
    have hl := (hP' i q hi).lt
    refine ⟨hl, ?_⟩
    rintro (⟨k, e, h⟩ | h)
    · exact hnd.2.2 q.1 (List.mem_map.mpr ⟨(q.1, e), List.mem_of_getElem? h, rfl⟩) q.1 (List.mem_map.mpr ⟨q, hq, rfl⟩) rfl
    · omega
  have gP : va_P D cl (w1 ++ R) H1 := va_P.app hP1 (fun k q hkq => by
    have hq := List.mem_of_getElem? hkq
    obtain ⟨i, hi⟩ := List.getElem?_of_mem (List.mem_append_right wc hq)
    obtain ⟨g1, g2⟩ := apart q hq
    exact (hP' i q hi).kept (hk q.1 g1 g2))
  have gD : va_D A0 (w1 ++ R) := by
    refine va_D.app (hD1.weaken (fun k q _ h => hF q.1 h)) ?_ (fun i j x y hx hy hxy => ?_)
    · rw [va_D_iff]
      exact ⟨hnd.2.1, fun q hq => hDi.2 q (List.mem_append_right _ hq)⟩
    · exact (apart y (List.mem_of_getElem? hy)).2 (by rw [← hxy]; exact hD1.2 i x hx)
  exact ⟨va_P_perm h2.symm gP, va_D_perm h2.symm gD⟩
-- a method's start and end
abbrev zK (D : va_G) (z : Nat → ClassId) (U : State) : Prop := va_K D vwCl [(z 0, .int), (z 1, .object "FilledForOne$Comer"), (z 2, .object "FilledForOne$Kettle")] U
/-- FIRST_SETTINGS, of which copies are made: its cell -/
def zF (t : Nat) (A : Nat → Prop) (U : State) (H : Heap) : Prop := ∃ cell : Cell, H[t]? = some cell ∧ U.isArrayOf cell .int ∧ cell.vm ≠ .unknown ∧ cell.slots.size = 8 ∧ (∀ j : Nat, j < 8 → cell.slots[j]? = some (.int ([8, 1, 4, 3, 1, 2, 3, 1].getD j 0))) ∧ U.vm.findClass "[I" = some cell.cls ∧ ¬ A t
theorem zF.moved {t : Nat} {A : Nat → Prop} {u U : State} {H : Heap} (hvm : u.vm.Alike U.vm) (h : zF t A u H) : zF t A U H := by
  obtain ⟨cell, h1, h2, h3, h4, h5, h6, h7⟩ := h
  exact ⟨cell, h1, State.isArrayOf_alike hvm h2, h3, h4, h5, by rw [hvm.findClass]; exact h6, h7⟩
theorem zF.kept {t : Nat} {A : Nat → Prop} {U : State} {H H1 : Heap} (h : zF t A U H) (hq : ∀ a : Nat, a < H.size → ¬ A a → H1[a]? = H[a]?) : zF t A U H1 := by
  obtain ⟨cell, h1, h2, h3, h4, h5, h6, h7⟩ := h
  exact ⟨cell, by rw [hq t (Array.getElem?_eq_some_iff.mp h1).1 h7]; exact h1, h2, h3, h4, h5, h6, h7⟩
theorem zF.narrow {t : Nat} {A B : Nat → Prop} {U : State} {H : Heap} (h : zF t A U H) (hAB : ∀ q, B q → A q) : zF t B U H := by
  obtain ⟨cell, h1, h2, h3, h4, h5, h6, h7⟩ := h
  exact ⟨cell, h1, h2, h3, h4, h5, h6, fun z => h7 (hAB t z)⟩
/-- the static arrays: where they are, what they hold -/
def zT (tt : Nat → Nat) (A : Nat → Prop) (U : State) (H : Heap) : Prop :=
  (va_Z "FilledForOne" "FIRST_SETTINGS" "[I" (.ref (tt 0)) A U H ∧ zF (tt 0) A U H) ∧
  (va_Z "FilledForOne" "LEAST_SETTINGS" "[I" (.ref (tt 1)) A U H ∧ va_T .int (tt 1) 8 (fun j => .int ([2, 0, 1, 1, 0, 0, 0, 1].getD j 0)) A U H) ∧
  (va_Z "FilledForOne" "GREATEST_SETTINGS" "[I" (.ref (tt 2)) A U H ∧ va_T .int (tt 2) 8 (fun j => .int ([11, 9, 20, 9, 9, 9, 11, 2].getD j 0)) A U H)
theorem zT.moved {tt : Nat → Nat} {A : Nat → Prop} {u U : State} {H : Heap} (hvm : u.vm.Alike U.vm) (h : zT tt A u H) : zT tt A U H :=
  ⟨⟨h.1.1.moved hvm, h.1.2.moved hvm⟩, ⟨h.2.1.1.moved hvm, h.2.1.2.moved hvm⟩, ⟨h.2.2.1.moved hvm, h.2.2.2.moved hvm⟩⟩
theorem zT.kept {tt : Nat → Nat} {A : Nat → Prop} {U : State} {H H1 : Heap} (h : zT tt A U H) (hq : ∀ a : Nat, a < H.size → ¬ A a → H1[a]? = H[a]?) : zT tt A U H1 :=
  ⟨⟨h.1.1.kept hq, h.1.2.kept hq⟩, ⟨h.2.1.1.kept hq, h.2.1.2.kept hq⟩, ⟨h.2.2.1.kept hq, h.2.2.2.kept hq⟩⟩
theorem zT.narrow {tt : Nat → Nat} {A B : Nat → Prop} {U : State} {H : Heap} (h : zT tt A U H) (hAB : ∀ q, B q → A q) : zT tt B U H :=
  ⟨⟨h.1.1.narrow hAB, h.1.2.narrow hAB⟩, ⟨h.2.1.1.narrow hAB, h.2.1.2.narrow hAB⟩, ⟨h.2.2.1.narrow hAB, h.2.2.2.narrow hAB⟩⟩
/-- what the launch says of private members of nest mates -/
def zN (U : State) : Prop :=
  va_Nw (.methodLinkNest RX0 56 yX6_heatingMinutes "FilledForOne") U ∧ va_Nw (.methodLinkNest RX3 27 yX6_heatingMinutes "FilledForOne") U ∧ va_Nw (.methodLinkNest RX2 29 yX1_init "FilledForOne") U ∧ va_Nw (.methodLinkNest RX2 36 yX3_init "FilledForOne") U ∧
  va_Nw (.fieldLinkNest RX2 9 "FilledForOne" "FIRST_SETTINGS" "[I" "FilledForOne") U ∧ va_Nw (.fieldLinkNest RX2 69 "FilledForOne" "LEAST_SETTINGS" "[I" "FilledForOne") U ∧ va_Nw (.fieldLinkNest RX2 72 "FilledForOne" "GREATEST_SETTINGS" "[I" "FilledForOne") U ∧
  va_Nw (.castable "[I" "java/lang/Cloneable") U ∧ va_AO "FilledForOne$Comer" U ∧ va_AO "FilledForOne$Kettle" U
theorem zN.warm {s U : State} (hW : s.WarmedH U.vm) (h : zN s) : zN U := ⟨va_Nw.warmM hW h.1, va_Nw.warmM hW h.2.1, va_Nw.warmM hW h.2.2.1, va_Nw.warmM hW h.2.2.2.1, va_Nw.warmF hW h.2.2.2.2.1, va_Nw.warmF hW h.2.2.2.2.2.1, va_Nw.warmF hW h.2.2.2.2.2.2.1, va_Nw.warmC hW h.2.2.2.2.2.2.2.1, va_AO.moved hW.alike h.2.2.2.2.2.2.2.2.1, va_AO.moved hW.alike h.2.2.2.2.2.2.2.2.2⟩
theorem zN.same {u U : State} (e : u.vm = U.vm) (h : zN u) : zN U := ⟨va_Nw.same rfl e h.1, va_Nw.same rfl e h.2.1, va_Nw.same rfl e h.2.2.1, va_Nw.same rfl e h.2.2.2.1, va_Nw.same rfl e h.2.2.2.2.1, va_Nw.same rfl e h.2.2.2.2.2.1, va_Nw.same rfl e h.2.2.2.2.2.2.1, va_Nw.same rfl e h.2.2.2.2.2.2.2.1, va_AO.moved (by rw [e]; exact Vm.Alike.refl _) h.2.2.2.2.2.2.2.2.1, va_AO.moved (by rw [e]; exact Vm.Alike.refl _) h.2.2.2.2.2.2.2.2.2⟩
def zPre (D : va_G) (z tt : Nat → Nat) (sz : Nat) (ws : va_W) (U : State) : Prop := U.heap.size = sz ∧ va_P D vwCl ws U.heap ∧ zK D z U ∧ va_D (fun _ => True) ws ∧ zT tt (va_A ws sz) U U.heap ∧ zN U
def zAt (D : va_G) (z : Nat → ClassId) (A : Nat → Prop) (ws : va_W) (t : State) : Prop := va_P D vwCl ws t.heap ∧ zK D z t ∧ va_D A ws
def MetI (l : Launch) (y : MethodName) (wds : List Cond) (rm : Room) (D : va_G) (z tt : Nat → Nat) (av : List Value) (ws : va_W) (r : Int32) (ws' : va_W) : Prop :=
  ∀ sz, Met l y wds rm (va_Pc av (zPre D z tt sz ws)) (va_Qi (fun (r' : Int32) (_ : Unit) => r' = r) (fun _ t => zAt D z (va_A ws sz) ws' t) (va_A ws sz)) 0 0 (va_A ws sz)
def MetV (l : Launch) (y : MethodName) (wds : List Cond) (rm : Room) (D : va_G) (z tt : Nat → Nat) (av : List Value) (ws : va_W) (ws' : va_W) : Prop :=
  ∀ sz, Met l y wds rm (va_Pc av (zPre D z tt sz ws)) (va_Qv (fun (_ : Unit) => True) (fun _ t => zAt D z (va_A ws sz) ws' t) (va_A ws sz)) 0 0 (va_A ws sz)
def MetQ (l : Launch) (y : MethodName) (wds : List Cond) (rm : Room) (D : va_G) (z tt : Nat → Nat) (av : List Value) (ws : va_W) (r : Option Nat) (ws' : va_W) : Prop :=
  ∀ sz, Met l y wds rm (va_Pc av (zPre D z tt sz ws)) (va_Qq (fun (r' : Option Nat) (_ : Unit) => r' = r) (fun _ t => zAt D z (va_A ws sz) ws' t) (va_A ws sz)) 0 0 (va_A ws sz)
theorem zPre_blind (D : va_G) (z tt : Nat → Nat) (sz : Nat) (ws : va_W) (av : List Value) : FrameBlind (va_Pc av (zPre D z tt sz ws)) := by
  intro a U g mk q
  obtain ⟨q0, q1, q2, q3, q4, q5, q6⟩ := q
  exact ⟨q0, q1, q2, va_K.moved (u := U) (U := U.calling g mk a) (Vm.Alike.refl U.vm) q3, q4, q5.moved (u := U) (U := U.calling g mk a) (Vm.Alike.refl U.vm), q6.same (u := U) (U := U.calling g mk a) rfl⟩
section ZE
variable {p : Program} {l : Launch} {e : Env} {R : Room} {s : State} {m : MethodId} {args : Array Value} {below : List Frame} {meth : Method} {c : Code} {H : Heap} {locs : List Loc} {cells slots : Nat} {Q : State → Prop}
variable {cc : ByteArray} {pc : Nat} {ls : Array Slot} {rest st0 : List Value} {D : va_G} {z tt : Nat → Nat} {A : Nat → Prop} {a : Nat} {ws wc w1 ws1 : va_W}
theorem ret_i (hexec : p.tables.exec = Jvm.exec) (hb : c.code = cc) (hr : meth.sig.returnType = some .int) (hlocks : meth.locks = false) (hK : zK D z s) {r : Int32} (hP : va_P D vwCl ws H) (hD : va_D A ws) (hS : va_S A s.heap H locs) (hdg : decode cc pc = .ok (.ireturn, 1)) :
    W p l e R s m args below meth c H locs cells slots (MQ below (va_Qi (fun (r' : Int32) (_ : Unit) => r' = r) (fun _ t => zAt D z A ws t) A) args s cells slots A) (F0 m pc ls [.int r]) :=
  W.iret hexec hb hr (fun t ht hW => ⟨⟨r, (), rfl, rfl, by rw [ht]; exact hP, va_K.moved hW.alike hK, hD⟩, hS.F ht⟩) hS.2.2 hdg
theorem ret_z (hexec : p.tables.exec = Jvm.exec) (hb : c.code = cc) (hr : meth.sig.returnType = some .boolean) (hlocks : meth.locks = false) (hK : zK D z s) {r : Int32} (hP : va_P D vwCl ws H) (hD : va_D A ws) (hS : va_S A s.heap H locs) (hz : r &&& 1 = r) (hdg : decode cc pc = .ok (.ireturn, 1)) :
    W p l e R s m args below meth c H locs cells slots (MQ below (va_Qi (fun (r' : Int32) (_ : Unit) => r' = r) (fun _ t => zAt D z A ws t) A) args s cells slots A) (F0 m pc ls [.int r]) :=
  W.zret hexec hb hr (nar_z hz) (fun t ht hW => ⟨⟨r, (), rfl, rfl, by rw [ht]; exact hP, va_K.moved hW.alike hK, hD⟩, hS.F ht⟩) hS.2.2 hdg
theorem ret_v (hexec : p.tables.exec = Jvm.exec) (hb : c.code = cc) (hr : meth.sig.returnType = none) (hlocks : meth.locks = false) (hK : zK D z s) (hP : va_P D vwCl ws H) (hD : va_D A ws) (hS : va_S A s.heap H locs) (hdg : decode cc pc = .ok (.return_, 1)) :
    W p l e R s m args below meth c H locs cells slots (MQ below (va_Qv (fun (_ : Unit) => True) (fun _ t => zAt D z A ws t) A) args s cells slots A) (F0 m pc ls []) :=
  W.vret hexec hb hr (fun t ht hW => ⟨⟨(), rfl, trivial, by rw [ht]; exact hP, va_K.moved hW.alike hK, hD⟩, hS.F ht⟩) hS.2.2 hdg
theorem ret_q (hexec : p.tables.exec = Jvm.exec) (hb : c.code = cc) {rt : FieldType} (hr : meth.sig.returnType = some rt) (hrt : (∃ n, rt = .object n) ∨ ∃ t, rt = .array t) (hlocks : meth.locks = false) (hK : zK D z s) {r : Option Nat} {v : Value} (hv : v = va_rf r) (hP : va_P D vwCl ws H) (hD : va_D A ws) (hS : va_S A s.heap H locs) (hdg : decode cc pc = .ok (.areturn, 1)) :
    W p l e R s m args below meth c H locs cells slots (MQ below (va_Qq (fun (r' : Option Nat) (_ : Unit) => r' = r) (fun _ t => zAt D z A ws t) A) args s cells slots A) (F0 m pc ls [v]) := by
  subst hv
  exact W.aret hexec hb hr hrt (va_rf_or r) (fun t ht hW => ⟨⟨r, (), rfl, rfl, by rw [ht]; exact hP, va_K.moved hW.alike hK, hD⟩, hS.F ht⟩) hS.2.2 hdg
/-- a field is written: the world is another memory's -/
theorem z_put {σ : Type} (hexec : p.tables.exec = Jvm.exec) (hb : c.code = cc) {own ref C : String} {T : u_T} {N ci index : Nat} {Ts : List Cond} (hts : ∀ w ∈ Ts, w.before args s = true) (hin : ∀ w ∈ u_ws C T N, w ∈ Ts) (ty0 : Nat → FieldType) (hty : ∀ k, k < N → parseFieldDescriptor (T k).2.2.1 = some (ty0 k)) (hnm : ∀ a, a < N → ∀ b, b < N → a ≠ b → (T a).2.1 ≠ (T b).2.1) (hown : s.vm.findClass own = some m.cls) (hK : zK D z s) (hP : va_P D vwCl ws H) (hD : va_D A ws) (hS0 : va_S A s.heap H locs) (q0 : Nat) {fs : List Value} (he : ws[q0]? = some (a, .inr (ci, fs))) (hc : vwCl[ci]? = some (C, T, N)) (k : Nat) (hk : k < N) (hlink : (Cond.fieldLink own index ref (T k).2.1 (T k).2.2.1).before args s = true) (hsame : ∀ x, s.fieldFound? (T k).1 (T k).2.1 (T k).2.2.1 = some x → s.fieldFound? ref (T k).2.1 (T k).2.2.1 = some x) (hfin : (T k).2.2.2 = false) {ty : FieldType} {v : Value} (hd : parseFieldDescriptor (T k).2.2.1 = some ty) (hn : narrow ty v = v) (hfit : fits ty v = true) (hl : k < fs.length)
    (hdg : decode cc pc = .ok (.putfield index, 3)) (Wf : σ → va_W) (x1 : σ) (hset : ws.set q0 (a, .inr (ci, fs.set k v)) = Wf x1)
    (kk : ∀ (x2 : σ), x2 = x1 → ∀ (H1 : Heap) (locs1 : List Loc), va_P D vwCl (Wf x2) H1 → va_D A (Wf x2) → va_S A s.heap H1 locs1 → W p l e R s m args below meth c H1 locs1 cells slots Q (F0 m (pc + 3) ls rest)) : W p l e R s m args below meth c H locs cells slots Q (F0 m pc ls (v :: .ref a :: rest)) :=
  va_put hexec hb hts hin ty0 hty hnm hown hK hP hD hS0 q0 he hc k hk hlink hsame hfin hd hn hfit hl hdg (fun H1 locs1 a b c => kk x1 rfl H1 locs1 (hset ▸ a) (hset ▸ b) c)
theorem z_putN {σ : Type} (hexec : p.tables.exec = Jvm.exec) (hb : c.code = cc) {own ref C host : String} {T : u_T} {N ci index : Nat} {Ts : List Cond} (hts : ∀ w ∈ Ts, w.before args s = true) (hin : ∀ w ∈ u_ws C T N, w ∈ Ts) (ty0 : Nat → FieldType) (hty : ∀ k, k < N → parseFieldDescriptor (T k).2.2.1 = some (ty0 k)) (hnm : ∀ a, a < N → ∀ b, b < N → a ≠ b → (T a).2.1 ≠ (T b).2.1) (hown : s.vm.findClass own = some m.cls) (hK : zK D z s) (hP : va_P D vwCl ws H) (hD : va_D A ws) (hS0 : va_S A s.heap H locs) (q0 : Nat) {fs : List Value} (he : ws[q0]? = some (a, .inr (ci, fs))) (hc : vwCl[ci]? = some (C, T, N)) (k : Nat) (hk : k < N) (hlink : (Cond.fieldLinkNest own index ref (T k).2.1 (T k).2.2.1 host).before args s = true) (hsame : ∀ x, s.fieldFound? (T k).1 (T k).2.1 (T k).2.2.1 = some x → s.fieldFound? ref (T k).2.1 (T k).2.2.1 = some x) (hfin : (T k).2.2.2 = false) {ty : FieldType} {v : Value} (hd : parseFieldDescriptor (T k).2.2.1 = some ty) (hn : narrow ty v = v) (hfit : fits ty v = true) (hl : k < fs.length)
    (hdg : decode cc pc = .ok (.putfield index, 3)) (Wf : σ → va_W) (x1 : σ) (hset : ws.set q0 (a, .inr (ci, fs.set k v)) = Wf x1)
    (kk : ∀ (x2 : σ), x2 = x1 → ∀ (H1 : Heap) (locs1 : List Loc), va_P D vwCl (Wf x2) H1 → va_D A (Wf x2) → va_S A s.heap H1 locs1 → W p l e R s m args below meth c H1 locs1 cells slots Q (F0 m (pc + 3) ls rest)) : W p l e R s m args below meth c H locs cells slots Q (F0 m pc ls (v :: .ref a :: rest)) :=
  va_putN hexec hb hts hin ty0 hty hnm hown hK hP hD hS0 q0 he hc k hk hlink hsame hfin hd hn hfit hl hdg (fun H1 locs1 a b c => kk x1 rfl H1 locs1 (hset ▸ a) (hset ▸ b) c)
theorem z_iast {σ : Type} (hexec : p.tables.exec = Jvm.exec) (hb : c.code = cc) (hK : zK D z s) (hP : va_P D vwCl ws H) (hD : va_D A ws) (hS : va_S A s.heap H locs) (q0 : Nat) {n : Nat} {f : Nat → Int32} (ha : ws[q0]? = some (a, .inl (z 0, n, .inl f))) {i : Int32} {x : Int32} (hin : vp_in i n) (hdg : decode cc pc = .ok (.iastore, 1))
    (Wf : σ → va_W) (x1 : σ) (hset : ws.set q0 (a, .inl (z 0, n, .inl (upd f i.toNatClampNeg x))) = Wf x1)
    (kk : ∀ (x2 : σ), x2 = x1 → ∀ (H1 : Heap) (locs1 : List Loc), va_P D vwCl (Wf x2) H1 → va_D A (Wf x2) → va_S A s.heap H1 locs1 → W p l e R s m args below meth c H1 locs1 cells slots Q (F0 m (pc + 1) ls rest)) : W p l e R s m args below meth c H locs cells slots Q (F0 m pc ls (.int x :: .int i :: .ref a :: rest)) :=
  va_iast hexec hb hK hP hD hS q0 0 ha rfl hin hdg (fun H1 locs1 a b c => kk x1 rfl H1 locs1 (hset ▸ a) (hset ▸ b) c)
theorem z_iald (hexec : p.tables.exec = Jvm.exec) (hb : c.code = cc) (hK : zK D z s) (hP : va_P D vwCl ws H) (q0 : Nat) {n : Nat} {f : Nat → Int32} (ha : ws[q0]? = some (a, .inl (z 0, n, .inl f))) {i : Int32} (hin : vp_in i n) (hdg : decode cc pc = .ok (.iaload, 1))
    (kk : W p l e R s m args below meth c H locs cells slots Q (F0 m (pc + 1) ls (.int (f i.toNatClampNeg) :: rest))) : W p l e R s m args below meth c H locs cells slots Q (F0 m pc ls (.int i :: .ref a :: rest)) :=
  va_iald hexec hb hK hP q0 0 ha rfl hin hdg kk
theorem z_ald (hexec : p.tables.exec = Jvm.exec) (hb : c.code = cc) (hK : zK D z s) (hP : va_P D vwCl ws H) (q0 t0 : Nat) {cA : ClassId} {C : String} {n : Nat} {g : Nat → Nat} (ha : ws[q0]? = some (a, .inl (cA, n, .inr (.inr (.inr (.inr (fun j => some (g j)))))))) (ht : [(z 0, FieldType.int), (z 1, .object "FilledForOne$Comer"), (z 2, .object "FilledForOne$Kettle")][t0]? = some (cA, .object C)) {i : Int32} (hin : vp_in i n) (hdg : decode cc pc = .ok (.aaload, 1))
    (kk : W p l e R s m args below meth c H locs cells slots Q (F0 m (pc + 1) ls (.ref (g i.toNatClampNeg) :: rest))) : W p l e R s m args below meth c H locs cells slots Q (F0 m pc ls (.int i :: .ref a :: rest)) :=
  va_aldq hexec hb hK hP q0 t0 ha ht hin hdg kk
theorem z_alen (hexec : p.tables.exec = Jvm.exec) (hb : c.code = cc) (hK : zK D z s) (hP : va_P D vwCl ws H) (q0 t0 : Nat) {cA : ClassId} {x : vp_A} (ha : ws[q0]? = some (a, .inl (cA, x))) {ty : FieldType} (ht : [(z 0, FieldType.int), (z 1, .object "FilledForOne$Comer"), (z 2, .object "FilledForOne$Kettle")][t0]? = some (cA, ty)) {v : Int32} (hv : Int32.ofNat x.1 = v) (hdg : decode cc pc = .ok (.arraylength, 1))
    (kk : W p l e R s m args below meth c H locs cells slots Q (F0 m (pc + 1) ls (.int v :: rest))) : W p l e R s m args below meth c H locs cells slots Q (F0 m pc ls (.ref a :: rest)) :=
  va_alen hexec hb hK hP q0 t0 ha ht hv hdg kk
/-- what a call needs of the caller's world, and what it gives back -/
theorem z_preP {D : va_G} {cl : List vw_C} {H : Heap} (hP : va_P D cl ws H) (hf : Foc ws wc ws1 w1) : va_P D cl wc H := by
  obtain ⟨R0, h1, -⟩ := hf
  exact fun k q hk => by
    have hm : q ∈ ws := h1.mem_iff.mpr (List.mem_append_left _ (List.mem_of_getElem? hk))
    obtain ⟨i, hi⟩ := List.getElem?_of_mem hm
    exact hP i q hi
theorem z_preV {C : String} {b : Nat} {As : List Value} (hK : zK D z s) (hP : va_P D vwCl ws H) (hD : va_D A ws) (hS : va_S A s.heap H locs) (hA : ∀ q, s.heap.size ≤ q → A q) (hT : zT tt A s s.heap) (hN : zN s) (hf : Foc ws wc ws1 w1) (hcell : ∃ cell : Cell, H[b]? = some cell ∧ cell.vm.isStatics = false ∧ s.vm.findClass C = some cell.cls) :
    PreV s H C b (va_Pc (.ref b :: As) (zPre D z tt H.size wc)) As := by
  refine ⟨zPre_blind _ _ _ _ _ _, hcell, fun U hU hW => ⟨rfl, by rw [hU], ?_, va_K.moved hW.alike hK, ?_, ?_, hN.warm hW⟩⟩
  · rw [hU]
    exact z_preP hP hf
  · exact (hf.dis hD).weaken (fun _ _ _ _ => trivial)
  · rw [hU]
    exact ((hT.kept (fun a h1 h2 => hS.2.1 a h1 h2)).moved hW.alike).narrow (hf.free hD hS hA)
theorem z_preS {As : List Value} (hK : zK D z s) (hP : va_P D vwCl ws H) (hD : va_D A ws) (hS : va_S A s.heap H locs) (hA : ∀ q, s.heap.size ≤ q → A q) (hT : zT tt A s s.heap) (hN : zN s) (hf : Foc ws wc ws1 w1) :
    PreS s H (va_Pc As (zPre D z tt H.size wc)) As := by
  refine ⟨zPre_blind _ _ _ _ _ _, fun U hU hW => ⟨rfl, by rw [hU], ?_, va_K.moved hW.alike hK, ?_, ?_, hN.warm hW⟩⟩
  · rw [hU]
    exact z_preP hP hf
  · exact (hf.dis hD).weaken (fun _ _ _ _ => trivial)
  · rw [hU]
    exact ((hT.kept (fun a h1 h2 => hS.2.1 a h1 h2)).moved hW.alike).narrow (hf.free hD hS hA)
/-- the call has run: an int comes back -/
theorem z_goI {r : Int32} {aa : Array Value} (hr : va_Run p l e R s m args below meth c H locs cells slots 0 0 (F0 m pc ls st0) rest (va_Qi (fun (r' : Int32) (_ : Unit) => r' = r) (fun _ t => zAt D z (va_A wc H.size) w1 t) (va_A wc H.size) aa) (va_A wc H.size)) (hP : va_P D vwCl ws H) (hD : va_D A ws) (hS : va_S A s.heap H locs) (hA : ∀ q, s.heap.size ≤ q → A q) (hf : Foc ws wc ws1 w1)
    (kk : ∀ (H1 : Heap) (locs1 : List Loc), va_P D vwCl ws1 H1 → va_D A ws1 → va_S A s.heap H1 locs1 → W p l e R s m args below meth c H1 locs1 cells slots Q (F0 m (pc + 3) ls (.int r :: rest))) : W p l e R s m args below meth c H locs cells slots Q (F0 m pc ls st0) := by
  have hF := hf.free hD hS hA
  refine va_calli hr hS (fun q _ h => hF q h) hF (fun r' u t H1 locs1 ht hvm hw hB hz1 hk1 hS1 => ?_)
  obtain ⟨hP1, -, hD1⟩ := hB
  rw [ht] at hP1
  obtain ⟨g1, g2⟩ := hf.join hP hD hF hk1 hP1 hD1
  have hw : r' = r := hw
  rw [hw]
  exact kk H1 locs1 g1 g2 hS1
theorem z_goV {aa : Array Value} (hr : va_Run p l e R s m args below meth c H locs cells slots 0 0 (F0 m pc ls st0) rest (va_Qv (fun (_ : Unit) => True) (fun _ t => zAt D z (va_A wc H.size) w1 t) (va_A wc H.size) aa) (va_A wc H.size)) (hP : va_P D vwCl ws H) (hD : va_D A ws) (hS : va_S A s.heap H locs) (hA : ∀ q, s.heap.size ≤ q → A q) (hf : Foc ws wc ws1 w1)
    (kk : ∀ (H1 : Heap) (locs1 : List Loc), va_P D vwCl ws1 H1 → va_D A ws1 → va_S A s.heap H1 locs1 → W p l e R s m args below meth c H1 locs1 cells slots Q (F0 m (pc + 3) ls rest)) : W p l e R s m args below meth c H locs cells slots Q (F0 m pc ls st0) := by
  have hF := hf.free hD hS hA
  refine va_callv hr hS (fun q _ h => hF q h) hF (fun u t H1 locs1 ht hvm hw hB hz1 hk1 hS1 => ?_)
  obtain ⟨hP1, -, hD1⟩ := hB
  rw [ht] at hP1
  obtain ⟨g1, g2⟩ := hf.join hP hD hF hk1 hP1 hD1
  exact kk H1 locs1 g1 g2 hS1
theorem z_goQ {r : Option Nat} {aa : Array Value} (hr : va_Run p l e R s m args below meth c H locs cells slots 0 0 (F0 m pc ls st0) rest (va_Qq (fun (r' : Option Nat) (_ : Unit) => r' = r) (fun _ t => zAt D z (va_A wc H.size) w1 t) (va_A wc H.size) aa) (va_A wc H.size)) (hP : va_P D vwCl ws H) (hD : va_D A ws) (hS : va_S A s.heap H locs) (hA : ∀ q, s.heap.size ≤ q → A q) (hf : Foc ws wc ws1 w1)
    (kk : ∀ (H1 : Heap) (locs1 : List Loc), va_P D vwCl ws1 H1 → va_D A ws1 → va_S A s.heap H1 locs1 → W p l e R s m args below meth c H1 locs1 cells slots Q (F0 m (pc + 3) ls (va_rf r :: rest))) : W p l e R s m args below meth c H locs cells slots Q (F0 m pc ls st0) := by
  have hF := hf.free hD hS hA
  refine va_callq hr hS (fun q _ h => hF q h) hF (fun r' u t H1 locs1 ht hvm hw hB hz1 hk1 hS1 => ?_)
  obtain ⟨hP1, -, hD1⟩ := hB
  rw [ht] at hP1
  obtain ⟨g1, g2⟩ := hf.join hP hD hF hk1 hP1 hD1
  have hw : r' = r := hw
  rw [hw]
  exact kk H1 locs1 g1 g2 hS1
end ZE

theorem Met.ofWF {l : Launch} {y : MethodName} {ws ws' : List Cond} {rm : Room} {Pc : Array Value → State → Prop} {Qc : Array Value → State → Outcome → State → Prop} {mc ms : Nat} {free : Addr → Prop} {cc : ByteArray} {maxL : Nat} {ret : Option FieldType}
    (hy : plainFor y = true) (hw : ws = Cond.code y cc maxL ret :: ws')
    (body : ∀ p e s m args below meth c s₁, BodyLoose p l y (headSpec ws rm) cc maxL ret e s m args below meth c s₁ → c.maxLocals = maxL → Pc args s →
      W p l e (headSpec ws rm).room s m args below meth c s.heap [] 0 0 (MQ below Qc args s mc ms free) (entryFrame m args maxL)) : Met l y ws rm Pc Qc mc ms free := by
  refine MetFree.of_bodySF (code := cc) (maxLocals := maxL) (ret := ret) hy ?_ ?_
  · intro args s m h hn
    obtain ⟨meth, c, h1, h2, h3, h4, h5, h6, -, -⟩ := Cond.code_spec hn (atoms_spec (ws := ws) h _ (by rw [hw]; exact List.mem_cons_self))
    exact ⟨meth, c, h1, h2, h3, h4, h5, h6⟩
  · intro p e s m args below meth c s₁ B hml hP _
    have hh0 : s₁.heap = s.heap := by rw [B.state]; rfl
    obtain ⟨t, a1, o, b1, b2, b3⟩ := body p e s m args below meth c s₁ B hml hP s₁ hh0 (Stand.of_body B)
    exact ⟨t, o, a1, b1, b2, ⟨b3.1, b3.2⟩⟩
-- what makes cells
def MetC {σ : Type} (l : Launch) (y : MethodName) (wds : List Cond) (rm : Room) (D : va_G) (z tt : Nat → Nat) (av : List Value) (ws : va_W) (mc ms : Nat) (φ : σ → Prop) (wf : σ → va_W) : Prop :=
  ∀ sz, Met l y wds rm (va_Pc av (zPre D z tt sz ws)) (va_Qv (fun (u : σ) => φ u) (fun u t => zAt D z (va_A ws sz) (wf u) t) (va_A ws sz)) mc ms (va_A ws sz)
theorem va_at_inl {D : va_G} {cl : List vw_C} {a : Nat} {cA : ClassId} {x y : vp_A} {H : Heap} (h : va_at D cl (a, .inl (cA, x)) H) (e : vp_cell cA x = vp_cell cA y) : va_at D cl (a, .inl (cA, y)) H := by
  show H[a]? = some (vp_cell cA y)
  rw [← e]
  exact h
theorem arrV_congr {cA : ClassId} {n : Nat} {f g : Nat → Value} (h : ∀ j, j < n → f j = g j) : arrV cA n f = arrV cA n g := by
  unfold arrV
  congr 1
  apply Array.ext
  · simp
  · intro i h1 h2
    simp at h1 h2 ⊢
    exact h i h1
theorem va_P_recell {D : va_G} {cl : List vw_C} {ws : va_W} {H : Heap} {k a : Nat} {cA : ClassId} {x y : vp_A} (hP : va_P D cl ws H) (hk : ws[k]? = some (a, .inl (cA, x))) (e : vp_cell cA x = vp_cell cA y) : va_P D cl (ws.set k (a, .inl (cA, y))) H := by
  intro i q hq
  rw [List.getElem?_set] at hq
  split at hq
  · split at hq
    · cases hq
      exact va_at_inl (hP k _ hk) e
    · cases hq
  · exact hP i q hq
theorem zK_i {D : va_G} {z : Nat → ClassId} {U : State} {cA : ClassId} (h : va_K D vwCl ([(z 0, .int), (z 1, .object "FilledForOne$Comer"), (z 2, .object "FilledForOne$Kettle")] ++ [(cA, .int)]) U) : cA = z 0 := by
  have h1 := va_nm_int (h.2 0 _ rfl).2
  have h2 := va_nm_int (h.2 3 _ rfl).2
  exact Option.some.inj (h2.symm.trans h1)
theorem zK_c {D : va_G} {z : Nat → ClassId} {U : State} {cA : ClassId} {C : String} (i : Nat) (hi : [(z 0, FieldType.int), (z 1, .object "FilledForOne$Comer"), (z 2, .object "FilledForOne$Kettle")][i]? = some (z i, .object C)) (h : va_K D vwCl ([(z 0, .int), (z 1, .object "FilledForOne$Comer"), (z 2, .object "FilledForOne$Kettle")] ++ [(cA, .object C)]) U) : cA = z i := by
  have hi' : ([(z 0, FieldType.int), (z 1, .object "FilledForOne$Comer"), (z 2, .object "FilledForOne$Kettle")] ++ [(cA, .object C)])[i]? = some (z i, .object C) := by
    rw [List.getElem?_append_left (List.getElem?_eq_some_iff.mp hi).1]; exact hi
  obtain ⟨-, kA, comp, -, -, -, h4⟩ := h.2 i _ hi'
  obtain ⟨-, kB, comp2, -, -, -, g4⟩ := h.2 3 _ rfl
  exact Option.some.inj (g4.symm.trans h4)
section ZE3
variable {p : Program} {l : Launch} {e : Env} {R : Room} {s : State} {m : MethodId} {args : Array Value} {below : List Frame} {meth : Method} {c : Code} {H : Heap} {locs : List Loc} {cells slots mc ms : Nat} {Q : State → Prop}
variable {cc : ByteArray} {pc : Nat} {ls : Array Slot} {rest st0 : List Value} {D : va_G} {z tt : Nat → Nat} {A : Nat → Prop} {a : Nat} {ws wc w1 ws1 wr : va_W}
theorem z_goC {σ : Type} {φ : σ → Prop} {wf : σ → va_W} {aa : Array Value} (hr : va_Run p l e R s m args below meth c H locs cells slots mc ms (F0 m pc ls st0) rest (va_Qv (fun (u : σ) => φ u) (fun u t => zAt D z (va_A wc H.size) (wf u) t) (va_A wc H.size) aa) (va_A wc H.size)) (hP : va_P D vwCl ws H) (hD : va_D A ws) (hS : va_S A s.heap H locs) (hA : ∀ q, s.heap.size ≤ q → A q) (isC isR : List Nat) (hC : isC.map (fun i => ws[i]?) = wc.map some) (hR : isR.map (fun i => ws[i]?) = wr.map some) (hn : va_nd isR = true) (hdis : ∀ i ∈ isR, i ∉ isC)
    (kk : ∀ (u : σ), φ u → ∀ (H1 : Heap) (locs1 : List Loc), va_P D vwCl (wr ++ wf u) H1 → va_D A (wr ++ wf u) → va_S A s.heap H1 locs1 → W p l e R s m args below meth c H1 locs1 (cells + mc) (slots + ms) Q (F0 m (pc + 3) ls rest)) : W p l e R s m args below meth c H locs cells slots Q (F0 m pc ls st0) := by
  have hF := va_free hD hS hA isC hC
  refine va_callv hr hS (fun q _ h => hF q h) hF (fun u t H1 locs1 ht hvm hw hB hz1 hk1 hS1 => ?_)
  obtain ⟨hP1, -, hD1⟩ := hB
  rw [ht] at hP1
  obtain ⟨g1, g2⟩ := va_join hP hD isC isR hC hR hn hdis hk1 hF hP1 hD1
  exact kk u hw H1 locs1 g1 g2 hS1
theorem ret_c {σ : Type} {φ : σ → Prop} {wf : σ → va_W} (u : σ) (hu : φ u) (hexec : p.tables.exec = Jvm.exec) (hb : c.code = cc) (hr : meth.sig.returnType = none) (hlocks : meth.locks = false) (hK : zK D z s) (hP : va_P D vwCl (wf u) H) (hD : va_D A (wf u)) (hS : va_S A s.heap H locs) (hdg : decode cc pc = .ok (.return_, 1)) :
    W p l e R s m args below meth c H locs cells slots (MQ below (va_Qv (fun (u : σ) => φ u) (fun u t => zAt D z A (wf u) t) A) args s cells slots A) (F0 m pc ls []) :=
  W.vret hexec hb hr (fun t ht hW => ⟨⟨u, rfl, hu, by rw [ht]; exact hP, va_K.moved hW.alike hK, hD⟩, hS.F ht⟩) hS.2.2 hdg
theorem z_newi {N' : Nat} (hexec : p.tables.exec = Jvm.exec) (hb : c.code = cc) (harr : (Cond.arrayClass .int).before args s = true) (hK : zK D z s) (hP : va_P D vwCl ws H) (hD : va_D A ws) (hS : va_S A s.heap H locs) (hA : ∀ q, s.heap.size ≤ q → A q) {n : Int32} (hn : ¬ n < 0) (hN : n.toNatClampNeg = N') (hbytes : N' * 4 ≤ 536870912) (hcells : cells + 1 ≤ R.cells) (hslots : slots + N' ≤ R.slots) (hdg : decode cc pc = .ok (.newarray .int, 2))
    (kk : ∀ (q : Nat) (H1 : Heap), va_P D vwCl (ws ++ [(q, .inl (z 0, N', .inl (fun _ => 0)))]) H1 → va_D A (ws ++ [(q, .inl (z 0, N', .inl (fun _ => 0)))]) → va_S A s.heap H1 locs → W p l e R s m args below meth c H1 locs (cells + 1) (slots + N') Q (F0 m (pc + 2) ls (.ref q :: rest))) : W p l e R s m args below meth c H locs cells slots Q (F0 m pc ls (.int n :: rest)) := by
  refine va_newa (atype := .int) (ty := .int) (a0 := (N', .inl (fun _ => 0))) hexec hb harr rfl hK hP hD hS hA (fun cA => rfl) hn hN hbytes hcells hslots hdg (fun q cA H1 hK1 hP1 hD1 hS1 => ?_)
  have hc := zK_i hK1
  subst hc
  exact kk q H1 hP1 hD1 hS1
theorem z_newq (i : Nat) {own C : String} {index N' : Nat} (hexec : p.tables.exec = Jvm.exec) (hb : c.code = cc) (hown : s.vm.findClass own = some m.cls) (hcl : (Cond.classLink own index C).before args s = true) (hover : va_AO C s) (hi : [(z 0, FieldType.int), (z 1, .object "FilledForOne$Comer"), (z 2, .object "FilledForOne$Kettle")][i]? = some (z i, .object C)) (hK : zK D z s) (hP : va_P D vwCl ws H) (hD : va_D A ws) (hS : va_S A s.heap H locs) (hA : ∀ q, s.heap.size ≤ q → A q) {n : Int32} (hn : ¬ n < 0) (hN : n.toNatClampNeg = N') (hbytes : N' * 4 ≤ 536870912) (hcells : cells + 1 ≤ R.cells) (hslots : slots + N' ≤ R.slots) (hdg : decode cc pc = .ok (.anewarray index, 3))
    (kk : ∀ (q : Nat) (H1 : Heap), va_P D vwCl (ws ++ [(q, .inl (z i, N', .inr (.inr (.inr (.inr (fun _ => none))))))]) H1 → va_D A (ws ++ [(q, .inl (z i, N', .inr (.inr (.inr (.inr (fun _ => none))))))]) → va_S A s.heap H1 locs → W p l e R s m args below meth c H1 locs (cells + 1) (slots + N') Q (F0 m (pc + 3) ls (.ref q :: rest))) : W p l e R s m args below meth c H locs cells slots Q (F0 m pc ls (.int n :: rest)) := by
  refine va_newq hexec hb hown hcl hover hK hP hD hS hA hn hN hbytes hcells hslots hdg (fun q cA H1 hK1 hP1 hD1 hS1 => ?_)
  have hc := zK_c i hi hK1
  subst hc
  exact kk q H1 hP1 hD1 hS1
theorem z_clone (hexec : p.tables.exec = Jvm.exec) (hb : c.code = cc) (hml : c.maxLocals = ls.size) {own : String} {index : Nat} (hown : s.vm.findClass own = some m.cls)
    (hlink : (Cond.methodLink own index ⟨"[I", "clone", "()Ljava/lang/Object;"⟩).before args s = true) (hsame : (Cond.sameMethod "[I" "java/lang/Object" "clone" "()Ljava/lang/Object;").before args s = true)
    (hnat : (Cond.native ⟨"java/lang/Object", "clone", "()Ljava/lang/Object;"⟩).before args s = true) (hinst : (Cond.instanceMethod ⟨"java/lang/Object", "clone", "()Ljava/lang/Object;"⟩).before args s = true)
    (hsel : (Cond.selects "[I" ⟨"[I", "clone", "()Ljava/lang/Object;"⟩ ⟨"java/lang/Object", "clone", "()Ljava/lang/Object;"⟩).before args s = true) (hcl : va_Nw (.castable "[I" "java/lang/Cloneable") s)
    (hK : zK D z s) (hP : va_P D vwCl ws H) (hD : va_D A ws) (hS : va_S A s.heap H locs) (hA : ∀ q, s.heap.size ≤ q → A q) (hF : zF a A s s.heap)
    (hframes : 1 ≤ R.frames) (hlocals : (rest.map fun v => v.category).sum + 14 ≤ R.locals) (hcells : cells + 1 ≤ R.cells) (hslots : slots + 8 ≤ R.slots) (hdg : decode cc pc = .ok (.invokevirtual index, 3))
    (kk : ∀ (q : Nat) (H1 : Heap), va_P D vwCl (ws ++ [(q, .inl (z 0, 8, .inl (fun j => [8, 1, 4, 3, 1, 2, 3, 1].getD j 0)))]) H1 → va_D A (ws ++ [(q, .inl (z 0, 8, .inl (fun j => [8, 1, 4, 3, 1, 2, 3, 1].getD j 0)))]) → va_S A s.heap H1 locs →
      W p l e R s m args below meth c H1 locs (cells + 1) (slots + 8) Q (F0 m (pc + 3) ls (.ref q :: rest))) : W p l e R s m args below meth c H locs cells slots Q (F0 m pc ls (.ref a :: rest)) := by
  obtain ⟨cell, g1, g2, g3, g4, g5, g6, g7⟩ := hF
  have hal : a < s.heap.size := (Array.getElem?_eq_some_iff.mp g1).1
  have gH : H[a]? = some cell := by rw [hS.2.1 a hal g7]; exact g1
  have hcls : cell.cls = z 0 := Option.some.inj (g6.symm.trans (va_nm_int (hK.2 0 _ rfl).2))
  have hcellE : ({ cls := cell.cls, slots := cell.slots } : Cell) = vp_cell (z 0) (8, .inl (fun j => [8, 1, 4, 3, 1, 2, 3, 1].getD j 0)) := by
    rw [hcls, vp_cell_i]
    unfold arrV
    congr 1
    apply Array.ext_getElem?
    intro i
    by_cases hi : i < 8
    · rw [g5 i hi]
      simp [hi]
    · rw [Array.getElem?_eq_none (by omega), Array.getElem?_eq_none (by simp; omega)]
  obtain ⟨c0, t0', f1, f2, f3⟩ := Cond.castable_spec (va_Nw.use (A := args) rfl hcl)
  cases g6.symm.trans f1
  intro T hT X
  have hcellT : T.heap[a]? = some cell := by rw [hT]; exact gH
  have hofT := State.isArrayOf_alike X.warmed.alike g2
  obtain ⟨hst, kA, hkA, comp, hkind⟩ := hofT
  obtain ⟨-, kS, hkS, compS, hkindS⟩ := g2
  obtain ⟨vm', X', st⟩ := X.cloneArray hexec hown hlink hsame hnat hinst hsel (a := a) (cell := cell) hcellT hst g3 g6 f2 f3
    (fun i v hv => by
      have hi : i < 8 := by rw [← g4]; exact (Array.getElem?_eq_some_iff.mp hv).1
      have hv2 := hv.symm.trans (g5 i hi)
      cases hv2
      have hk' : T.vm.classes[cell.cls]? = some kA := hkA
      simp [State.fitsSlot, State.slotType?, hk', hkind, fits])
    (g := F0 m pc ls (.ref a :: rest)) rfl (by rw [hml]) rfl (by rw [hb]; exact hdg) hframes (by show 2 * 0 + _ + 14 ≤ _; omega) hcells (by rw [g4]; exact hslots) (hloader := Vm.clonesLoader_of_array hkS hkindS)
  rw [hcellE, g4] at X'
  rw [hcellE] at st
  generalize hcl2 : vp_cell (z 0) (8, .inl (fun j => [8, 1, 4, 3, 1, 2, 3, 1].getD j 0)) = nc at X' st hcellE
  generalize hH1 : H.push nc = H1
  have z1 : H1.size = H.size + 1 := by rw [← hH1, Array.size_push]
  have e1 : H1[H.size]? = some nc := by rw [← hH1, Array.getElem?_push_size]
  have o1 : ∀ q : Nat, q < H.size → H1[q]? = H[q]? := fun q hq => by rw [← hH1, Array.getElem?_push, if_neg (Nat.ne_of_lt hq)]
  have hk : ∀ (k : Nat) (y : Nat × va_E), ws[k]? = some y → H1[y.1]? = H[y.1]? := fun k y hy => o1 y.1 ((hP k y hy).lt)
  obtain ⟨t, b1, b2⟩ := kk H.size H1 ((hP.kept hk).app (fun k y hy => by
      have hz : k < 1 := (List.getElem?_eq_some_iff.mp hy).1
      rw [show k = 0 by omega] at hy
      cases hy
      show H1[H.size]? = some (vp_cell _ _)
      rw [hcl2]
      exact e1)) (hD.push hP rfl (hA _ hS.1)) ⟨Nat.le_trans hS.1 (by omega), fun y h1 h2 => (o1 y (Nat.lt_of_lt_of_le h1 hS.1)).trans (hS.2.1 y h1 h2), hS.2.2⟩
    ((T.setVm vm').pushCell nc) (by rw [← hH1, ← hT]; rfl) X'
  refine ⟨t, st t ?_, b2⟩
  rw [hT]
  exact b1
end ZE3
