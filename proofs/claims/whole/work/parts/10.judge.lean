abbrev jty (D : va_G) : List (ClassId × FieldType) := [(D.1 100, .int), (D.1 101, .boolean)]
def rmk (k : Nat) : Room := { frames := k, cells := 0, slots := 0, locals := 40 * k }
def kE : String := "PostmanRounds$Kind"
def kN : List String := ["BOTH", "ONEWAY", "STEEP", "TOLL", "SLOW", "PARK"]
def kF : List (String × String × String × List Int32) := [("PostmanRounds$Kind", "times", "I", [1, 1, 1, 1, 2, 1]), ("PostmanRounds$Kind", "figuresOn", "I", [0, 0, 0, 1, 0, 0]), ("PostmanRounds$Kind", "figuresBack", "I", [0, 0, 1, 0, 1, 0]), ("PostmanRounds$Kind", "isBothWays", "Z", [1, 0, 1, 0, 1, 1]), ("PostmanRounds$Kind", "isToWalk", "Z", [1, 1, 1, 1, 1, 0])]
def kNM : List (String × Nat × MethodName) := [("PostmanRounds", 11, ⟨"PostmanRounds$Town", "<init>", "()V"⟩), ("PostmanRounds", 28, ⟨"PostmanRounds$Ways", "<init>", "()V"⟩), ("PostmanRounds$Ways", 11, ⟨"PostmanRounds$Town", "<init>", "()V"⟩), ("PostmanRounds", 35, ⟨"PostmanRounds$Tour", "<init>", "()V"⟩), ("PostmanRounds$Tour", 11, ⟨"PostmanRounds$Ways", "<init>", "()V"⟩), ("PostmanRounds", 42, ⟨"PostmanRounds$Pairs", "<init>", "()V"⟩), ("PostmanRounds", 49, ⟨"PostmanRounds$Splice", "<init>", "()V"⟩), ("PostmanRounds", 56, ⟨"PostmanRounds$Flow", "<init>", "()V"⟩), ("PostmanRounds", 63, ⟨"PostmanRounds$Deal", "<init>", "()V"⟩), ("PostmanRounds", 70, ⟨"PostmanRounds$Reader", "<init>", "()V"⟩), ("PostmanRounds$Reader", 84, ⟨"PostmanRounds", "isCorner", "(I)Z"⟩)]
def kNF : List (Nat × String) := [(57, "isToWalk"), (92, "isBothWays")]
/-- what stands outside every world, and is never written: the kinds, their list, the texts -/
def SF (D : va_G) (A : Nat → Prop) (U : State) (H : Heap) : Prop :=
  va_En kE "LPostmanRounds$Kind;" kN kF (D.2 100) A U H ∧ va_Z kE "ALL" "[LPostmanRounds$Kind;" (.ref (D.2 103 0)) A U H ∧ va_T (.object kE) (D.2 103 0) 6 (fun j => .ref (D.2 100 j)) A U H ∧
  vk_S 5 [5, 4, 2, 2, 0] [[99, 99, 100, 100, 59], [100, 100, 100, 59], [100, 59], [99, 59], []] (D.2 101) (D.2 102) A U H ∧ va_Z "java/lang/String" "COMPACT_STRINGS" "Z" (.int 1) A U H ∧ va_Zq "jdk/internal/util/Preconditions" "SIOOBE_FORMATTER" "Ljava/util/function/BiFunction;" A U H ∧
  (vk_R "PostmanRounds$Reader" 22 "ccdd;" (D.2 101 0) U ∧ vk_R "PostmanRounds$Reader" 24 "ddd;" (D.2 101 1) U ∧ vk_R "PostmanRounds$Reader" 26 "d;" (D.2 101 2) U ∧ vk_R "PostmanRounds$Reader" 28 "c;" (D.2 101 3) U ∧ vk_R "PostmanRounds$Reader" 30 "" (D.2 101 4) U) ∧ (∀ q ∈ kNM, va_Nw (.methodLinkNest q.1 q.2.1 q.2.2 "PostmanRounds") U) ∧ ∀ q ∈ kNF, va_Nw (.fieldLinkNest "PostmanRounds$Town" q.1 "PostmanRounds$Kind" q.2 "Z" "PostmanRounds") U
theorem SF.warm {D : va_G} {A : Nat → Prop} {s U : State} {H : Heap} (hW : s.WarmedH U.vm) (h : SF D A s H) : SF D A U H := by
  obtain ⟨h1, h2, h3, h4, h5, h6, ⟨r1, r2, r3, r4, r5⟩, n1, n2⟩ := h
  exact ⟨va_En.moved hW.alike h1, va_Z.moved hW.alike h2, va_T.moved hW.alike h3, vk_S.moved hW.alike h4, va_Z.moved hW.alike h5, va_Zq.moved hW.alike h6, ⟨vk_R.warm hW r1, vk_R.warm hW r2, vk_R.warm hW r3, vk_R.warm hW r4, vk_R.warm hW r5⟩, fun q hq => va_Nw.warmM hW (n1 q hq), fun q hq => va_Nw.warmF hW (n2 q hq)⟩
theorem SF.same {D : va_G} {A : Nat → Prop} {s U : State} {H : Heap} (hv : U.vm = s.vm) (h : SF D A s H) : SF D A U H := by
  have ha : s.vm.Alike U.vm := by rw [hv]; exact Vm.Alike.refl _
  obtain ⟨h1, h2, h3, h4, h5, h6, ⟨r1, r2, r3, r4, r5⟩, n1, n2⟩ := h
  exact ⟨va_En.moved ha h1, va_Z.moved ha h2, va_T.moved ha h3, vk_S.moved ha h4, va_Z.moved ha h5, va_Zq.moved ha h6, ⟨vk_R.same hv r1, vk_R.same hv r2, vk_R.same hv r3, vk_R.same hv r4, vk_R.same hv r5⟩, fun q hq => va_Nw.same rfl hv.symm (n1 q hq), fun q hq => va_Nw.same rfl hv.symm (n2 q hq)⟩
theorem SF.kept {D : va_G} {A B : Nat → Prop} {U : State} {H H1 : Heap} (hq : ∀ a : Nat, a < H.size → ¬ A a → H1[a]? = H[a]?) (hAB : ∀ q, B q → A q) (h : SF D A U H) : SF D B U H1 := by
  obtain ⟨h1, h2, h3, h4, h5, h6, r⟩ := h
  exact ⟨(h1.kept hq).narrow hAB, (h2.kept hq).narrow hAB, (h3.kept hq).narrow hAB, (h4.kept hq).narrow hAB, (h5.kept hq).narrow hAB, (h6.kept hq).narrow hAB, r⟩
/-- all that is fixed while a method's body runs: p l e R s m args below meth c D A Q cells slots nL -/
abbrev GT : Type := Program × Launch × Env × Room × State × MethodId × Array Value × List Frame × Method × Code × va_G × (Nat → Prop) × (State → Prop) × Nat × Nat × Nat
def J (g : GT) (ws : va_W) (lv : List (Nat × Value)) (pc : Nat) (st : List Value) : Prop :=
  match g with
  | (p, l, e, R, s, m, args, below, meth, c, D, A, Q, cells, slots, nL) =>
    ∀ (H : Heap) (locs : List Loc) (ls : Array Slot), va_P D vwCl ws H → va_D A ws → va_S A s.heap H locs → lv_has ls nL lv → W p l e R s m args below meth c H locs cells slots Q (F0 m pc ls st)
def Cx (g : GT) (own : String) (cc : ByteArray) (k n : Nat) : Prop :=
  match g with
  | (p, _, _, R, s, m, args, _, _, c, D, A, _, cells, slots, nL) =>
    nL = n ∧ p.tables.exec = Jvm.exec ∧ c.code = cc ∧ c.maxLocals = nL ∧ s.vm.findClass own = some m.cls ∧ (∀ w ∈ lw_gd, w.before args s = true) ∧ va_K D vwCl (jty D) s ∧ k ≤ R.frames ∧ 40 * k ≤ R.locals ∧ cells ≤ R.cells ∧ slots ≤ R.slots ∧ (∀ q : Nat, s.heap.size ≤ q → A q) ∧ SF D A s s.heap
def gl (g : GT) : Launch := g.2.1
def gD (g : GT) : va_G := g.2.2.2.2.2.2.2.2.2.2.1
def gnL (g : GT) : Nat := g.2.2.2.2.2.2.2.2.2.2.2.2.2.2.2
def lvg : List (Nat × Value) → Nat → Option Value
  | [], _ => none
  | q :: l, i => if q.1 = i then some q.2 else lvg l i
theorem lvg_mem {l : List (Nat × Value)} {i : Nat} {v : Value} (h : lvg l i = some v) : (i, v) ∈ l := by
  induction l with
  | nil => cases h
  | cons q l ih =>
    unfold lvg at h
    split at h
    · rename_i e
      cases h
      rw [← e]
      exact List.mem_cons_self
    · exact List.mem_cons_of_mem _ (ih h)
theorem lvg_at {ls : Array Slot} {nL : Nat} {l : List (Nat × Value)} (h : lv_has ls nL l) {i : Nat} {v : Value} (hk : lvg l i = some v) : ls[i]? = some (.val v) := h.2.2 (i, v) (lvg_mem hk)
def lvs (lv : List (Nat × Value)) (i : Nat) (v : Value) : List (Nat × Value) := (i, v) :: lv.filter (fun q => !(q.1 == i) && !(q.1 + 1 == i && q.2.category == 2))
def lvs2 (lv : List (Nat × Value)) (i : Nat) (v : Value) : List (Nat × Value) := (i, v) :: lv.filter (fun q => !(q.1 == i) && (!(q.1 == i + 1) && !(q.1 + 1 == i && q.2.category == 2)))
theorem j_lv {g : GT} {ws : va_W} {lv lv' : List (Nat × Value)} {pc : Nat} {st : List Value} (hs : lv'.map (fun q => lvg lv q.1) = lv'.map (fun q => some q.2)) (kk : J g ws lv' pc st) : J g ws lv pc st := by
  obtain ⟨p, l, e, R, s, m, args, below, meth, c, D, A, Q, cells, slots, nL⟩ := g
  intro H locs ls hP hD hS hl
  refine kk H locs ls hP hD hS ⟨hl.1, hl.2.1, fun q hq => ?_⟩
  exact lvg_at hl (List.map_inj_left.mp hs q hq)
/-- a test that fails where the machine would throw -/
def ga {α : Type} (i : Int32) (n : Nat) (X : Option α) : Option α := if 0 ≤ i.toInt ∧ i.toInt < (n : Int) then X else none
def gd {α : Type} (y : Int32) (X : Option α) : Option α := if y = 0 then none else X
def gdl {α : Type} (y : Int64) (X : Option α) : Option α := if y = 0 then none else X
theorem of_ga {α : Type} {i : Int32} {n : Nat} {X : Option α} {o : α} (h : ga i n X = some o) : vp_in i n ∧ X = some o := by
  unfold ga at h
  split at h
  · rename_i hc
    exact ⟨vp_in_iff.mpr hc, h⟩
  · cases h
theorem of_gd {α : Type} {y : Int32} {X : Option α} {o : α} (h : gd y X = some o) : (¬ y = 0) ∧ X = some o := by
  unfold gd at h
  split at h
  · cases h
  · rename_i hc
    exact ⟨hc, h⟩
theorem of_gdl {α : Type} {y : Int64} {X : Option α} {o : α} (h : gdl y X = some o) : (¬ y = 0) ∧ X = some o := by
  unfold gdl at h
  split at h
  · cases h
  · rename_i hc
    exact ⟨hc, h⟩
theorem of_bind {α β : Type} {x : Option α} {f : α → Option β} {o : β} (h : x.bind f = some o) : ∃ r, x = some r ∧ f r = some o := by
  cases x with
  | none => cases h
  | some r => exact ⟨r, rfl, h⟩
/-- a loop: its body goes on (inl) or leaves (inr) -/
def lp {S E : Type} (b : S → Option (S ⊕ E)) : Nat → S → Option E
  | 0, _ => none
  | n + 1, s => match b s with
    | none => none
    | some (.inl s') => lp b n s'
    | some (.inr e) => some e
theorem lp_ind {S E : Type} {b : S → Option (S ⊕ E)} {N : Nat} {s0 : S} {e : E} (h : lp b N s0 = some e) (P : S → Prop)
    (hb : ∀ (s : S) (r : S ⊕ E), b s = some r → (∀ s', r = .inl s' → P s') → (∀ e', r = .inr e' → e' = e) → P s) : P s0 := by
  induction N generalizing s0 with
  | zero => cases h
  | succ n ih =>
    unfold lp at h
    split at h
    · cases h
    · rename_i s' hs
      exact hb s0 _ hs (fun s2 e2 => by cases e2; exact ih h) (fun e2 h2 => by cases h2)
    · rename_i e' hs
      cases h
      exact hb s0 _ hs (fun s2 e2 => by cases e2) (fun e2 h2 => by cases h2; rfl)
theorem j_case {c : Prop} [Decidable c] {α : Type} {X Y : Option α} {o : α} {G : Prop} (h : (if c then X else Y) = some o) (k1 : c → X = some o → G) (k2 : ¬ c → Y = some o → G) : G := by
  split at h
  · rename_i hc; exact k1 hc h
  · rename_i hc; exact k2 hc h
theorem iteP {α : Type} {c : Prop} [Decidable c] {a b : α} (P : α → Prop) (hc : c) (h : P (if c then a else b)) : P a := by rw [if_pos hc] at h; exact h
theorem iteN {α : Type} {c : Prop} [Decidable c] {a b : α} (P : α → Prop) (hc : ¬ c) (h : P (if c then a else b)) : P b := by rw [if_neg hc] at h; exact h

theorem j_iconst {g : GT} {own : String} {cc : ByteArray} {k nL9 : Nat} {ws : va_W} {lv : List (Nat × Value)} {pc : Nat} {st : List Value} (C : Cx g own cc k nL9) {n : Int} (v : Int32) (hdg : decode cc pc = .ok (.iconst n, 1)) (hv : Int32.ofInt n = v) (kk : J g ws lv (pc + 1) (.int v :: st)) : J g ws lv pc (st) := by
  obtain ⟨p, l, e, R, s, m, args, below, meth, c, D, A, Q, cells, slots, nL⟩ := g
  obtain ⟨rfl, hx, hb, hml, hown, hts, hK, hkf, hkl, hce, hsl, hA, hF⟩ := C
  intro H locs ls hP hD hS hl
  exact lv_iconst hx hb hdg hv (kk H locs ls hP hD hS hl)
theorem j_bipush {g : GT} {own : String} {cc : ByteArray} {k nL9 : Nat} {ws : va_W} {lv : List (Nat × Value)} {pc : Nat} {st : List Value} (C : Cx g own cc k nL9) {n : Int} (v : Int32) (hdg : decode cc pc = .ok (.bipush n, 2)) (hv : (Int8.ofInt n).toInt32 = v) (kk : J g ws lv (pc + 2) (.int v :: st)) : J g ws lv pc (st) := by
  obtain ⟨p, l, e, R, s, m, args, below, meth, c, D, A, Q, cells, slots, nL⟩ := g
  obtain ⟨rfl, hx, hb, hml, hown, hts, hK, hkf, hkl, hce, hsl, hA, hF⟩ := C
  intro H locs ls hP hD hS hl
  exact lv_bipush hx hb hdg hv (kk H locs ls hP hD hS hl)
theorem j_sipush {g : GT} {own : String} {cc : ByteArray} {k nL9 : Nat} {ws : va_W} {lv : List (Nat × Value)} {pc : Nat} {st : List Value} (C : Cx g own cc k nL9) {n : Int} (v : Int32) (hdg : decode cc pc = .ok (.sipush n, 3)) (hv : (Int16.ofInt n).toInt32 = v) (kk : J g ws lv (pc + 3) (.int v :: st)) : J g ws lv pc (st) := by
  obtain ⟨p, l, e, R, s, m, args, below, meth, c, D, A, Q, cells, slots, nL⟩ := g
  obtain ⟨rfl, hx, hb, hml, hown, hts, hK, hkf, hkl, hce, hsl, hA, hF⟩ := C
  intro H locs ls hP hD hS hl
  exact lv_sipush hx hb hdg hv (kk H locs ls hP hD hS hl)
theorem j_lconst {g : GT} {own : String} {cc : ByteArray} {k nL9 : Nat} {ws : va_W} {lv : List (Nat × Value)} {pc : Nat} {st : List Value} (C : Cx g own cc k nL9) {n : Fin 2} (v : Int64) (hdg : decode cc pc = .ok (.lconst n, 1)) (hv : Int64.ofNat (n : Nat) = v) (kk : J g ws lv (pc + 1) (.long v :: st)) : J g ws lv pc (st) := by
  obtain ⟨p, l, e, R, s, m, args, below, meth, c, D, A, Q, cells, slots, nL⟩ := g
  obtain ⟨rfl, hx, hb, hml, hown, hts, hK, hkf, hkl, hce, hsl, hA, hF⟩ := C
  intro H locs ls hP hD hS hl
  exact lv_lconst hx hb hdg hv (kk H locs ls hP hD hS hl)
theorem j_fconst0 {g : GT} {own : String} {cc : ByteArray} {k nL9 : Nat} {ws : va_W} {lv : List (Nat × Value)} {pc : Nat} {st : List Value} (C : Cx g own cc k nL9)  (hdg : decode cc pc = .ok (.fconst 0, 1))  (kk : J g ws lv (pc + 1) (.float FP.fconst0 :: st)) : J g ws lv pc (st) := by
  obtain ⟨p, l, e, R, s, m, args, below, meth, c, D, A, Q, cells, slots, nL⟩ := g
  obtain ⟨rfl, hx, hb, hml, hown, hts, hK, hkf, hkl, hce, hsl, hA, hF⟩ := C
  intro H locs ls hP hD hS hl
  exact lv_fconst0 hx hb hdg  (kk H locs ls hP hD hS hl)
theorem j_fconst2 {g : GT} {own : String} {cc : ByteArray} {k nL9 : Nat} {ws : va_W} {lv : List (Nat × Value)} {pc : Nat} {st : List Value} (C : Cx g own cc k nL9)  (hdg : decode cc pc = .ok (.fconst 2, 1))  (kk : J g ws lv (pc + 1) (.float FP.fconst2 :: st)) : J g ws lv pc (st) := by
  obtain ⟨p, l, e, R, s, m, args, below, meth, c, D, A, Q, cells, slots, nL⟩ := g
  obtain ⟨rfl, hx, hb, hml, hown, hts, hK, hkf, hkl, hce, hsl, hA, hF⟩ := C
  intro H locs ls hP hD hS hl
  exact lv_fconst2 hx hb hdg  (kk H locs ls hP hD hS hl)
theorem j_dconst0 {g : GT} {own : String} {cc : ByteArray} {k nL9 : Nat} {ws : va_W} {lv : List (Nat × Value)} {pc : Nat} {st : List Value} (C : Cx g own cc k nL9)  (hdg : decode cc pc = .ok (.dconst 0, 1))  (kk : J g ws lv (pc + 1) (.double FP.dconst0 :: st)) : J g ws lv pc (st) := by
  obtain ⟨p, l, e, R, s, m, args, below, meth, c, D, A, Q, cells, slots, nL⟩ := g
  obtain ⟨rfl, hx, hb, hml, hown, hts, hK, hkf, hkl, hce, hsl, hA, hF⟩ := C
  intro H locs ls hP hD hS hl
  exact lv_dconst0 hx hb hdg  (kk H locs ls hP hD hS hl)
theorem j_iload_n {g : GT} {own : String} {cc : ByteArray} {k nL9 : Nat} {ws : va_W} {lv : List (Nat × Value)} {pc : Nat} {st : List Value} (C : Cx g own cc k nL9) {i : Fin 4} {x : Int32} (hdg : decode cc pc = .ok (.iload_n i, 1)) (hq : lvg lv (i : Nat) = some (.int x)) (kk : J g ws lv (pc + 1) (.int x :: st)) : J g ws lv pc (st) := by
  obtain ⟨p, l, e, R, s, m, args, below, meth, c, D, A, Q, cells, slots, nL⟩ := g
  obtain ⟨rfl, hx, hb, hml, hown, hts, hK, hkf, hkl, hce, hsl, hA, hF⟩ := C
  intro H locs ls hP hD hS hl
  exact lv_iload_n hx hb hdg rfl (lvg_at hl hq) (kk H locs ls hP hD hS hl)
theorem j_iload {g : GT} {own : String} {cc : ByteArray} {k nL9 : Nat} {ws : va_W} {lv : List (Nat × Value)} {pc : Nat} {st : List Value} (C : Cx g own cc k nL9) {i : Nat} {x : Int32} (hdg : decode cc pc = .ok (.iload i, 2)) (hq : lvg lv i = some (.int x)) (kk : J g ws lv (pc + 2) (.int x :: st)) : J g ws lv pc (st) := by
  obtain ⟨p, l, e, R, s, m, args, below, meth, c, D, A, Q, cells, slots, nL⟩ := g
  obtain ⟨rfl, hx, hb, hml, hown, hts, hK, hkf, hkl, hce, hsl, hA, hF⟩ := C
  intro H locs ls hP hD hS hl
  exact lv_iload hx hb hdg (lvg_at hl hq) (kk H locs ls hP hD hS hl)
theorem j_istore_n {g : GT} {own : String} {cc : ByteArray} {k nL9 : Nat} {ws : va_W} {lv : List (Nat × Value)} {pc : Nat} {st : List Value} (C : Cx g own cc k nL9) {i : Fin 4} {x : Int32} (hdg : decode cc pc = .ok (.istore_n i, 1)) (hn : (i : Nat) < nL9) (kk : J g ws (lvs lv i (.int x)) (pc + 1) (st)) : J g ws lv pc (.int x :: st) := by
  obtain ⟨p, l, e, R, s, m, args, below, meth, c, D, A, Q, cells, slots, nL⟩ := g
  obtain ⟨rfl, hx, hb, hml, hown, hts, hK, hkf, hkl, hce, hsl, hA, hF⟩ := C
  intro H locs ls hP hD hS hl
  exact lv_istore_n hx hb hdg rfl hl hn rfl (fun ls' hl' => kk H locs ls' hP hD hS hl')
theorem j_istore {g : GT} {own : String} {cc : ByteArray} {k nL9 : Nat} {ws : va_W} {lv : List (Nat × Value)} {pc : Nat} {st : List Value} (C : Cx g own cc k nL9) {i : Nat} {x : Int32} (hdg : decode cc pc = .ok (.istore i, 2)) (hn : i < nL9) (kk : J g ws (lvs lv i (.int x)) (pc + 2) (st)) : J g ws lv pc (.int x :: st) := by
  obtain ⟨p, l, e, R, s, m, args, below, meth, c, D, A, Q, cells, slots, nL⟩ := g
  obtain ⟨rfl, hx, hb, hml, hown, hts, hK, hkf, hkl, hce, hsl, hA, hF⟩ := C
  intro H locs ls hP hD hS hl
  exact lv_istore hx hb hdg hl hn rfl (fun ls' hl' => kk H locs ls' hP hD hS hl')
theorem j_lload_n {g : GT} {own : String} {cc : ByteArray} {k nL9 : Nat} {ws : va_W} {lv : List (Nat × Value)} {pc : Nat} {st : List Value} (C : Cx g own cc k nL9) {i : Fin 4} {x : Int64} (hdg : decode cc pc = .ok (.lload_n i, 1)) (hq : lvg lv (i : Nat) = some (.long x)) (kk : J g ws lv (pc + 1) (.long x :: st)) : J g ws lv pc (st) := by
  obtain ⟨p, l, e, R, s, m, args, below, meth, c, D, A, Q, cells, slots, nL⟩ := g
  obtain ⟨rfl, hx, hb, hml, hown, hts, hK, hkf, hkl, hce, hsl, hA, hF⟩ := C
  intro H locs ls hP hD hS hl
  exact lv_lload_n hx hb hdg rfl (lvg_at hl hq) (kk H locs ls hP hD hS hl)
theorem j_lload {g : GT} {own : String} {cc : ByteArray} {k nL9 : Nat} {ws : va_W} {lv : List (Nat × Value)} {pc : Nat} {st : List Value} (C : Cx g own cc k nL9) {i : Nat} {x : Int64} (hdg : decode cc pc = .ok (.lload i, 2)) (hq : lvg lv i = some (.long x)) (kk : J g ws lv (pc + 2) (.long x :: st)) : J g ws lv pc (st) := by
  obtain ⟨p, l, e, R, s, m, args, below, meth, c, D, A, Q, cells, slots, nL⟩ := g
  obtain ⟨rfl, hx, hb, hml, hown, hts, hK, hkf, hkl, hce, hsl, hA, hF⟩ := C
  intro H locs ls hP hD hS hl
  exact lv_lload hx hb hdg (lvg_at hl hq) (kk H locs ls hP hD hS hl)
theorem j_lstore_n {g : GT} {own : String} {cc : ByteArray} {k nL9 : Nat} {ws : va_W} {lv : List (Nat × Value)} {pc : Nat} {st : List Value} (C : Cx g own cc k nL9) {i : Fin 4} {x : Int64} (hdg : decode cc pc = .ok (.lstore_n i, 1)) (hn : (i : Nat) + 1 < nL9) (kk : J g ws (lvs2 lv i (.long x)) (pc + 1) (st)) : J g ws lv pc (.long x :: st) := by
  obtain ⟨p, l, e, R, s, m, args, below, meth, c, D, A, Q, cells, slots, nL⟩ := g
  obtain ⟨rfl, hx, hb, hml, hown, hts, hK, hkf, hkl, hce, hsl, hA, hF⟩ := C
  intro H locs ls hP hD hS hl
  exact lv_lstore_n hx hb hdg rfl hl hn rfl (fun ls' hl' => kk H locs ls' hP hD hS hl')
theorem j_lstore {g : GT} {own : String} {cc : ByteArray} {k nL9 : Nat} {ws : va_W} {lv : List (Nat × Value)} {pc : Nat} {st : List Value} (C : Cx g own cc k nL9) {i : Nat} {x : Int64} (hdg : decode cc pc = .ok (.lstore i, 2)) (hn : i + 1 < nL9) (kk : J g ws (lvs2 lv i (.long x)) (pc + 2) (st)) : J g ws lv pc (.long x :: st) := by
  obtain ⟨p, l, e, R, s, m, args, below, meth, c, D, A, Q, cells, slots, nL⟩ := g
  obtain ⟨rfl, hx, hb, hml, hown, hts, hK, hkf, hkl, hce, hsl, hA, hF⟩ := C
  intro H locs ls hP hD hS hl
  exact lv_lstore hx hb hdg hl hn rfl (fun ls' hl' => kk H locs ls' hP hD hS hl')
theorem j_aload_n {g : GT} {own : String} {cc : ByteArray} {k nL9 : Nat} {ws : va_W} {lv : List (Nat × Value)} {pc : Nat} {st : List Value} (C : Cx g own cc k nL9) {i : Fin 4} {x : Nat} (hdg : decode cc pc = .ok (.aload_n i, 1)) (hq : lvg lv (i : Nat) = some (.ref x)) (kk : J g ws lv (pc + 1) (.ref x :: st)) : J g ws lv pc (st) := by
  obtain ⟨p, l, e, R, s, m, args, below, meth, c, D, A, Q, cells, slots, nL⟩ := g
  obtain ⟨rfl, hx, hb, hml, hown, hts, hK, hkf, hkl, hce, hsl, hA, hF⟩ := C
  intro H locs ls hP hD hS hl
  exact lv_aload_n hx hb hdg rfl (lvg_at hl hq) (kk H locs ls hP hD hS hl)
theorem j_aload {g : GT} {own : String} {cc : ByteArray} {k nL9 : Nat} {ws : va_W} {lv : List (Nat × Value)} {pc : Nat} {st : List Value} (C : Cx g own cc k nL9) {i : Nat} {x : Nat} (hdg : decode cc pc = .ok (.aload i, 2)) (hq : lvg lv i = some (.ref x)) (kk : J g ws lv (pc + 2) (.ref x :: st)) : J g ws lv pc (st) := by
  obtain ⟨p, l, e, R, s, m, args, below, meth, c, D, A, Q, cells, slots, nL⟩ := g
  obtain ⟨rfl, hx, hb, hml, hown, hts, hK, hkf, hkl, hce, hsl, hA, hF⟩ := C
  intro H locs ls hP hD hS hl
  exact lv_aload hx hb hdg (lvg_at hl hq) (kk H locs ls hP hD hS hl)
theorem j_astore_n {g : GT} {own : String} {cc : ByteArray} {k nL9 : Nat} {ws : va_W} {lv : List (Nat × Value)} {pc : Nat} {st : List Value} (C : Cx g own cc k nL9) {i : Fin 4} {x : Nat} (hdg : decode cc pc = .ok (.astore_n i, 1)) (hn : (i : Nat) < nL9) (kk : J g ws (lvs lv i (.ref x)) (pc + 1) (st)) : J g ws lv pc (.ref x :: st) := by
  obtain ⟨p, l, e, R, s, m, args, below, meth, c, D, A, Q, cells, slots, nL⟩ := g
  obtain ⟨rfl, hx, hb, hml, hown, hts, hK, hkf, hkl, hce, hsl, hA, hF⟩ := C
  intro H locs ls hP hD hS hl
  exact lv_astore_n hx hb hdg rfl hl hn rfl (fun ls' hl' => kk H locs ls' hP hD hS hl')
theorem j_astore {g : GT} {own : String} {cc : ByteArray} {k nL9 : Nat} {ws : va_W} {lv : List (Nat × Value)} {pc : Nat} {st : List Value} (C : Cx g own cc k nL9) {i : Nat} {x : Nat} (hdg : decode cc pc = .ok (.astore i, 2)) (hn : i < nL9) (kk : J g ws (lvs lv i (.ref x)) (pc + 2) (st)) : J g ws lv pc (.ref x :: st) := by
  obtain ⟨p, l, e, R, s, m, args, below, meth, c, D, A, Q, cells, slots, nL⟩ := g
  obtain ⟨rfl, hx, hb, hml, hown, hts, hK, hkf, hkl, hce, hsl, hA, hF⟩ := C
  intro H locs ls hP hD hS hl
  exact lv_astore hx hb hdg hl hn rfl (fun ls' hl' => kk H locs ls' hP hD hS hl')
theorem j_fload_n {g : GT} {own : String} {cc : ByteArray} {k nL9 : Nat} {ws : va_W} {lv : List (Nat × Value)} {pc : Nat} {st : List Value} (C : Cx g own cc k nL9) {i : Fin 4} {x : UInt32} (hdg : decode cc pc = .ok (.fload_n i, 1)) (hq : lvg lv (i : Nat) = some (.float x)) (kk : J g ws lv (pc + 1) (.float x :: st)) : J g ws lv pc (st) := by
  obtain ⟨p, l, e, R, s, m, args, below, meth, c, D, A, Q, cells, slots, nL⟩ := g
  obtain ⟨rfl, hx, hb, hml, hown, hts, hK, hkf, hkl, hce, hsl, hA, hF⟩ := C
  intro H locs ls hP hD hS hl
  exact lv_fload_n hx hb hdg rfl (lvg_at hl hq) (kk H locs ls hP hD hS hl)
theorem j_fload {g : GT} {own : String} {cc : ByteArray} {k nL9 : Nat} {ws : va_W} {lv : List (Nat × Value)} {pc : Nat} {st : List Value} (C : Cx g own cc k nL9) {i : Nat} {x : UInt32} (hdg : decode cc pc = .ok (.fload i, 2)) (hq : lvg lv i = some (.float x)) (kk : J g ws lv (pc + 2) (.float x :: st)) : J g ws lv pc (st) := by
  obtain ⟨p, l, e, R, s, m, args, below, meth, c, D, A, Q, cells, slots, nL⟩ := g
  obtain ⟨rfl, hx, hb, hml, hown, hts, hK, hkf, hkl, hce, hsl, hA, hF⟩ := C
  intro H locs ls hP hD hS hl
  exact lv_fload hx hb hdg (lvg_at hl hq) (kk H locs ls hP hD hS hl)
theorem j_fstore_n {g : GT} {own : String} {cc : ByteArray} {k nL9 : Nat} {ws : va_W} {lv : List (Nat × Value)} {pc : Nat} {st : List Value} (C : Cx g own cc k nL9) {i : Fin 4} {x : UInt32} (hdg : decode cc pc = .ok (.fstore_n i, 1)) (hn : (i : Nat) < nL9) (kk : J g ws (lvs lv i (.float x)) (pc + 1) (st)) : J g ws lv pc (.float x :: st) := by
  obtain ⟨p, l, e, R, s, m, args, below, meth, c, D, A, Q, cells, slots, nL⟩ := g
  obtain ⟨rfl, hx, hb, hml, hown, hts, hK, hkf, hkl, hce, hsl, hA, hF⟩ := C
  intro H locs ls hP hD hS hl
  exact lv_fstore_n hx hb hdg rfl hl hn rfl (fun ls' hl' => kk H locs ls' hP hD hS hl')
theorem j_fstore {g : GT} {own : String} {cc : ByteArray} {k nL9 : Nat} {ws : va_W} {lv : List (Nat × Value)} {pc : Nat} {st : List Value} (C : Cx g own cc k nL9) {i : Nat} {x : UInt32} (hdg : decode cc pc = .ok (.fstore i, 2)) (hn : i < nL9) (kk : J g ws (lvs lv i (.float x)) (pc + 2) (st)) : J g ws lv pc (.float x :: st) := by
  obtain ⟨p, l, e, R, s, m, args, below, meth, c, D, A, Q, cells, slots, nL⟩ := g
  obtain ⟨rfl, hx, hb, hml, hown, hts, hK, hkf, hkl, hce, hsl, hA, hF⟩ := C
  intro H locs ls hP hD hS hl
  exact lv_fstore hx hb hdg hl hn rfl (fun ls' hl' => kk H locs ls' hP hD hS hl')
theorem j_dload_n {g : GT} {own : String} {cc : ByteArray} {k nL9 : Nat} {ws : va_W} {lv : List (Nat × Value)} {pc : Nat} {st : List Value} (C : Cx g own cc k nL9) {i : Fin 4} {x : UInt64} (hdg : decode cc pc = .ok (.dload_n i, 1)) (hq : lvg lv (i : Nat) = some (.double x)) (kk : J g ws lv (pc + 1) (.double x :: st)) : J g ws lv pc (st) := by
  obtain ⟨p, l, e, R, s, m, args, below, meth, c, D, A, Q, cells, slots, nL⟩ := g
  obtain ⟨rfl, hx, hb, hml, hown, hts, hK, hkf, hkl, hce, hsl, hA, hF⟩ := C
  intro H locs ls hP hD hS hl
  exact lv_dload_n hx hb hdg rfl (lvg_at hl hq) (kk H locs ls hP hD hS hl)
theorem j_dload {g : GT} {own : String} {cc : ByteArray} {k nL9 : Nat} {ws : va_W} {lv : List (Nat × Value)} {pc : Nat} {st : List Value} (C : Cx g own cc k nL9) {i : Nat} {x : UInt64} (hdg : decode cc pc = .ok (.dload i, 2)) (hq : lvg lv i = some (.double x)) (kk : J g ws lv (pc + 2) (.double x :: st)) : J g ws lv pc (st) := by
  obtain ⟨p, l, e, R, s, m, args, below, meth, c, D, A, Q, cells, slots, nL⟩ := g
  obtain ⟨rfl, hx, hb, hml, hown, hts, hK, hkf, hkl, hce, hsl, hA, hF⟩ := C
  intro H locs ls hP hD hS hl
  exact lv_dload hx hb hdg (lvg_at hl hq) (kk H locs ls hP hD hS hl)
theorem j_dstore_n {g : GT} {own : String} {cc : ByteArray} {k nL9 : Nat} {ws : va_W} {lv : List (Nat × Value)} {pc : Nat} {st : List Value} (C : Cx g own cc k nL9) {i : Fin 4} {x : UInt64} (hdg : decode cc pc = .ok (.dstore_n i, 1)) (hn : (i : Nat) + 1 < nL9) (kk : J g ws (lvs2 lv i (.double x)) (pc + 1) (st)) : J g ws lv pc (.double x :: st) := by
  obtain ⟨p, l, e, R, s, m, args, below, meth, c, D, A, Q, cells, slots, nL⟩ := g
  obtain ⟨rfl, hx, hb, hml, hown, hts, hK, hkf, hkl, hce, hsl, hA, hF⟩ := C
  intro H locs ls hP hD hS hl
  exact lv_dstore_n hx hb hdg rfl hl hn rfl (fun ls' hl' => kk H locs ls' hP hD hS hl')
theorem j_dstore {g : GT} {own : String} {cc : ByteArray} {k nL9 : Nat} {ws : va_W} {lv : List (Nat × Value)} {pc : Nat} {st : List Value} (C : Cx g own cc k nL9) {i : Nat} {x : UInt64} (hdg : decode cc pc = .ok (.dstore i, 2)) (hn : i + 1 < nL9) (kk : J g ws (lvs2 lv i (.double x)) (pc + 2) (st)) : J g ws lv pc (.double x :: st) := by
  obtain ⟨p, l, e, R, s, m, args, below, meth, c, D, A, Q, cells, slots, nL⟩ := g
  obtain ⟨rfl, hx, hb, hml, hown, hts, hK, hkf, hkl, hce, hsl, hA, hF⟩ := C
  intro H locs ls hP hD hS hl
  exact lv_dstore hx hb hdg hl hn rfl (fun ls' hl' => kk H locs ls' hP hD hS hl')
theorem lvg_idx {l : List (Nat × Value)} {i : Nat} {v : Value} (h : lvg l i = some v) : ∃ k : Nat, l[k]? = some (i, v) := List.getElem?_of_mem (lvg_mem h)
theorem j_iinc {g : GT} {own : String} {cc : ByteArray} {k nL9 : Nat} {ws : va_W} {lv : List (Nat × Value)} {pc : Nat} {st : List Value} (C : Cx g own cc k nL9) {i : Nat} {n : Int} {x : Int32} (v : Int32) (hdg : decode cc pc = .ok (.iinc i n, 3)) (hq : lvg lv i = some (.int x)) (hv : x + Int32.ofInt n = v) (hn : i < nL9) (kk : J g ws (lvs lv i (.int v)) (pc + 3) (st)) : J g ws lv pc (st) := by
  obtain ⟨p, l, e, R, s, m, args, below, meth, c, D, A, Q, cells, slots, nL⟩ := g
  obtain ⟨rfl, hx, hb, hml, hown, hts, hK, hkf, hkl, hce, hsl, hA, hF⟩ := C
  intro H locs ls hP hD hS hl
  obtain ⟨k9, hk9⟩ := lvg_idx hq
  exact lv_iinc hx hb hdg hl hk9 hv hn rfl (fun ls' hl' => kk H locs ls' hP hD hS hl')
theorem j_iadd {g : GT} {own : String} {cc : ByteArray} {k nL9 : Nat} {ws : va_W} {lv : List (Nat × Value)} {pc : Nat} {st : List Value} (C : Cx g own cc k nL9) {x y : Int32} (hdg : decode cc pc = .ok (.iadd, 1))  (kk : J g ws lv (pc + 1) (.int (x + y) :: st)) : J g ws lv pc (.int y :: .int x :: st) := by
  obtain ⟨p, l, e, R, s, m, args, below, meth, c, D, A, Q, cells, slots, nL⟩ := g
  obtain ⟨rfl, hx, hb, hml, hown, hts, hK, hkf, hkl, hce, hsl, hA, hF⟩ := C
  intro H locs ls hP hD hS hl
  exact lv_iadd hx hb hdg  (kk H locs ls hP hD hS hl)
theorem j_isub {g : GT} {own : String} {cc : ByteArray} {k nL9 : Nat} {ws : va_W} {lv : List (Nat × Value)} {pc : Nat} {st : List Value} (C : Cx g own cc k nL9) {x y : Int32} (hdg : decode cc pc = .ok (.isub, 1))  (kk : J g ws lv (pc + 1) (.int (x - y) :: st)) : J g ws lv pc (.int y :: .int x :: st) := by
  obtain ⟨p, l, e, R, s, m, args, below, meth, c, D, A, Q, cells, slots, nL⟩ := g
  obtain ⟨rfl, hx, hb, hml, hown, hts, hK, hkf, hkl, hce, hsl, hA, hF⟩ := C
  intro H locs ls hP hD hS hl
  exact lv_isub hx hb hdg  (kk H locs ls hP hD hS hl)
theorem j_imul {g : GT} {own : String} {cc : ByteArray} {k nL9 : Nat} {ws : va_W} {lv : List (Nat × Value)} {pc : Nat} {st : List Value} (C : Cx g own cc k nL9) {x y : Int32} (hdg : decode cc pc = .ok (.imul, 1))  (kk : J g ws lv (pc + 1) (.int (x * y) :: st)) : J g ws lv pc (.int y :: .int x :: st) := by
  obtain ⟨p, l, e, R, s, m, args, below, meth, c, D, A, Q, cells, slots, nL⟩ := g
  obtain ⟨rfl, hx, hb, hml, hown, hts, hK, hkf, hkl, hce, hsl, hA, hF⟩ := C
  intro H locs ls hP hD hS hl
  exact lv_imul hx hb hdg  (kk H locs ls hP hD hS hl)
theorem j_iand {g : GT} {own : String} {cc : ByteArray} {k nL9 : Nat} {ws : va_W} {lv : List (Nat × Value)} {pc : Nat} {st : List Value} (C : Cx g own cc k nL9) {x y : Int32} (hdg : decode cc pc = .ok (.iand, 1))  (kk : J g ws lv (pc + 1) (.int (x &&& y) :: st)) : J g ws lv pc (.int y :: .int x :: st) := by
  obtain ⟨p, l, e, R, s, m, args, below, meth, c, D, A, Q, cells, slots, nL⟩ := g
  obtain ⟨rfl, hx, hb, hml, hown, hts, hK, hkf, hkl, hce, hsl, hA, hF⟩ := C
  intro H locs ls hP hD hS hl
  exact lv_iand hx hb hdg  (kk H locs ls hP hD hS hl)
theorem j_ior {g : GT} {own : String} {cc : ByteArray} {k nL9 : Nat} {ws : va_W} {lv : List (Nat × Value)} {pc : Nat} {st : List Value} (C : Cx g own cc k nL9) {x y : Int32} (hdg : decode cc pc = .ok (.ior, 1))  (kk : J g ws lv (pc + 1) (.int (x ||| y) :: st)) : J g ws lv pc (.int y :: .int x :: st) := by
  obtain ⟨p, l, e, R, s, m, args, below, meth, c, D, A, Q, cells, slots, nL⟩ := g
  obtain ⟨rfl, hx, hb, hml, hown, hts, hK, hkf, hkl, hce, hsl, hA, hF⟩ := C
  intro H locs ls hP hD hS hl
  exact lv_ior hx hb hdg  (kk H locs ls hP hD hS hl)
theorem j_ixor {g : GT} {own : String} {cc : ByteArray} {k nL9 : Nat} {ws : va_W} {lv : List (Nat × Value)} {pc : Nat} {st : List Value} (C : Cx g own cc k nL9) {x y : Int32} (hdg : decode cc pc = .ok (.ixor, 1))  (kk : J g ws lv (pc + 1) (.int (x ^^^ y) :: st)) : J g ws lv pc (.int y :: .int x :: st) := by
  obtain ⟨p, l, e, R, s, m, args, below, meth, c, D, A, Q, cells, slots, nL⟩ := g
  obtain ⟨rfl, hx, hb, hml, hown, hts, hK, hkf, hkl, hce, hsl, hA, hF⟩ := C
  intro H locs ls hP hD hS hl
  exact lv_ixor hx hb hdg  (kk H locs ls hP hD hS hl)
theorem j_ishl {g : GT} {own : String} {cc : ByteArray} {k nL9 : Nat} {ws : va_W} {lv : List (Nat × Value)} {pc : Nat} {st : List Value} (C : Cx g own cc k nL9) {x y : Int32} (hdg : decode cc pc = .ok (.ishl, 1))  (kk : J g ws lv (pc + 1) (.int (x <<< (y &&& 31)) :: st)) : J g ws lv pc (.int y :: .int x :: st) := by
  obtain ⟨p, l, e, R, s, m, args, below, meth, c, D, A, Q, cells, slots, nL⟩ := g
  obtain ⟨rfl, hx, hb, hml, hown, hts, hK, hkf, hkl, hce, hsl, hA, hF⟩ := C
  intro H locs ls hP hD hS hl
  exact lv_ishl hx hb hdg  (kk H locs ls hP hD hS hl)
theorem j_ishr {g : GT} {own : String} {cc : ByteArray} {k nL9 : Nat} {ws : va_W} {lv : List (Nat × Value)} {pc : Nat} {st : List Value} (C : Cx g own cc k nL9) {x y : Int32} (hdg : decode cc pc = .ok (.ishr, 1))  (kk : J g ws lv (pc + 1) (.int (x >>> (y &&& 31)) :: st)) : J g ws lv pc (.int y :: .int x :: st) := by
  obtain ⟨p, l, e, R, s, m, args, below, meth, c, D, A, Q, cells, slots, nL⟩ := g
  obtain ⟨rfl, hx, hb, hml, hown, hts, hK, hkf, hkl, hce, hsl, hA, hF⟩ := C
  intro H locs ls hP hD hS hl
  exact lv_ishr hx hb hdg  (kk H locs ls hP hD hS hl)
theorem j_ladd {g : GT} {own : String} {cc : ByteArray} {k nL9 : Nat} {ws : va_W} {lv : List (Nat × Value)} {pc : Nat} {st : List Value} (C : Cx g own cc k nL9) {x y : Int64} (hdg : decode cc pc = .ok (.ladd, 1))  (kk : J g ws lv (pc + 1) (.long (x + y) :: st)) : J g ws lv pc (.long y :: .long x :: st) := by
  obtain ⟨p, l, e, R, s, m, args, below, meth, c, D, A, Q, cells, slots, nL⟩ := g
  obtain ⟨rfl, hx, hb, hml, hown, hts, hK, hkf, hkl, hce, hsl, hA, hF⟩ := C
  intro H locs ls hP hD hS hl
  exact lv_ladd hx hb hdg  (kk H locs ls hP hD hS hl)
theorem j_lsub {g : GT} {own : String} {cc : ByteArray} {k nL9 : Nat} {ws : va_W} {lv : List (Nat × Value)} {pc : Nat} {st : List Value} (C : Cx g own cc k nL9) {x y : Int64} (hdg : decode cc pc = .ok (.lsub, 1))  (kk : J g ws lv (pc + 1) (.long (x - y) :: st)) : J g ws lv pc (.long y :: .long x :: st) := by
  obtain ⟨p, l, e, R, s, m, args, below, meth, c, D, A, Q, cells, slots, nL⟩ := g
  obtain ⟨rfl, hx, hb, hml, hown, hts, hK, hkf, hkl, hce, hsl, hA, hF⟩ := C
  intro H locs ls hP hD hS hl
  exact lv_lsub hx hb hdg  (kk H locs ls hP hD hS hl)
theorem j_lmul {g : GT} {own : String} {cc : ByteArray} {k nL9 : Nat} {ws : va_W} {lv : List (Nat × Value)} {pc : Nat} {st : List Value} (C : Cx g own cc k nL9) {x y : Int64} (hdg : decode cc pc = .ok (.lmul, 1))  (kk : J g ws lv (pc + 1) (.long (x * y) :: st)) : J g ws lv pc (.long y :: .long x :: st) := by
  obtain ⟨p, l, e, R, s, m, args, below, meth, c, D, A, Q, cells, slots, nL⟩ := g
  obtain ⟨rfl, hx, hb, hml, hown, hts, hK, hkf, hkl, hce, hsl, hA, hF⟩ := C
  intro H locs ls hP hD hS hl
  exact lv_lmul hx hb hdg  (kk H locs ls hP hD hS hl)
theorem j_land {g : GT} {own : String} {cc : ByteArray} {k nL9 : Nat} {ws : va_W} {lv : List (Nat × Value)} {pc : Nat} {st : List Value} (C : Cx g own cc k nL9) {x y : Int64} (hdg : decode cc pc = .ok (.land, 1))  (kk : J g ws lv (pc + 1) (.long (x &&& y) :: st)) : J g ws lv pc (.long y :: .long x :: st) := by
  obtain ⟨p, l, e, R, s, m, args, below, meth, c, D, A, Q, cells, slots, nL⟩ := g
  obtain ⟨rfl, hx, hb, hml, hown, hts, hK, hkf, hkl, hce, hsl, hA, hF⟩ := C
  intro H locs ls hP hD hS hl
  exact lv_land hx hb hdg  (kk H locs ls hP hD hS hl)
theorem j_lor {g : GT} {own : String} {cc : ByteArray} {k nL9 : Nat} {ws : va_W} {lv : List (Nat × Value)} {pc : Nat} {st : List Value} (C : Cx g own cc k nL9) {x y : Int64} (hdg : decode cc pc = .ok (.lor, 1))  (kk : J g ws lv (pc + 1) (.long (x ||| y) :: st)) : J g ws lv pc (.long y :: .long x :: st) := by
  obtain ⟨p, l, e, R, s, m, args, below, meth, c, D, A, Q, cells, slots, nL⟩ := g
  obtain ⟨rfl, hx, hb, hml, hown, hts, hK, hkf, hkl, hce, hsl, hA, hF⟩ := C
  intro H locs ls hP hD hS hl
  exact lv_lor hx hb hdg  (kk H locs ls hP hD hS hl)
theorem j_ineg {g : GT} {own : String} {cc : ByteArray} {k nL9 : Nat} {ws : va_W} {lv : List (Nat × Value)} {pc : Nat} {st : List Value} (C : Cx g own cc k nL9) {x : Int32} (hdg : decode cc pc = .ok (.ineg, 1))  (kk : J g ws lv (pc + 1) (.int (-x) :: st)) : J g ws lv pc (.int x :: st) := by
  obtain ⟨p, l, e, R, s, m, args, below, meth, c, D, A, Q, cells, slots, nL⟩ := g
  obtain ⟨rfl, hx, hb, hml, hown, hts, hK, hkf, hkl, hce, hsl, hA, hF⟩ := C
  intro H locs ls hP hD hS hl
  exact lv_ineg hx hb hdg  (kk H locs ls hP hD hS hl)
theorem j_i2l {g : GT} {own : String} {cc : ByteArray} {k nL9 : Nat} {ws : va_W} {lv : List (Nat × Value)} {pc : Nat} {st : List Value} (C : Cx g own cc k nL9) {x : Int32} (hdg : decode cc pc = .ok (.i2l, 1))  (kk : J g ws lv (pc + 1) (.long x.toInt64 :: st)) : J g ws lv pc (.int x :: st) := by
  obtain ⟨p, l, e, R, s, m, args, below, meth, c, D, A, Q, cells, slots, nL⟩ := g
  obtain ⟨rfl, hx, hb, hml, hown, hts, hK, hkf, hkl, hce, hsl, hA, hF⟩ := C
  intro H locs ls hP hD hS hl
  exact lv_i2l hx hb hdg rfl (kk H locs ls hP hD hS hl)
theorem j_lshl {g : GT} {own : String} {cc : ByteArray} {k nL9 : Nat} {ws : va_W} {lv : List (Nat × Value)} {pc : Nat} {st : List Value} (C : Cx g own cc k nL9) {x : Int64} {y : Int32} (hdg : decode cc pc = .ok (.lshl, 1))  (kk : J g ws lv (pc + 1) (.long (x <<< (y.toInt64 &&& 63)) :: st)) : J g ws lv pc (.int y :: .long x :: st) := by
  obtain ⟨p, l, e, R, s, m, args, below, meth, c, D, A, Q, cells, slots, nL⟩ := g
  obtain ⟨rfl, hx, hb, hml, hown, hts, hK, hkf, hkl, hce, hsl, hA, hF⟩ := C
  intro H locs ls hP hD hS hl
  exact lv_lshl hx hb hdg rfl (kk H locs ls hP hD hS hl)
theorem j_lcmp {g : GT} {own : String} {cc : ByteArray} {k nL9 : Nat} {ws : va_W} {lv : List (Nat × Value)} {pc : Nat} {st : List Value} (C : Cx g own cc k nL9) {x y : Int64} (hdg : decode cc pc = .ok (.lcmp, 1))  (kk : J g ws lv (pc + 1) (.int (lg_cmp x y) :: st)) : J g ws lv pc (.long y :: .long x :: st) := by
  obtain ⟨p, l, e, R, s, m, args, below, meth, c, D, A, Q, cells, slots, nL⟩ := g
  obtain ⟨rfl, hx, hb, hml, hown, hts, hK, hkf, hkl, hce, hsl, hA, hF⟩ := C
  intro H locs ls hP hD hS hl
  exact W.lcmp hx hb hdg  (kk H locs ls hP hD hS hl)
theorem j_i2f {g : GT} {own : String} {cc : ByteArray} {k nL9 : Nat} {ws : va_W} {lv : List (Nat × Value)} {pc : Nat} {st : List Value} (C : Cx g own cc k nL9) {x : Int32} (hdg : decode cc pc = .ok (.i2f, 1))  (kk : J g ws lv (pc + 1) (.float (FP.i2f x) :: st)) : J g ws lv pc (.int x :: st) := by
  obtain ⟨p, l, e, R, s, m, args, below, meth, c, D, A, Q, cells, slots, nL⟩ := g
  obtain ⟨rfl, hx, hb, hml, hown, hts, hK, hkf, hkl, hce, hsl, hA, hF⟩ := C
  intro H locs ls hP hD hS hl
  exact lv_i2f hx hb hdg  (kk H locs ls hP hD hS hl)
theorem j_i2d {g : GT} {own : String} {cc : ByteArray} {k nL9 : Nat} {ws : va_W} {lv : List (Nat × Value)} {pc : Nat} {st : List Value} (C : Cx g own cc k nL9) {x : Int32} (hdg : decode cc pc = .ok (.i2d, 1))  (kk : J g ws lv (pc + 1) (.double (FP.i2d x) :: st)) : J g ws lv pc (.int x :: st) := by
  obtain ⟨p, l, e, R, s, m, args, below, meth, c, D, A, Q, cells, slots, nL⟩ := g
  obtain ⟨rfl, hx, hb, hml, hown, hts, hK, hkf, hkl, hce, hsl, hA, hF⟩ := C
  intro H locs ls hP hD hS hl
  exact lv_i2d hx hb hdg  (kk H locs ls hP hD hS hl)
theorem j_f2i {g : GT} {own : String} {cc : ByteArray} {k nL9 : Nat} {ws : va_W} {lv : List (Nat × Value)} {pc : Nat} {st : List Value} (C : Cx g own cc k nL9) {x : UInt32} (hdg : decode cc pc = .ok (.f2i, 1))  (kk : J g ws lv (pc + 1) (.int (FP.f2i x) :: st)) : J g ws lv pc (.float x :: st) := by
  obtain ⟨p, l, e, R, s, m, args, below, meth, c, D, A, Q, cells, slots, nL⟩ := g
  obtain ⟨rfl, hx, hb, hml, hown, hts, hK, hkf, hkl, hce, hsl, hA, hF⟩ := C
  intro H locs ls hP hD hS hl
  exact lv_f2i hx hb hdg  (kk H locs ls hP hD hS hl)
theorem j_d2l {g : GT} {own : String} {cc : ByteArray} {k nL9 : Nat} {ws : va_W} {lv : List (Nat × Value)} {pc : Nat} {st : List Value} (C : Cx g own cc k nL9) {x : UInt64} (hdg : decode cc pc = .ok (.d2l, 1))  (kk : J g ws lv (pc + 1) (.long (FP.d2l x) :: st)) : J g ws lv pc (.double x :: st) := by
  obtain ⟨p, l, e, R, s, m, args, below, meth, c, D, A, Q, cells, slots, nL⟩ := g
  obtain ⟨rfl, hx, hb, hml, hown, hts, hK, hkf, hkl, hce, hsl, hA, hF⟩ := C
  intro H locs ls hP hD hS hl
  exact lv_d2l hx hb hdg  (kk H locs ls hP hD hS hl)
theorem j_fneg {g : GT} {own : String} {cc : ByteArray} {k nL9 : Nat} {ws : va_W} {lv : List (Nat × Value)} {pc : Nat} {st : List Value} (C : Cx g own cc k nL9) {x : UInt32} (hdg : decode cc pc = .ok (.fneg, 1))  (kk : J g ws lv (pc + 1) (.float (FP.fneg x) :: st)) : J g ws lv pc (.float x :: st) := by
  obtain ⟨p, l, e, R, s, m, args, below, meth, c, D, A, Q, cells, slots, nL⟩ := g
  obtain ⟨rfl, hx, hb, hml, hown, hts, hK, hkf, hkl, hce, hsl, hA, hF⟩ := C
  intro H locs ls hP hD hS hl
  exact lv_fneg hx hb hdg  (kk H locs ls hP hD hS hl)
theorem j_fcmp {g : GT} {own : String} {cc : ByteArray} {k nL9 : Nat} {ws : va_W} {lv : List (Nat × Value)} {pc : Nat} {st : List Value} (C : Cx g own cc k nL9) {x y : UInt32} {op : CmpOp} (hdg : decode cc pc = .ok (.fcmp op, 1))  (kk : J g ws lv (pc + 1) (.int (Op.cmpValue (FP.fcmp x y) op) :: st)) : J g ws lv pc (.float y :: .float x :: st) := by
  obtain ⟨p, l, e, R, s, m, args, below, meth, c, D, A, Q, cells, slots, nL⟩ := g
  obtain ⟨rfl, hx, hb, hml, hown, hts, hK, hkf, hkl, hce, hsl, hA, hF⟩ := C
  intro H locs ls hP hD hS hl
  exact lv_fcmp hx hb hdg  (kk H locs ls hP hD hS hl)
theorem j_dcmp {g : GT} {own : String} {cc : ByteArray} {k nL9 : Nat} {ws : va_W} {lv : List (Nat × Value)} {pc : Nat} {st : List Value} (C : Cx g own cc k nL9) {x y : UInt64} {op : CmpOp} (hdg : decode cc pc = .ok (.dcmp op, 1))  (kk : J g ws lv (pc + 1) (.int (Op.cmpValue (FP.dcmp x y) op) :: st)) : J g ws lv pc (.double y :: .double x :: st) := by
  obtain ⟨p, l, e, R, s, m, args, below, meth, c, D, A, Q, cells, slots, nL⟩ := g
  obtain ⟨rfl, hx, hb, hml, hown, hts, hK, hkf, hkl, hce, hsl, hA, hF⟩ := C
  intro H locs ls hP hD hS hl
  exact lv_dcmp hx hb hdg  (kk H locs ls hP hD hS hl)
def gf {α : Type} (r : UInt32) (X : Option α) : Option α := if r &&& 0x7fffffff ≤ 0x7f800000 then X else none
def gdb {α : Type} (r : UInt64) (X : Option α) : Option α := if r &&& 0x7fffffffffffffff ≤ 0x7ff0000000000000 then X else none
theorem of_gf {α : Type} {r : UInt32} {X : Option α} {o : α} (h : gf r X = some o) : vf_n32 r ∧ X = some o := by
  unfold gf at h
  split at h
  · rename_i hc; exact ⟨hc, h⟩
  · cases h
theorem of_gdb {α : Type} {r : UInt64} {X : Option α} {o : α} (h : gdb r X = some o) : vf_n64 r ∧ X = some o := by
  unfold gdb at h
  split at h
  · rename_i hc; exact ⟨hc, h⟩
  · cases h
theorem j_fadd {g : GT} {own : String} {cc : ByteArray} {k nL9 : Nat} {ws : va_W} {lv : List (Nat × Value)} {pc : Nat} {st : List Value} {x y : UInt32} {α : Type} {X : Option α} {o : α} (C : Cx g own cc k nL9) (h : gf (FP.fadd x y) X = some o)   (hdg : decode cc pc = .ok (.fadd, 1)) (kk : X = some o → J g ws lv (pc + 1) (.float (FP.fadd x y) :: st)) : J g ws lv pc (.float y :: .float x :: st) := by
  obtain ⟨hin, h⟩ := of_gf h
  replace kk := kk h
  obtain ⟨p, l, e, R, s, m, args, below, meth, c, D, A, Q, cells, slots, nL⟩ := g
  obtain ⟨rfl, hx, hb, hml, hown, hts, hK, hkf, hkl, hce, hsl, hA, hF⟩ := C
  intro H locs ls hP hD hS hl
  exact lv_fadd hx hb hdg hin (kk H locs ls hP hD hS hl)
theorem j_fmul {g : GT} {own : String} {cc : ByteArray} {k nL9 : Nat} {ws : va_W} {lv : List (Nat × Value)} {pc : Nat} {st : List Value} {x y : UInt32} {α : Type} {X : Option α} {o : α} (C : Cx g own cc k nL9) (h : gf (FP.fmul x y) X = some o)   (hdg : decode cc pc = .ok (.fmul, 1)) (kk : X = some o → J g ws lv (pc + 1) (.float (FP.fmul x y) :: st)) : J g ws lv pc (.float y :: .float x :: st) := by
  obtain ⟨hin, h⟩ := of_gf h
  replace kk := kk h
  obtain ⟨p, l, e, R, s, m, args, below, meth, c, D, A, Q, cells, slots, nL⟩ := g
  obtain ⟨rfl, hx, hb, hml, hown, hts, hK, hkf, hkl, hce, hsl, hA, hF⟩ := C
  intro H locs ls hP hD hS hl
  exact lv_fmul hx hb hdg hin (kk H locs ls hP hD hS hl)
theorem j_fdiv {g : GT} {own : String} {cc : ByteArray} {k nL9 : Nat} {ws : va_W} {lv : List (Nat × Value)} {pc : Nat} {st : List Value} {x y : UInt32} {α : Type} {X : Option α} {o : α} (C : Cx g own cc k nL9) (h : gf (FP.fdiv x y) X = some o)   (hdg : decode cc pc = .ok (.fdiv, 1)) (kk : X = some o → J g ws lv (pc + 1) (.float (FP.fdiv x y) :: st)) : J g ws lv pc (.float y :: .float x :: st) := by
  obtain ⟨hin, h⟩ := of_gf h
  replace kk := kk h
  obtain ⟨p, l, e, R, s, m, args, below, meth, c, D, A, Q, cells, slots, nL⟩ := g
  obtain ⟨rfl, hx, hb, hml, hown, hts, hK, hkf, hkl, hce, hsl, hA, hF⟩ := C
  intro H locs ls hP hD hS hl
  exact lv_fdiv hx hb hdg hin (kk H locs ls hP hD hS hl)
theorem j_dadd {g : GT} {own : String} {cc : ByteArray} {k nL9 : Nat} {ws : va_W} {lv : List (Nat × Value)} {pc : Nat} {st : List Value} {x y : UInt64} {α : Type} {X : Option α} {o : α} (C : Cx g own cc k nL9) (h : gdb (FP.dadd x y) X = some o)   (hdg : decode cc pc = .ok (.dadd, 1)) (kk : X = some o → J g ws lv (pc + 1) (.double (FP.dadd x y) :: st)) : J g ws lv pc (.double y :: .double x :: st) := by
  obtain ⟨hin, h⟩ := of_gdb h
  replace kk := kk h
  obtain ⟨p, l, e, R, s, m, args, below, meth, c, D, A, Q, cells, slots, nL⟩ := g
  obtain ⟨rfl, hx, hb, hml, hown, hts, hK, hkf, hkl, hce, hsl, hA, hF⟩ := C
  intro H locs ls hP hD hS hl
  exact lv_dadd hx hb hdg hin (kk H locs ls hP hD hS hl)
theorem j_dmul {g : GT} {own : String} {cc : ByteArray} {k nL9 : Nat} {ws : va_W} {lv : List (Nat × Value)} {pc : Nat} {st : List Value} {x y : UInt64} {α : Type} {X : Option α} {o : α} (C : Cx g own cc k nL9) (h : gdb (FP.dmul x y) X = some o)   (hdg : decode cc pc = .ok (.dmul, 1)) (kk : X = some o → J g ws lv (pc + 1) (.double (FP.dmul x y) :: st)) : J g ws lv pc (.double y :: .double x :: st) := by
  obtain ⟨hin, h⟩ := of_gdb h
  replace kk := kk h
  obtain ⟨p, l, e, R, s, m, args, below, meth, c, D, A, Q, cells, slots, nL⟩ := g
  obtain ⟨rfl, hx, hb, hml, hown, hts, hK, hkf, hkl, hce, hsl, hA, hF⟩ := C
  intro H locs ls hP hD hS hl
  exact lv_dmul hx hb hdg hin (kk H locs ls hP hD hS hl)
theorem j_ddiv {g : GT} {own : String} {cc : ByteArray} {k nL9 : Nat} {ws : va_W} {lv : List (Nat × Value)} {pc : Nat} {st : List Value} {x y : UInt64} {α : Type} {X : Option α} {o : α} (C : Cx g own cc k nL9) (h : gdb (FP.ddiv x y) X = some o)   (hdg : decode cc pc = .ok (.ddiv, 1)) (kk : X = some o → J g ws lv (pc + 1) (.double (FP.ddiv x y) :: st)) : J g ws lv pc (.double y :: .double x :: st) := by
  obtain ⟨hin, h⟩ := of_gdb h
  replace kk := kk h
  obtain ⟨p, l, e, R, s, m, args, below, meth, c, D, A, Q, cells, slots, nL⟩ := g
  obtain ⟨rfl, hx, hb, hml, hown, hts, hK, hkf, hkl, hce, hsl, hA, hF⟩ := C
  intro H locs ls hP hD hS hl
  exact lv_ddiv hx hb hdg hin (kk H locs ls hP hD hS hl)
theorem j_idiv {g : GT} {own : String} {cc : ByteArray} {k nL9 : Nat} {ws : va_W} {lv : List (Nat × Value)} {pc : Nat} {st : List Value} {x y : Int32} {α : Type} {X : Option α} {o : α} (C : Cx g own cc k nL9) (h : gd y X = some o)   (hdg : decode cc pc = .ok (.idiv, 1)) (kk : X = some o → J g ws lv (pc + 1) (.int (x / y) :: st)) : J g ws lv pc (.int y :: .int x :: st) := by
  obtain ⟨hin, h⟩ := of_gd h
  replace kk := kk h
  obtain ⟨p, l, e, R, s, m, args, below, meth, c, D, A, Q, cells, slots, nL⟩ := g
  obtain ⟨rfl, hx, hb, hml, hown, hts, hK, hkf, hkl, hce, hsl, hA, hF⟩ := C
  intro H locs ls hP hD hS hl
  exact lv_idiv hx hb hdg hin (kk H locs ls hP hD hS hl)
theorem j_irem {g : GT} {own : String} {cc : ByteArray} {k nL9 : Nat} {ws : va_W} {lv : List (Nat × Value)} {pc : Nat} {st : List Value} {x y : Int32} {α : Type} {X : Option α} {o : α} (C : Cx g own cc k nL9) (h : gd y X = some o)   (hdg : decode cc pc = .ok (.irem, 1)) (kk : X = some o → J g ws lv (pc + 1) (.int (x - x / y * y) :: st)) : J g ws lv pc (.int y :: .int x :: st) := by
  obtain ⟨hin, h⟩ := of_gd h
  replace kk := kk h
  obtain ⟨p, l, e, R, s, m, args, below, meth, c, D, A, Q, cells, slots, nL⟩ := g
  obtain ⟨rfl, hx, hb, hml, hown, hts, hK, hkf, hkl, hce, hsl, hA, hF⟩ := C
  intro H locs ls hP hD hS hl
  exact lv_irem hx hb hdg hin (kk H locs ls hP hD hS hl)
theorem j_ldiv {g : GT} {own : String} {cc : ByteArray} {k nL9 : Nat} {ws : va_W} {lv : List (Nat × Value)} {pc : Nat} {st : List Value} {x y : Int64} {α : Type} {X : Option α} {o : α} (C : Cx g own cc k nL9) (h : gdl y X = some o)   (hdg : decode cc pc = .ok (.ldiv, 1)) (kk : X = some o → J g ws lv (pc + 1) (.long (x / y) :: st)) : J g ws lv pc (.long y :: .long x :: st) := by
  obtain ⟨hin, h⟩ := of_gdl h
  replace kk := kk h
  obtain ⟨p, l, e, R, s, m, args, below, meth, c, D, A, Q, cells, slots, nL⟩ := g
  obtain ⟨rfl, hx, hb, hml, hown, hts, hK, hkf, hkl, hce, hsl, hA, hF⟩ := C
  intro H locs ls hP hD hS hl
  exact lv_ldiv hx hb hdg hin (kk H locs ls hP hD hS hl)
theorem j_lrem {g : GT} {own : String} {cc : ByteArray} {k nL9 : Nat} {ws : va_W} {lv : List (Nat × Value)} {pc : Nat} {st : List Value} {x y : Int64} {α : Type} {X : Option α} {o : α} (C : Cx g own cc k nL9) (h : gdl y X = some o)   (hdg : decode cc pc = .ok (.lrem, 1)) (kk : X = some o → J g ws lv (pc + 1) (.long (x - x / y * y) :: st)) : J g ws lv pc (.long y :: .long x :: st) := by
  obtain ⟨hin, h⟩ := of_gdl h
  replace kk := kk h
  obtain ⟨p, l, e, R, s, m, args, below, meth, c, D, A, Q, cells, slots, nL⟩ := g
  obtain ⟨rfl, hx, hb, hml, hown, hts, hK, hkf, hkl, hce, hsl, hA, hF⟩ := C
  intro H locs ls hP hD hS hl
  exact lv_lrem hx hb hdg hin (kk H locs ls hP hD hS hl)
theorem j_iaload {g : GT} {own : String} {cc : ByteArray} {k nL9 : Nat} {ws : va_W} {lv : List (Nat × Value)} {pc : Nat} {st : List Value} {a n : Nat} {cA : ClassId} {f : Nat → Int32} {i : Int32} (q : Nat) {α : Type} {X : Option α} {o : α} (C : Cx g own cc k nL9) (h : ga i n X = some o)  (ha : ws[q]? = some (a, .inl (cA, n, .inl f))) (hcA : (gD g).1 100 = cA) (hdg : decode cc pc = .ok (.iaload, 1)) (kk : X = some o → J g ws lv (pc + 1) (.int (f i.toNatClampNeg) :: st)) : J g ws lv pc (.int i :: .ref a :: st) := by
  obtain ⟨hin, h⟩ := of_ga h
  replace kk := kk h
  obtain ⟨p, l, e, R, s, m, args, below, meth, c, D, A, Q, cells, slots, nL⟩ := g
  obtain ⟨rfl, hx, hb, hml, hown, hts, hK, hkf, hkl, hce, hsl, hA, hF⟩ := C
  intro H locs ls hP hD hS hl
  subst hcA
  exact va_iald hx hb hK hP q 0 ha rfl hin hdg (kk H locs ls hP hD hS hl)
theorem j_zaload {g : GT} {own : String} {cc : ByteArray} {k nL9 : Nat} {ws : va_W} {lv : List (Nat × Value)} {pc : Nat} {st : List Value} {a n : Nat} {cA : ClassId} {f : Nat → Int32} {i : Int32} (q : Nat) {α : Type} {X : Option α} {o : α} (C : Cx g own cc k nL9) (h : ga i n X = some o)  (ha : ws[q]? = some (a, .inl (cA, n, .inl f))) (hcA : (gD g).1 101 = cA) (hdg : decode cc pc = .ok (.baload, 1)) (kk : X = some o → J g ws lv (pc + 1) (.int (f i.toNatClampNeg) :: st)) : J g ws lv pc (.int i :: .ref a :: st) := by
  obtain ⟨hin, h⟩ := of_ga h
  replace kk := kk h
  obtain ⟨p, l, e, R, s, m, args, below, meth, c, D, A, Q, cells, slots, nL⟩ := g
  obtain ⟨rfl, hx, hb, hml, hown, hts, hK, hkf, hkl, hce, hsl, hA, hF⟩ := C
  intro H locs ls hP hD hS hl
  subst hcA
  exact va_zald hx hb hK hP q 1 ha rfl hin hdg (kk H locs ls hP hD hS hl)
theorem j_iastore {g : GT} {own : String} {cc : ByteArray} {k nL9 : Nat} {ws : va_W} {lv : List (Nat × Value)} {pc : Nat} {st : List Value} {a n : Nat} {cA : ClassId} {f : Nat → Int32} {i x : Int32} (q : Nat) {α : Type} {X : Option α} {o : α} (C : Cx g own cc k nL9) (h : ga i n X = some o)  (ha : ws[q]? = some (a, .inl (cA, n, .inl f))) (hcA : (gD g).1 100 = cA) (hdg : decode cc pc = .ok (.iastore, 1)) (kk : X = some o → J g (ws.set q (a, .inl (cA, n, .inl (upd f i.toNatClampNeg x)))) lv (pc + 1) (st)) : J g ws lv pc (.int x :: .int i :: .ref a :: st) := by
  obtain ⟨hin, h⟩ := of_ga h
  replace kk := kk h
  obtain ⟨p, l, e, R, s, m, args, below, meth, c, D, A, Q, cells, slots, nL⟩ := g
  obtain ⟨rfl, hx, hb, hml, hown, hts, hK, hkf, hkl, hce, hsl, hA, hF⟩ := C
  intro H locs ls hP hD hS hl
  subst hcA
  exact va_iast hx hb hK hP hD hS q 0 ha rfl hin hdg (fun H1 locs1 hP1 hD1 hS1 => kk H1 locs1 ls hP1 hD1 hS1 hl)
theorem j_zastore {g : GT} {own : String} {cc : ByteArray} {k nL9 : Nat} {ws : va_W} {lv : List (Nat × Value)} {pc : Nat} {st : List Value} {a n : Nat} {cA : ClassId} {f : Nat → Int32} {i x : Int32} (q : Nat) {α : Type} {X : Option α} {o : α} (C : Cx g own cc k nL9) (h : ga i n X = some o)  (ha : ws[q]? = some (a, .inl (cA, n, .inl f))) (hcA : (gD g).1 101 = cA) (hdg : decode cc pc = .ok (.bastore, 1)) (kk : X = some o → J g (ws.set q (a, .inl (cA, n, .inl (upd f i.toNatClampNeg (vp_nar .boolean x))))) lv (pc + 1) (st)) : J g ws lv pc (.int x :: .int i :: .ref a :: st) := by
  obtain ⟨hin, h⟩ := of_ga h
  replace kk := kk h
  obtain ⟨p, l, e, R, s, m, args, below, meth, c, D, A, Q, cells, slots, nL⟩ := g
  obtain ⟨rfl, hx, hb, hml, hown, hts, hK, hkf, hkl, hce, hsl, hA, hF⟩ := C
  intro H locs ls hP hD hS hl
  subst hcA
  exact va_zast hx hb hK hP hD hS q 1 ha rfl hin hdg (fun H1 locs1 hP1 hD1 hS1 => kk H1 locs1 ls hP1 hD1 hS1 hl)
theorem j_alen {g : GT} {own : String} {cc : ByteArray} {k nL9 : Nat} {ws : va_W} {lv : List (Nat × Value)} {pc : Nat} {st : List Value} (C : Cx g own cc k nL9) {a n : Nat} {cA : ClassId} {f : Nat → Int32} (v : Int32) (q : Nat) (ha : ws[q]? = some (a, .inl (cA, n, .inl f))) (hcA : (gD g).1 100 = cA) (hv : Int32.ofNat n = v) (hdg : decode cc pc = .ok (.arraylength, 1)) (kk : J g ws lv (pc + 1) (.int v :: st)) : J g ws lv pc (.ref a :: st) := by
  obtain ⟨p, l, e, R, s, m, args, below, meth, c, D, A, Q, cells, slots, nL⟩ := g
  obtain ⟨rfl, hx, hb, hml, hown, hts, hK, hkf, hkl, hce, hsl, hA, hF⟩ := C
  intro H locs ls hP hD hS hl
  subst hcA
  exact va_alen hx hb hK hP q 0 ha rfl hv hdg (kk H locs ls hP hD hS hl)
theorem j_dup {g : GT} {own : String} {cc : ByteArray} {k nL9 : Nat} {ws : va_W} {lv : List (Nat × Value)} {pc : Nat} {st : List Value} (C : Cx g own cc k nL9) {v : Value} (hdg : decode cc pc = .ok (.dup, 1)) (hv : v.category = 1) (kk : J g ws lv (pc + 1) (v :: v :: st)) : J g ws lv pc (v :: st) := by
  obtain ⟨p, l, e, R, s, m, args, below, meth, c, D, A, Q, cells, slots, nL⟩ := g
  obtain ⟨rfl, hx, hb, hml, hown, hts, hK, hkf, hkl, hce, hsl, hA, hF⟩ := C
  intro H locs ls hP hD hS hl
  exact lv_dup hx hb hdg hv (kk H locs ls hP hD hS hl)
theorem j_pop {g : GT} {own : String} {cc : ByteArray} {k nL9 : Nat} {ws : va_W} {lv : List (Nat × Value)} {pc : Nat} {st : List Value} (C : Cx g own cc k nL9) {v : Value} (hdg : decode cc pc = .ok (.pop, 1)) (hv : v.category = 1) (kk : J g ws lv (pc + 1) (st)) : J g ws lv pc (v :: st) := by
  obtain ⟨p, l, e, R, s, m, args, below, meth, c, D, A, Q, cells, slots, nL⟩ := g
  obtain ⟨rfl, hx, hb, hml, hown, hts, hK, hkf, hkl, hce, hsl, hA, hF⟩ := C
  intro H locs ls hP hD hS hl
  exact lv_pop hx hb hdg hv (kk H locs ls hP hD hS hl)
theorem j_dup2 {g : GT} {own : String} {cc : ByteArray} {k nL9 : Nat} {ws : va_W} {lv : List (Nat × Value)} {pc : Nat} {st : List Value} (C : Cx g own cc k nL9) {v w : Value} (hdg : decode cc pc = .ok (.dup2, 1)) (hv : v.category = 1) (hw : w.category = 1) (kk : J g ws lv (pc + 1) (v :: w :: v :: w :: st)) : J g ws lv pc (v :: w :: st) := by
  obtain ⟨p, l, e, R, s, m, args, below, meth, c, D, A, Q, cells, slots, nL⟩ := g
  obtain ⟨rfl, hx, hb, hml, hown, hts, hK, hkf, hkl, hce, hsl, hA, hF⟩ := C
  intro H locs ls hP hD hS hl
  exact lv_dup2_11 hx hb hdg hv hw (kk H locs ls hP hD hS hl)
theorem j_dup_x1 {g : GT} {own : String} {cc : ByteArray} {k nL9 : Nat} {ws : va_W} {lv : List (Nat × Value)} {pc : Nat} {st : List Value} (C : Cx g own cc k nL9) {v w : Value} (hdg : decode cc pc = .ok (.dup_x1, 1)) (hv : v.category = 1) (hw : w.category = 1) (kk : J g ws lv (pc + 1) (v :: w :: v :: st)) : J g ws lv pc (v :: w :: st) := by
  obtain ⟨p, l, e, R, s, m, args, below, meth, c, D, A, Q, cells, slots, nL⟩ := g
  obtain ⟨rfl, hx, hb, hml, hown, hts, hK, hkf, hkl, hce, hsl, hA, hF⟩ := C
  intro H locs ls hP hD hS hl
  exact lv_dup_x1 hx hb hdg hv hw (kk H locs ls hP hD hS hl)
theorem j_goto {g : GT} {own : String} {cc : ByteArray} {k nL9 : Nat} {ws : va_W} {lv : List (Nat × Value)} {pc : Nat} {st : List Value} (C : Cx g own cc k nL9) (tgt : Nat) {off : Int} (hdg : decode cc pc = .ok (.goto off, 3)) (ht : (pc : Int) + off = (tgt : Int)) (kk : J g ws lv tgt (st)) : J g ws lv pc (st) := by
  obtain ⟨p, l, e, R, s, m, args, below, meth, c, D, A, Q, cells, slots, nL⟩ := g
  obtain ⟨rfl, hx, hb, hml, hown, hts, hK, hkf, hkl, hce, hsl, hA, hF⟩ := C
  intro H locs ls hP hD hS hl
  exact lv_goto hx hb hdg ht (kk H locs ls hP hD hS hl)
theorem j_ldc {g : GT} {own : String} {cc : ByteArray} {k nL9 : Nat} {ws : va_W} {lv : List (Nat × Value)} {pc : Nat} {st : List Value} (C : Cx g own cc k nL9) {idx : Nat} {v : Int32} (hw : Cond.constant own idx v ∈ lw_gd) (hdg : decode cc pc = .ok (.ldc idx, 2)) (kk : J g ws lv (pc + 2) (.int v :: st)) : J g ws lv pc (st) := by
  obtain ⟨p, l, e, R, s, m, args, below, meth, c, D, A, Q, cells, slots, nL⟩ := g
  obtain ⟨rfl, hx, hb, hml, hown, hts, hK, hkf, hkl, hce, hsl, hA, hF⟩ := C
  intro H locs ls hP hD hS hl
  exact lv_ldc hx hb hown (hts _ hw) hdg (kk H locs ls hP hD hS hl)
theorem j_ldcw {g : GT} {own : String} {cc : ByteArray} {k nL9 : Nat} {ws : va_W} {lv : List (Nat × Value)} {pc : Nat} {st : List Value} (C : Cx g own cc k nL9) {idx : Nat} {v : Int32} (hw : Cond.constant own idx v ∈ lw_gd) (hdg : decode cc pc = .ok (.ldc_w idx, 3)) (kk : J g ws lv (pc + 3) (.int v :: st)) : J g ws lv pc (st) := by
  obtain ⟨p, l, e, R, s, m, args, below, meth, c, D, A, Q, cells, slots, nL⟩ := g
  obtain ⟨rfl, hx, hb, hml, hown, hts, hK, hkf, hkl, hce, hsl, hA, hF⟩ := C
  intro H locs ls hP hD hS hl
  exact lv_ldcw hx hb hown (hts _ hw) hdg (kk H locs ls hP hD hS hl)
theorem j_ldc2 {g : GT} {own : String} {cc : ByteArray} {k nL9 : Nat} {ws : va_W} {lv : List (Nat × Value)} {pc : Nat} {st : List Value} (C : Cx g own cc k nL9) {idx : Nat} {v : Int64} (hw : Cond.constantLong own idx v ∈ lw_gd) (hdg : decode cc pc = .ok (.ldc2_w idx, 3)) (kk : J g ws lv (pc + 3) (.long v :: st)) : J g ws lv pc (st) := by
  obtain ⟨p, l, e, R, s, m, args, below, meth, c, D, A, Q, cells, slots, nL⟩ := g
  obtain ⟨rfl, hx, hb, hml, hown, hts, hK, hkf, hkl, hce, hsl, hA, hF⟩ := C
  intro H locs ls hP hD hS hl
  exact lv_ldc2 hx hb hown (hts _ hw) hdg (kk H locs ls hP hD hS hl)
theorem j_ldcf {g : GT} {own : String} {cc : ByteArray} {k nL9 : Nat} {ws : va_W} {lv : List (Nat × Value)} {pc : Nat} {st : List Value} (C : Cx g own cc k nL9) {idx : Nat} {v : UInt32} (hw : Cond.constantFloat own idx v ∈ lw_gd) (hdg : decode cc pc = .ok (.ldc idx, 2)) (kk : J g ws lv (pc + 2) (.float v :: st)) : J g ws lv pc (st) := by
  obtain ⟨p, l, e, R, s, m, args, below, meth, c, D, A, Q, cells, slots, nL⟩ := g
  obtain ⟨rfl, hx, hb, hml, hown, hts, hK, hkf, hkl, hce, hsl, hA, hF⟩ := C
  intro H locs ls hP hD hS hl
  exact lv_ldcf hx hb hown (hts _ hw) hdg (kk H locs ls hP hD hS hl)
theorem j_ldc2d {g : GT} {own : String} {cc : ByteArray} {k nL9 : Nat} {ws : va_W} {lv : List (Nat × Value)} {pc : Nat} {st : List Value} (C : Cx g own cc k nL9) {idx : Nat} {v : UInt64} (hw : Cond.constantDouble own idx v ∈ lw_gd) (hdg : decode cc pc = .ok (.ldc2_w idx, 3)) (kk : J g ws lv (pc + 3) (.double v :: st)) : J g ws lv pc (st) := by
  obtain ⟨p, l, e, R, s, m, args, below, meth, c, D, A, Q, cells, slots, nL⟩ := g
  obtain ⟨rfl, hx, hb, hml, hown, hts, hK, hkf, hkl, hce, hsl, hA, hF⟩ := C
  intro H locs ls hP hD hS hl
  exact lv_ldc2d hx hb hown (hts _ hw) hdg (kk H locs ls hP hD hS hl)
theorem j_icmp_eq {g : GT} {own : String} {cc : ByteArray} {k nL9 : Nat} {ws : va_W} {lv : List (Nat × Value)} {pc : Nat} {st : List Value} {x y : Int32} {α : Type} {X Y : Option α} {o : α} (C : Cx g own cc k nL9) (h : (if x = y then X else Y) = some o) (tgt : Nat) {off : Int} (hdg : decode cc pc = .ok (.if_icmp .eq off, 3)) (ht : (pc : Int) + off = (tgt : Int)) (kt : x = y → X = some o → J g ws lv tgt st) (kf : ¬ (x = y) → Y = some o → J g ws lv (pc + 3) st) : J g ws lv pc (.int y :: .int x :: st) := by
  obtain ⟨p, l, e, R, s, m, args, below, meth, c, D, A, Q, cells, slots, nL⟩ := g
  obtain ⟨rfl, hx, hb, hml, hown, hts, hK, hkf, hkl, hce, hsl, hA, hF⟩ := C
  intro H locs ls hP hD hS hl
  exact lv_icmp_eq hx hb hdg ht (fun hc => kt hc (by rw [if_pos hc] at h; exact h) H locs ls hP hD hS hl) (fun hc => kf hc (by rw [if_neg hc] at h; exact h) H locs ls hP hD hS hl)
theorem jv_icmp_eq {g : GT} {own : String} {cc : ByteArray} {k nL9 : Nat} {ws : va_W} {lv : List (Nat × Value)} {pc : Nat} {st : List Value} {x y : Int32} (C : Cx g own cc k nL9) (tgt : Nat) {off : Int} (hdg : decode cc pc = .ok (.if_icmp .eq off, 3)) (ht : (pc : Int) + off = (tgt : Int)) (kt : x = y → J g ws lv tgt st) (kf : ¬ (x = y) → J g ws lv (pc + 3) st) : J g ws lv pc (.int y :: .int x :: st) := by
  obtain ⟨p, l, e, R, s, m, args, below, meth, c, D, A, Q, cells, slots, nL⟩ := g
  obtain ⟨rfl, hx, hb, hml, hown, hts, hK, hkf, hkl, hce, hsl, hA, hF⟩ := C
  intro H locs ls hP hD hS hl
  exact lv_icmp_eq hx hb hdg ht (fun hc => kt hc H locs ls hP hD hS hl) (fun hc => kf hc H locs ls hP hD hS hl)
theorem j_icmp_ne {g : GT} {own : String} {cc : ByteArray} {k nL9 : Nat} {ws : va_W} {lv : List (Nat × Value)} {pc : Nat} {st : List Value} {x y : Int32} {α : Type} {X Y : Option α} {o : α} (C : Cx g own cc k nL9) (h : (if x = y then X else Y) = some o) (tgt : Nat) {off : Int} (hdg : decode cc pc = .ok (.if_icmp .ne off, 3)) (ht : (pc : Int) + off = (tgt : Int)) (kf : x = y → X = some o → J g ws lv (pc + 3) st) (kt : ¬ (x = y) → Y = some o → J g ws lv tgt st) : J g ws lv pc (.int y :: .int x :: st) := by
  obtain ⟨p, l, e, R, s, m, args, below, meth, c, D, A, Q, cells, slots, nL⟩ := g
  obtain ⟨rfl, hx, hb, hml, hown, hts, hK, hkf, hkl, hce, hsl, hA, hF⟩ := C
  intro H locs ls hP hD hS hl
  exact lv_icmp_ne hx hb hdg ht (fun hc => kt hc (by rw [if_neg hc] at h; exact h) H locs ls hP hD hS hl) (fun hc => kf hc (by rw [if_pos hc] at h; exact h) H locs ls hP hD hS hl)
theorem jv_icmp_ne {g : GT} {own : String} {cc : ByteArray} {k nL9 : Nat} {ws : va_W} {lv : List (Nat × Value)} {pc : Nat} {st : List Value} {x y : Int32} (C : Cx g own cc k nL9) (tgt : Nat) {off : Int} (hdg : decode cc pc = .ok (.if_icmp .ne off, 3)) (ht : (pc : Int) + off = (tgt : Int)) (kf : x = y → J g ws lv (pc + 3) st) (kt : ¬ (x = y) → J g ws lv tgt st) : J g ws lv pc (.int y :: .int x :: st) := by
  obtain ⟨p, l, e, R, s, m, args, below, meth, c, D, A, Q, cells, slots, nL⟩ := g
  obtain ⟨rfl, hx, hb, hml, hown, hts, hK, hkf, hkl, hce, hsl, hA, hF⟩ := C
  intro H locs ls hP hD hS hl
  exact lv_icmp_ne hx hb hdg ht (fun hc => kt hc H locs ls hP hD hS hl) (fun hc => kf hc H locs ls hP hD hS hl)
theorem j_icmp_lt {g : GT} {own : String} {cc : ByteArray} {k nL9 : Nat} {ws : va_W} {lv : List (Nat × Value)} {pc : Nat} {st : List Value} {x y : Int32} {α : Type} {X Y : Option α} {o : α} (C : Cx g own cc k nL9) (h : (if x < y then X else Y) = some o) (tgt : Nat) {off : Int} (hdg : decode cc pc = .ok (.if_icmp .lt off, 3)) (ht : (pc : Int) + off = (tgt : Int)) (kt : x < y → X = some o → J g ws lv tgt st) (kf : ¬ (x < y) → Y = some o → J g ws lv (pc + 3) st) : J g ws lv pc (.int y :: .int x :: st) := by
  obtain ⟨p, l, e, R, s, m, args, below, meth, c, D, A, Q, cells, slots, nL⟩ := g
  obtain ⟨rfl, hx, hb, hml, hown, hts, hK, hkf, hkl, hce, hsl, hA, hF⟩ := C
  intro H locs ls hP hD hS hl
  exact lv_icmp_lt hx hb hdg ht (fun hc => kt hc (by rw [if_pos hc] at h; exact h) H locs ls hP hD hS hl) (fun hc => kf hc (by rw [if_neg hc] at h; exact h) H locs ls hP hD hS hl)
theorem jv_icmp_lt {g : GT} {own : String} {cc : ByteArray} {k nL9 : Nat} {ws : va_W} {lv : List (Nat × Value)} {pc : Nat} {st : List Value} {x y : Int32} (C : Cx g own cc k nL9) (tgt : Nat) {off : Int} (hdg : decode cc pc = .ok (.if_icmp .lt off, 3)) (ht : (pc : Int) + off = (tgt : Int)) (kt : x < y → J g ws lv tgt st) (kf : ¬ (x < y) → J g ws lv (pc + 3) st) : J g ws lv pc (.int y :: .int x :: st) := by
  obtain ⟨p, l, e, R, s, m, args, below, meth, c, D, A, Q, cells, slots, nL⟩ := g
  obtain ⟨rfl, hx, hb, hml, hown, hts, hK, hkf, hkl, hce, hsl, hA, hF⟩ := C
  intro H locs ls hP hD hS hl
  exact lv_icmp_lt hx hb hdg ht (fun hc => kt hc H locs ls hP hD hS hl) (fun hc => kf hc H locs ls hP hD hS hl)
theorem j_icmp_ge {g : GT} {own : String} {cc : ByteArray} {k nL9 : Nat} {ws : va_W} {lv : List (Nat × Value)} {pc : Nat} {st : List Value} {x y : Int32} {α : Type} {X Y : Option α} {o : α} (C : Cx g own cc k nL9) (h : (if y ≤ x then X else Y) = some o) (tgt : Nat) {off : Int} (hdg : decode cc pc = .ok (.if_icmp .ge off, 3)) (ht : (pc : Int) + off = (tgt : Int)) (kt : y ≤ x → X = some o → J g ws lv tgt st) (kf : ¬ (y ≤ x) → Y = some o → J g ws lv (pc + 3) st) : J g ws lv pc (.int y :: .int x :: st) := by
  obtain ⟨p, l, e, R, s, m, args, below, meth, c, D, A, Q, cells, slots, nL⟩ := g
  obtain ⟨rfl, hx, hb, hml, hown, hts, hK, hkf, hkl, hce, hsl, hA, hF⟩ := C
  intro H locs ls hP hD hS hl
  exact lv_icmp_ge hx hb hdg ht (fun hc => kt hc (by rw [if_pos hc] at h; exact h) H locs ls hP hD hS hl) (fun hc => kf hc (by rw [if_neg hc] at h; exact h) H locs ls hP hD hS hl)
theorem jv_icmp_ge {g : GT} {own : String} {cc : ByteArray} {k nL9 : Nat} {ws : va_W} {lv : List (Nat × Value)} {pc : Nat} {st : List Value} {x y : Int32} (C : Cx g own cc k nL9) (tgt : Nat) {off : Int} (hdg : decode cc pc = .ok (.if_icmp .ge off, 3)) (ht : (pc : Int) + off = (tgt : Int)) (kt : y ≤ x → J g ws lv tgt st) (kf : ¬ (y ≤ x) → J g ws lv (pc + 3) st) : J g ws lv pc (.int y :: .int x :: st) := by
  obtain ⟨p, l, e, R, s, m, args, below, meth, c, D, A, Q, cells, slots, nL⟩ := g
  obtain ⟨rfl, hx, hb, hml, hown, hts, hK, hkf, hkl, hce, hsl, hA, hF⟩ := C
  intro H locs ls hP hD hS hl
  exact lv_icmp_ge hx hb hdg ht (fun hc => kt hc H locs ls hP hD hS hl) (fun hc => kf hc H locs ls hP hD hS hl)
theorem j_icmp_gt {g : GT} {own : String} {cc : ByteArray} {k nL9 : Nat} {ws : va_W} {lv : List (Nat × Value)} {pc : Nat} {st : List Value} {x y : Int32} {α : Type} {X Y : Option α} {o : α} (C : Cx g own cc k nL9) (h : (if y < x then X else Y) = some o) (tgt : Nat) {off : Int} (hdg : decode cc pc = .ok (.if_icmp .gt off, 3)) (ht : (pc : Int) + off = (tgt : Int)) (kt : y < x → X = some o → J g ws lv tgt st) (kf : ¬ (y < x) → Y = some o → J g ws lv (pc + 3) st) : J g ws lv pc (.int y :: .int x :: st) := by
  obtain ⟨p, l, e, R, s, m, args, below, meth, c, D, A, Q, cells, slots, nL⟩ := g
  obtain ⟨rfl, hx, hb, hml, hown, hts, hK, hkf, hkl, hce, hsl, hA, hF⟩ := C
  intro H locs ls hP hD hS hl
  exact lv_icmp_gt hx hb hdg ht (fun hc => kt hc (by rw [if_pos hc] at h; exact h) H locs ls hP hD hS hl) (fun hc => kf hc (by rw [if_neg hc] at h; exact h) H locs ls hP hD hS hl)
theorem jv_icmp_gt {g : GT} {own : String} {cc : ByteArray} {k nL9 : Nat} {ws : va_W} {lv : List (Nat × Value)} {pc : Nat} {st : List Value} {x y : Int32} (C : Cx g own cc k nL9) (tgt : Nat) {off : Int} (hdg : decode cc pc = .ok (.if_icmp .gt off, 3)) (ht : (pc : Int) + off = (tgt : Int)) (kt : y < x → J g ws lv tgt st) (kf : ¬ (y < x) → J g ws lv (pc + 3) st) : J g ws lv pc (.int y :: .int x :: st) := by
  obtain ⟨p, l, e, R, s, m, args, below, meth, c, D, A, Q, cells, slots, nL⟩ := g
  obtain ⟨rfl, hx, hb, hml, hown, hts, hK, hkf, hkl, hce, hsl, hA, hF⟩ := C
  intro H locs ls hP hD hS hl
  exact lv_icmp_gt hx hb hdg ht (fun hc => kt hc H locs ls hP hD hS hl) (fun hc => kf hc H locs ls hP hD hS hl)
theorem j_icmp_le {g : GT} {own : String} {cc : ByteArray} {k nL9 : Nat} {ws : va_W} {lv : List (Nat × Value)} {pc : Nat} {st : List Value} {x y : Int32} {α : Type} {X Y : Option α} {o : α} (C : Cx g own cc k nL9) (h : (if x ≤ y then X else Y) = some o) (tgt : Nat) {off : Int} (hdg : decode cc pc = .ok (.if_icmp .le off, 3)) (ht : (pc : Int) + off = (tgt : Int)) (kt : x ≤ y → X = some o → J g ws lv tgt st) (kf : ¬ (x ≤ y) → Y = some o → J g ws lv (pc + 3) st) : J g ws lv pc (.int y :: .int x :: st) := by
  obtain ⟨p, l, e, R, s, m, args, below, meth, c, D, A, Q, cells, slots, nL⟩ := g
  obtain ⟨rfl, hx, hb, hml, hown, hts, hK, hkf, hkl, hce, hsl, hA, hF⟩ := C
  intro H locs ls hP hD hS hl
  exact lv_icmp_le hx hb hdg ht (fun hc => kt hc (by rw [if_pos hc] at h; exact h) H locs ls hP hD hS hl) (fun hc => kf hc (by rw [if_neg hc] at h; exact h) H locs ls hP hD hS hl)
theorem jv_icmp_le {g : GT} {own : String} {cc : ByteArray} {k nL9 : Nat} {ws : va_W} {lv : List (Nat × Value)} {pc : Nat} {st : List Value} {x y : Int32} (C : Cx g own cc k nL9) (tgt : Nat) {off : Int} (hdg : decode cc pc = .ok (.if_icmp .le off, 3)) (ht : (pc : Int) + off = (tgt : Int)) (kt : x ≤ y → J g ws lv tgt st) (kf : ¬ (x ≤ y) → J g ws lv (pc + 3) st) : J g ws lv pc (.int y :: .int x :: st) := by
  obtain ⟨p, l, e, R, s, m, args, below, meth, c, D, A, Q, cells, slots, nL⟩ := g
  obtain ⟨rfl, hx, hb, hml, hown, hts, hK, hkf, hkl, hce, hsl, hA, hF⟩ := C
  intro H locs ls hP hD hS hl
  exact lv_icmp_le hx hb hdg ht (fun hc => kt hc H locs ls hP hD hS hl) (fun hc => kf hc H locs ls hP hD hS hl)
theorem j_if_eq {g : GT} {own : String} {cc : ByteArray} {k nL9 : Nat} {ws : va_W} {lv : List (Nat × Value)} {pc : Nat} {st : List Value} {x : Int32} {α : Type} {X Y : Option α} {o : α} (C : Cx g own cc k nL9) (h : (if x = 0 then X else Y) = some o) (tgt : Nat) {off : Int} (hdg : decode cc pc = .ok (.ifCond .eq off, 3)) (ht : (pc : Int) + off = (tgt : Int)) (kt : x = 0 → X = some o → J g ws lv tgt st) (kf : ¬ (x = 0) → Y = some o → J g ws lv (pc + 3) st) : J g ws lv pc (.int x :: st) := by
  obtain ⟨p, l, e, R, s, m, args, below, meth, c, D, A, Q, cells, slots, nL⟩ := g
  obtain ⟨rfl, hx, hb, hml, hown, hts, hK, hkf, hkl, hce, hsl, hA, hF⟩ := C
  intro H locs ls hP hD hS hl
  exact lv_if_eq hx hb hdg ht (fun hc => kt hc (by rw [if_pos hc] at h; exact h) H locs ls hP hD hS hl) (fun hc => kf hc (by rw [if_neg hc] at h; exact h) H locs ls hP hD hS hl)
theorem jv_if_eq {g : GT} {own : String} {cc : ByteArray} {k nL9 : Nat} {ws : va_W} {lv : List (Nat × Value)} {pc : Nat} {st : List Value} {x : Int32} (C : Cx g own cc k nL9) (tgt : Nat) {off : Int} (hdg : decode cc pc = .ok (.ifCond .eq off, 3)) (ht : (pc : Int) + off = (tgt : Int)) (kt : x = 0 → J g ws lv tgt st) (kf : ¬ (x = 0) → J g ws lv (pc + 3) st) : J g ws lv pc (.int x :: st) := by
  obtain ⟨p, l, e, R, s, m, args, below, meth, c, D, A, Q, cells, slots, nL⟩ := g
  obtain ⟨rfl, hx, hb, hml, hown, hts, hK, hkf, hkl, hce, hsl, hA, hF⟩ := C
  intro H locs ls hP hD hS hl
  exact lv_if_eq hx hb hdg ht (fun hc => kt hc H locs ls hP hD hS hl) (fun hc => kf hc H locs ls hP hD hS hl)
theorem j_if_ne {g : GT} {own : String} {cc : ByteArray} {k nL9 : Nat} {ws : va_W} {lv : List (Nat × Value)} {pc : Nat} {st : List Value} {x : Int32} {α : Type} {X Y : Option α} {o : α} (C : Cx g own cc k nL9) (h : (if x = 0 then X else Y) = some o) (tgt : Nat) {off : Int} (hdg : decode cc pc = .ok (.ifCond .ne off, 3)) (ht : (pc : Int) + off = (tgt : Int)) (kf : x = 0 → X = some o → J g ws lv (pc + 3) st) (kt : ¬ (x = 0) → Y = some o → J g ws lv tgt st) : J g ws lv pc (.int x :: st) := by
  obtain ⟨p, l, e, R, s, m, args, below, meth, c, D, A, Q, cells, slots, nL⟩ := g
  obtain ⟨rfl, hx, hb, hml, hown, hts, hK, hkf, hkl, hce, hsl, hA, hF⟩ := C
  intro H locs ls hP hD hS hl
  exact lv_if_ne hx hb hdg ht (fun hc => kt hc (by rw [if_neg hc] at h; exact h) H locs ls hP hD hS hl) (fun hc => kf hc (by rw [if_pos hc] at h; exact h) H locs ls hP hD hS hl)
theorem jv_if_ne {g : GT} {own : String} {cc : ByteArray} {k nL9 : Nat} {ws : va_W} {lv : List (Nat × Value)} {pc : Nat} {st : List Value} {x : Int32} (C : Cx g own cc k nL9) (tgt : Nat) {off : Int} (hdg : decode cc pc = .ok (.ifCond .ne off, 3)) (ht : (pc : Int) + off = (tgt : Int)) (kf : x = 0 → J g ws lv (pc + 3) st) (kt : ¬ (x = 0) → J g ws lv tgt st) : J g ws lv pc (.int x :: st) := by
  obtain ⟨p, l, e, R, s, m, args, below, meth, c, D, A, Q, cells, slots, nL⟩ := g
  obtain ⟨rfl, hx, hb, hml, hown, hts, hK, hkf, hkl, hce, hsl, hA, hF⟩ := C
  intro H locs ls hP hD hS hl
  exact lv_if_ne hx hb hdg ht (fun hc => kt hc H locs ls hP hD hS hl) (fun hc => kf hc H locs ls hP hD hS hl)
theorem j_if_lt {g : GT} {own : String} {cc : ByteArray} {k nL9 : Nat} {ws : va_W} {lv : List (Nat × Value)} {pc : Nat} {st : List Value} {x : Int32} {α : Type} {X Y : Option α} {o : α} (C : Cx g own cc k nL9) (h : (if x < 0 then X else Y) = some o) (tgt : Nat) {off : Int} (hdg : decode cc pc = .ok (.ifCond .lt off, 3)) (ht : (pc : Int) + off = (tgt : Int)) (kt : x < 0 → X = some o → J g ws lv tgt st) (kf : ¬ (x < 0) → Y = some o → J g ws lv (pc + 3) st) : J g ws lv pc (.int x :: st) := by
  obtain ⟨p, l, e, R, s, m, args, below, meth, c, D, A, Q, cells, slots, nL⟩ := g
  obtain ⟨rfl, hx, hb, hml, hown, hts, hK, hkf, hkl, hce, hsl, hA, hF⟩ := C
  intro H locs ls hP hD hS hl
  exact lv_if_lt hx hb hdg ht (fun hc => kt hc (by rw [if_pos hc] at h; exact h) H locs ls hP hD hS hl) (fun hc => kf hc (by rw [if_neg hc] at h; exact h) H locs ls hP hD hS hl)
theorem jv_if_lt {g : GT} {own : String} {cc : ByteArray} {k nL9 : Nat} {ws : va_W} {lv : List (Nat × Value)} {pc : Nat} {st : List Value} {x : Int32} (C : Cx g own cc k nL9) (tgt : Nat) {off : Int} (hdg : decode cc pc = .ok (.ifCond .lt off, 3)) (ht : (pc : Int) + off = (tgt : Int)) (kt : x < 0 → J g ws lv tgt st) (kf : ¬ (x < 0) → J g ws lv (pc + 3) st) : J g ws lv pc (.int x :: st) := by
  obtain ⟨p, l, e, R, s, m, args, below, meth, c, D, A, Q, cells, slots, nL⟩ := g
  obtain ⟨rfl, hx, hb, hml, hown, hts, hK, hkf, hkl, hce, hsl, hA, hF⟩ := C
  intro H locs ls hP hD hS hl
  exact lv_if_lt hx hb hdg ht (fun hc => kt hc H locs ls hP hD hS hl) (fun hc => kf hc H locs ls hP hD hS hl)
theorem j_if_ge {g : GT} {own : String} {cc : ByteArray} {k nL9 : Nat} {ws : va_W} {lv : List (Nat × Value)} {pc : Nat} {st : List Value} {x : Int32} {α : Type} {X Y : Option α} {o : α} (C : Cx g own cc k nL9) (h : (if 0 ≤ x then X else Y) = some o) (tgt : Nat) {off : Int} (hdg : decode cc pc = .ok (.ifCond .ge off, 3)) (ht : (pc : Int) + off = (tgt : Int)) (kt : 0 ≤ x → X = some o → J g ws lv tgt st) (kf : ¬ (0 ≤ x) → Y = some o → J g ws lv (pc + 3) st) : J g ws lv pc (.int x :: st) := by
  obtain ⟨p, l, e, R, s, m, args, below, meth, c, D, A, Q, cells, slots, nL⟩ := g
  obtain ⟨rfl, hx, hb, hml, hown, hts, hK, hkf, hkl, hce, hsl, hA, hF⟩ := C
  intro H locs ls hP hD hS hl
  exact lv_if_ge hx hb hdg ht (fun hc => kt hc (by rw [if_pos hc] at h; exact h) H locs ls hP hD hS hl) (fun hc => kf hc (by rw [if_neg hc] at h; exact h) H locs ls hP hD hS hl)
theorem jv_if_ge {g : GT} {own : String} {cc : ByteArray} {k nL9 : Nat} {ws : va_W} {lv : List (Nat × Value)} {pc : Nat} {st : List Value} {x : Int32} (C : Cx g own cc k nL9) (tgt : Nat) {off : Int} (hdg : decode cc pc = .ok (.ifCond .ge off, 3)) (ht : (pc : Int) + off = (tgt : Int)) (kt : 0 ≤ x → J g ws lv tgt st) (kf : ¬ (0 ≤ x) → J g ws lv (pc + 3) st) : J g ws lv pc (.int x :: st) := by
  obtain ⟨p, l, e, R, s, m, args, below, meth, c, D, A, Q, cells, slots, nL⟩ := g
  obtain ⟨rfl, hx, hb, hml, hown, hts, hK, hkf, hkl, hce, hsl, hA, hF⟩ := C
  intro H locs ls hP hD hS hl
  exact lv_if_ge hx hb hdg ht (fun hc => kt hc H locs ls hP hD hS hl) (fun hc => kf hc H locs ls hP hD hS hl)
theorem j_if_gt {g : GT} {own : String} {cc : ByteArray} {k nL9 : Nat} {ws : va_W} {lv : List (Nat × Value)} {pc : Nat} {st : List Value} {x : Int32} {α : Type} {X Y : Option α} {o : α} (C : Cx g own cc k nL9) (h : (if 0 < x then X else Y) = some o) (tgt : Nat) {off : Int} (hdg : decode cc pc = .ok (.ifCond .gt off, 3)) (ht : (pc : Int) + off = (tgt : Int)) (kt : 0 < x → X = some o → J g ws lv tgt st) (kf : ¬ (0 < x) → Y = some o → J g ws lv (pc + 3) st) : J g ws lv pc (.int x :: st) := by
  obtain ⟨p, l, e, R, s, m, args, below, meth, c, D, A, Q, cells, slots, nL⟩ := g
  obtain ⟨rfl, hx, hb, hml, hown, hts, hK, hkf, hkl, hce, hsl, hA, hF⟩ := C
  intro H locs ls hP hD hS hl
  exact lv_if_gt hx hb hdg ht (fun hc => kt hc (by rw [if_pos hc] at h; exact h) H locs ls hP hD hS hl) (fun hc => kf hc (by rw [if_neg hc] at h; exact h) H locs ls hP hD hS hl)
theorem jv_if_gt {g : GT} {own : String} {cc : ByteArray} {k nL9 : Nat} {ws : va_W} {lv : List (Nat × Value)} {pc : Nat} {st : List Value} {x : Int32} (C : Cx g own cc k nL9) (tgt : Nat) {off : Int} (hdg : decode cc pc = .ok (.ifCond .gt off, 3)) (ht : (pc : Int) + off = (tgt : Int)) (kt : 0 < x → J g ws lv tgt st) (kf : ¬ (0 < x) → J g ws lv (pc + 3) st) : J g ws lv pc (.int x :: st) := by
  obtain ⟨p, l, e, R, s, m, args, below, meth, c, D, A, Q, cells, slots, nL⟩ := g
  obtain ⟨rfl, hx, hb, hml, hown, hts, hK, hkf, hkl, hce, hsl, hA, hF⟩ := C
  intro H locs ls hP hD hS hl
  exact lv_if_gt hx hb hdg ht (fun hc => kt hc H locs ls hP hD hS hl) (fun hc => kf hc H locs ls hP hD hS hl)
theorem j_if_le {g : GT} {own : String} {cc : ByteArray} {k nL9 : Nat} {ws : va_W} {lv : List (Nat × Value)} {pc : Nat} {st : List Value} {x : Int32} {α : Type} {X Y : Option α} {o : α} (C : Cx g own cc k nL9) (h : (if x ≤ 0 then X else Y) = some o) (tgt : Nat) {off : Int} (hdg : decode cc pc = .ok (.ifCond .le off, 3)) (ht : (pc : Int) + off = (tgt : Int)) (kt : x ≤ 0 → X = some o → J g ws lv tgt st) (kf : ¬ (x ≤ 0) → Y = some o → J g ws lv (pc + 3) st) : J g ws lv pc (.int x :: st) := by
  obtain ⟨p, l, e, R, s, m, args, below, meth, c, D, A, Q, cells, slots, nL⟩ := g
  obtain ⟨rfl, hx, hb, hml, hown, hts, hK, hkf, hkl, hce, hsl, hA, hF⟩ := C
  intro H locs ls hP hD hS hl
  exact lv_if_le hx hb hdg ht (fun hc => kt hc (by rw [if_pos hc] at h; exact h) H locs ls hP hD hS hl) (fun hc => kf hc (by rw [if_neg hc] at h; exact h) H locs ls hP hD hS hl)
theorem jv_if_le {g : GT} {own : String} {cc : ByteArray} {k nL9 : Nat} {ws : va_W} {lv : List (Nat × Value)} {pc : Nat} {st : List Value} {x : Int32} (C : Cx g own cc k nL9) (tgt : Nat) {off : Int} (hdg : decode cc pc = .ok (.ifCond .le off, 3)) (ht : (pc : Int) + off = (tgt : Int)) (kt : x ≤ 0 → J g ws lv tgt st) (kf : ¬ (x ≤ 0) → J g ws lv (pc + 3) st) : J g ws lv pc (.int x :: st) := by
  obtain ⟨p, l, e, R, s, m, args, below, meth, c, D, A, Q, cells, slots, nL⟩ := g
  obtain ⟨rfl, hx, hb, hml, hown, hts, hK, hkf, hkl, hce, hsl, hA, hF⟩ := C
  intro H locs ls hP hD hS hl
  exact lv_if_le hx hb hdg ht (fun hc => kt hc H locs ls hP hD hS hl) (fun hc => kf hc H locs ls hP hD hS hl)
theorem j_tableIn {g : GT} {own : String} {cc : ByteArray} {k nL9 : Nat} {ws : va_W} {lv : List (Nat × Value)} {pc : Nat} {st : List Value} (C : Cx g own cc k nL9) {dflt lo hi : Int} {offs : Array Int} {len : Nat} {x : Int32} {v : Int} {off : Int} (tgt : Nat) (hx9 : x.toInt = v) (hdg : decode cc pc = .ok (.tableswitch dflt lo hi offs, len)) (h1 : ¬ v < lo) (h2 : ¬ hi < v) (ho : offs[(v - lo).toNat]? = some off) (ht : (pc : Int) + off = (tgt : Int)) (kk : J g ws lv tgt (st)) : J g ws lv pc (.int x :: st) := by
  obtain ⟨p, l, e, R, s, m, args, below, meth, c, D, A, Q, cells, slots, nL⟩ := g
  obtain ⟨rfl, hx, hb, hml, hown, hts, hK, hkf, hkl, hce, hsl, hA, hF⟩ := C
  intro H locs ls hP hD hS hl
  exact lv_tableIn hx hb hdg (by rw [hx9]; exact h1) (by rw [hx9]; exact h2) (by rw [hx9]; exact ho) ht (kk H locs ls hP hD hS hl)
theorem j_tableOut {g : GT} {own : String} {cc : ByteArray} {k nL9 : Nat} {ws : va_W} {lv : List (Nat × Value)} {pc : Nat} {st : List Value} (C : Cx g own cc k nL9) {dflt lo hi : Int} {offs : Array Int} {len : Nat} {x : Int32} (tgt : Nat) (hdg : decode cc pc = .ok (.tableswitch dflt lo hi offs, len)) (h1 : x.toInt < lo ∨ hi < x.toInt) (ht : (pc : Int) + dflt = (tgt : Int)) (kk : J g ws lv tgt (st)) : J g ws lv pc (.int x :: st) := by
  obtain ⟨p, l, e, R, s, m, args, below, meth, c, D, A, Q, cells, slots, nL⟩ := g
  obtain ⟨rfl, hx, hb, hml, hown, hts, hK, hkf, hkl, hce, hsl, hA, hF⟩ := C
  intro H locs ls hP hD hS hl
  exact lv_tableOut hx hb hdg h1 ht (kk H locs ls hP hD hS hl)
theorem j_lookup {g : GT} {own : String} {cc : ByteArray} {k nL9 : Nat} {ws : va_W} {lv : List (Nat × Value)} {pc : Nat} {st : List Value} (C : Cx g own cc k nL9) {dflt : Int} {ps : Array (Int × Int)} {len : Nat} {x : Int32} {off : Int} (tgt : Nat) (hdg : decode cc pc = .ok (.lookupswitch dflt ps, len)) (hp : (ps.toList.zip (ps.toList.drop 1)).all (fun (a, next) => a.1 < next.1) = true) (ho : Op.lookupswitch.offset ps.toList dflt x.toInt = off) (ht : (pc : Int) + off = (tgt : Int)) (kk : J g ws lv tgt (st)) : J g ws lv pc (.int x :: st) := by
  obtain ⟨p, l, e, R, s, m, args, below, meth, c, D, A, Q, cells, slots, nL⟩ := g
  obtain ⟨rfl, hx, hb, hml, hown, hts, hK, hkf, hkl, hce, hsl, hA, hF⟩ := C
  intro H locs ls hP hD hS hl
  exact lv_lookup hx hb hdg hp ho ht (kk H locs ls hP hD hS hl)
theorem j_get {g : GT} {own : String} {cc : ByteArray} {k nL9 : Nat} {ws : va_W} {lv : List (Nat × Value)} {pc : Nat} {st : List Value} (C : Cx g own cc k nL9) {a ci : Nat} {fs : List Value} {C0 ref : String} {T : u_T} {N : Nat} (q : Nat) (he : ws[q]? = some (a, .inr (ci, fs))) (hc : vwCl[ci]? = some (C0, T, N)) (hin : ∀ w ∈ u_ws C0 T N, w ∈ lw_gd) (k0 : Nat) (hk : k0 < N) {idx : Nat} (hw : Cond.fieldLink own idx ref (T k0).2.1 (T k0).2.2.1 ∈ lw_gd) (hre : (T k0).1 = ref) {v : Value} (hv : fs[k0]? = some v) (hdg : decode cc pc = .ok (.getfield idx, 3)) (kk : J g ws lv (pc + 3) (v :: st)) : J g ws lv pc (.ref a :: st) := by
  obtain ⟨p, l, e, R, s, m, args, below, meth, c, D, A, Q, cells, slots, nL⟩ := g
  obtain ⟨rfl, hx, hb, hml, hown, hts, hK, hkf, hkl, hce, hsl, hA, hF⟩ := C
  intro H locs ls hP hD hS hl
  subst hre
  exact va_get hx hb hts hin hown hK hP q he hc k0 hk (hts _ hw) (fun _ h9 => h9) hv hdg (kk H locs ls hP hD hS hl)
theorem j_put {g : GT} {own : String} {cc : ByteArray} {k nL9 : Nat} {ws : va_W} {lv : List (Nat × Value)} {pc : Nat} {st : List Value} (C : Cx g own cc k nL9) {a ci : Nat} {fs : List Value} {C0 ref : String} {T : u_T} {N : Nat} {tyf : Nat → FieldType} (q : Nat) (he : ws[q]? = some (a, .inr (ci, fs))) (hc : vwCl[ci]? = some (C0, T, N)) (hin : ∀ w ∈ u_ws C0 T N, w ∈ lw_gd) (hty : ∀ k, k < N → parseFieldDescriptor (T k).2.2.1 = some (tyf k)) (hnm : ∀ a, a < N → ∀ b, b < N → a ≠ b → (T a).2.1 ≠ (T b).2.1) (k0 : Nat) (hk : k0 < N) {idx : Nat} (hw : Cond.fieldLink own idx ref (T k0).2.1 (T k0).2.2.1 ∈ lw_gd) (hre : (T k0).1 = ref) (hfin : (T k0).2.2.2 = false) {v : Value} (hn : narrow (tyf k0) v = v) (hfit : fits (tyf k0) v = true) (hl0 : k0 < fs.length) (hdg : decode cc pc = .ok (.putfield idx, 3)) (kk : J g (ws.set q (a, .inr (ci, fs.set k0 v))) lv (pc + 3) (st)) : J g ws lv pc (v :: .ref a :: st) := by
  obtain ⟨p, l, e, R, s, m, args, below, meth, c, D, A, Q, cells, slots, nL⟩ := g
  obtain ⟨rfl, hx, hb, hml, hown, hts, hK, hkf, hkl, hce, hsl, hA, hF⟩ := C
  intro H locs ls hP hD hS hl
  subst hre
  exact va_put hx hb hts hin tyf hty hnm hown hK hP hD hS q he hc k0 hk (hts _ hw) (fun _ h9 => h9) hfin (hty k0 hk) hn hfit hl0 hdg (fun H1 locs1 hP1 hD1 hS1 => kk H1 locs1 ls hP1 hD1 hS1 hl)
def wsU (y : MethodName) (b : ByteArray) (n : Nat) (ret : Option FieldType) : List Cond := .code y b n ret :: lw_gd
/-- the contract: from the world W1 and these arguments the method returns ro and leaves the world W2 -/
def CT (l : Launch) (D : va_G) (y : MethodName) (b : ByteArray) (n : Nat) (ret : Option FieldType) (k : Nat) (As : List Value) (W1 W2 : va_W) (ro : Option Value) : Prop :=
  ∀ sz : Nat, Met l y (wsU y b n ret) (rmk k) (va_Pc As (fun U => U.heap.size = sz ∧ va_P D vwCl W1 U.heap ∧ va_K D vwCl (jty D) U ∧ va_D (fun _ => True) W1 ∧ SF D (va_A W1 sz) U U.heap))
    (fun _ st oc t => oc = .returned ro ∧ va_P D vwCl W2 t.heap ∧ va_F (va_A W1 sz) st t) 0 0 (va_A W1 sz)
def En (g : GT) (ret : Option FieldType) (W2 : va_W) (ro : Option Value) : Prop :=
  match g with
  | (_, _, _, _, s, _, args, below, meth, _, D, A, Q, cells, slots, _) =>
    meth.sig.returnType = ret ∧ meth.locks = false ∧ ∃ (Qc : Array Value → State → Outcome → State → Prop) (free : Addr → Prop), Q = MQ below Qc args s cells slots free ∧ (∀ q, A q → free q) ∧
      ∀ (t : State) (H : Heap) (locs : List Loc), va_P D vwCl W2 H → va_S A s.heap H locs → t.heap = H → s.WarmedH t.vm → Qc args s (.returned ro) t
theorem CT.of {l : Launch} {D : va_G} {y : MethodName} {b : ByteArray} {n : Nat} {ret : Option FieldType} {k : Nat} {As : List Value} {W1 W2 : va_W} {ro : Option Value} {na : Nat} (M : MOK y b n ret na) (hAs : (lg_sl As).length ≤ n)
    (body : ∀ g : GT, gl g = l → gD g = D → Cx g y.cls b k n → En g ret W2 ro → J g W1 (lv_args 0 As) 0 []) : CT l D y b n ret k As W1 W2 ro := by
  intro sz
  refine Met.ofW (cc := b) (maxL := n) (ret := ret) M.2.2.2.1 rfl ?_
  intro p e s m args below meth c s₁ B hml hv
  obtain ⟨rfl, hsz, hP, hK, hD0, hF⟩ := hv
  subst hsz
  have hts := atoms_spec (ws := wsU y b n ret) B.pre
  have hown : s.vm.findClass y.cls = some m.cls := findClass_of_methodNamed B.named
  have hA : ∀ q : Nat, s.heap.size ≤ q → va_A W1 s.heap.size q := fun q h => Or.inr h
  have hl := lv_entry As (n := n) hAs
  rw [lg_entry_eq]
  generalize (lg_sl As ++ List.replicate (n - (lg_sl As).length) Slot.unset).toArray = ls at hl ⊢
  exact body (p, l, e, rmk k, s, m, As.toArray, below, meth, c, D, va_A W1 s.heap.size, MQ below (fun _ st oc t => oc = .returned ro ∧ va_P D vwCl W2 t.heap ∧ va_F (va_A W1 s.heap.size) st t) As.toArray s 0 0 (va_A W1 s.heap.size), 0, 0, n) rfl rfl
    ⟨rfl, B.exec, B.bytes, hml, hown, fun w hw => hts w (List.mem_cons_of_mem _ hw), hK, Nat.le_refl _, Nat.le_refl _, Nat.zero_le _, Nat.zero_le _, hA, hF⟩
    ⟨B.returns, B.notSynchronized, _, _, rfl, fun q h => h, fun t H locs hP hS ht hW => ⟨rfl, by rw [ht]; exact hP, hS.F ht⟩⟩ s.heap [] ls hP hD0.self va_S.rf hl
theorem j_iret {g : GT} {own : String} {cc : ByteArray} {k nL9 : Nat} {ws : va_W} {lv : List (Nat × Value)} {pc : Nat} {v : Int32} (C : Cx g own cc k nL9) (E : En g (some .int) ws (some (.int v))) (hdg : decode cc pc = .ok (.ireturn, 1)) : J g ws lv pc [.int v] := by
  obtain ⟨p, l, e, R, s, m, args, below, meth, c, D, A, Q, cells, slots, nL⟩ := g
  obtain ⟨rfl, hx, hb, -⟩ := C
  obtain ⟨hr, hlocks, Qc, free, rfl, hfr, hq⟩ := E
  intro H locs ls hP hD hS hl
  exact W.iret hx hb hr (fun t ht hW => hq t H locs hP hS ht hW) (fun q h => hfr _ (hS.2.2 q h)) hdg hlocks
theorem j_vret {g : GT} {own : String} {cc : ByteArray} {k nL9 : Nat} {ws : va_W} {lv : List (Nat × Value)} {pc : Nat} (C : Cx g own cc k nL9) (E : En g none ws none) (hdg : decode cc pc = .ok (.return_, 1)) : J g ws lv pc [] := by
  obtain ⟨p, l, e, R, s, m, args, below, meth, c, D, A, Q, cells, slots, nL⟩ := g
  obtain ⟨rfl, hx, hb, -⟩ := C
  obtain ⟨hr, hlocks, Qc, free, rfl, hfr, hq⟩ := E
  intro H locs ls hP hD hS hl
  exact W.vret hx hb hr (fun t ht hW => hq t H locs hP hS ht hW) (fun q h => hfr _ (hS.2.2 q h)) hdg hlocks
theorem j_lret {g : GT} {own : String} {cc : ByteArray} {k nL9 : Nat} {ws : va_W} {lv : List (Nat × Value)} {pc : Nat} {v : Int64} (C : Cx g own cc k nL9) (E : En g (some .long) ws (some (.long v))) (hdg : decode cc pc = .ok (.lreturn, 1)) : J g ws lv pc [.long v] := by
  obtain ⟨p, l, e, R, s, m, args, below, meth, c, D, A, Q, cells, slots, nL⟩ := g
  obtain ⟨rfl, hx, hb, -⟩ := C
  obtain ⟨hr, hlocks, Qc, free, rfl, hfr, hq⟩ := E
  intro H locs ls hP hD hS hl
  exact W.lret hx hb hr (fun t ht hW => hq t H locs hP hS ht hW) (fun q h => hfr _ (hS.2.2 q h)) hdg hlocks
/-- a boolean goes out, or into a field: it is 0 or 1 -/
def gb {α : Type} (v : Int32) (X : Option α) : Option α := if v = 0 ∨ v = 1 then X else none
theorem of_gb {α : Type} {v : Int32} {X : Option α} {o : α} (h : gb v X = some o) : (narrow .boolean (.int v) = .int v ∧ fits .boolean (.int v) = true) ∧ X = some o := by
  unfold gb at h
  split at h
  · rename_i hc
    rcases hc with rfl | rfl
    · exact ⟨⟨rfl, rfl⟩, h⟩
    · exact ⟨⟨rfl, rfl⟩, h⟩
  · cases h
theorem j_zret {g : GT} {own : String} {cc : ByteArray} {k nL9 : Nat} {ws : va_W} {lv : List (Nat × Value)} {pc : Nat} {v : Int32} (C : Cx g own cc k nL9) (E : En g (some .boolean) ws (some (.int v))) (hn : narrow .boolean (.int v) = .int v) (hdg : decode cc pc = .ok (.ireturn, 1)) : J g ws lv pc [.int v] := by
  obtain ⟨p, l, e, R, s, m, args, below, meth, c, D, A, Q, cells, slots, nL⟩ := g
  obtain ⟨rfl, hx, hb, -⟩ := C
  obtain ⟨hr, hlocks, Qc, free, rfl, hfr, hq⟩ := E
  intro H locs ls hP hD hS hl
  exact W.zret hx hb hr hn (fun t ht hW => hq t H locs hP hS ht hW) (fun q h => hfr _ (hS.2.2 q h)) hdg hlocks
theorem j_aret {g : GT} {own : String} {cc : ByteArray} {k nL9 : Nat} {ws : va_W} {lv : List (Nat × Value)} {pc a : Nat} {rt : FieldType} (C : Cx g own cc k nL9) (E : En g (some rt) ws (some (.ref a))) (hrt : (∃ n, rt = .object n) ∨ ∃ t, rt = .array t) (hdg : decode cc pc = .ok (.areturn, 1)) : J g ws lv pc [.ref a] := by
  obtain ⟨p, l, e, R, s, m, args, below, meth, c, D, A, Q, cells, slots, nL⟩ := g
  obtain ⟨rfl, hx, hb, -⟩ := C
  obtain ⟨hr, hlocks, Qc, free, rfl, hfr, hq⟩ := E
  intro H locs ls hP hD hS hl
  exact W.aret hx hb hr hrt (Or.inr ⟨a, rfl⟩) (fun t ht hW => hq t H locs hP hS ht hW) (fun q h => hfr _ (hS.2.2 q h)) hdg hlocks
/-- the cells at the places 'is' become those of w2 -/
def wput (ws : va_W) : List Nat → va_W → va_W
  | i :: is, q :: w2 => wput (ws.set i q) is w2
  | _, _ => ws
def wok (ws : va_W) : List Nat → va_W → Prop
  | i :: is, q :: w2 => (∃ e0, ws[i]? = some (q.1, e0)) ∧ wok ws is w2
  | [], [] => True
  | _, _ => False
theorem wok_set {ws : va_W} {i : Nat} {q : Nat × va_E} {e0 : va_E} (hi : ws[i]? = some (q.1, e0)) : ∀ (is : List Nat) (w2 : va_W), wok ws is w2 → wok (ws.set i q) is w2
  | [], [], _ => trivial
  | [], _ :: _, h => h.elim
  | _ :: _, [], h => h.elim
  | j :: is, r :: w2, h => by
    obtain ⟨⟨e1, h1⟩, h2⟩ := h
    refine ⟨?_, wok_set hi is w2 h2⟩
    by_cases hij : j = i
    · subst hij
      rw [hi] at h1
      have h3 : q.1 = r.1 := by injection h1 with h1; exact (Prod.mk.inj h1).1
      exact ⟨q.2, by rw [List.getElem?_set_self (List.getElem?_eq_some_iff.mp hi).1, ← h3]⟩
    · exact ⟨e1, by rw [List.getElem?_set_ne (Ne.symm hij)]; exact h1⟩
theorem wok_of {ws : va_W} : ∀ (is : List Nat) (w1 w2 : va_W), is.map (fun i => ws[i]?) = w1.map some → w2.map (fun q => q.1) = w1.map (fun q => q.1) → wok ws is w2
  | [], [], [], _, _ => trivial
  | [], [], _ :: _, _, h => by cases h
  | [], _ :: _, _, h, _ => by cases h
  | _ :: _, [], _, h, _ => by cases h
  | _ :: _, _ :: _, [], _, h => by cases h
  | i :: is, q :: w1, r :: w2, h, h2 => by
    simp only [List.map_cons, List.cons.injEq] at h h2
    exact ⟨⟨q.2, by rw [h.1, h2.1]⟩, wok_of is w1 w2 h.2 h2.2⟩
theorem wput_D {A : Nat → Prop} : ∀ (is : List Nat) (ws w2 : va_W), va_D A ws → wok ws is w2 → va_D A (wput ws is w2)
  | [], ws, w2, h, _ => by unfold wput; exact h
  | _ :: _, ws, [], h, _ => by unfold wput; exact h
  | i :: is, ws, q :: w2, h, hk => by
    obtain ⟨⟨e0, h1⟩, h2⟩ := hk
    unfold wput
    exact wput_D is _ w2 (h.set (e := q.2) h1) (wok_set h1 is w2 h2)
theorem wput_at : ∀ (is : List Nat) (ws w2 : va_W) (k : Nat) (q : Nat × va_E), is.length = w2.length → (wput ws is w2)[k]? = some q → q ∈ w2 ∨ (ws[k]? = some q ∧ k ∉ is)
  | [], ws, [], k, q, _, h => by unfold wput at h; exact Or.inr ⟨h, List.not_mem_nil⟩
  | [], _, _ :: _, _, _, hl, _ => by cases hl
  | _ :: _, _, [], _, _, hl, _ => by cases hl
  | i :: is, ws, r :: w2, k, q, hl, h => by
    unfold wput at h
    rcases wput_at is (ws.set i r) w2 k q (by simpa using hl) h with h1 | ⟨h1, h2⟩
    · exact Or.inl (List.mem_cons_of_mem _ h1)
    · by_cases hki : k = i
      · subst hki
        by_cases hlt : k < ws.length
        · rw [List.getElem?_set_self hlt] at h1
          cases h1
          exact Or.inl List.mem_cons_self
        · rw [List.getElem?_eq_none (by rw [List.length_set]; omega)] at h1
          cases h1
      · rw [List.getElem?_set_ne (Ne.symm hki)] at h1
        exact Or.inr ⟨h1, fun z => by rcases List.mem_cons.mp z with z | z; exact hki z; exact h2 z⟩
theorem wput_P {A : Nat → Prop} {D : va_G} {ws w1 w2 : va_W} {is : List Nat} {H H1 : Heap} (hP : va_P D vwCl ws H) (hD : va_D A ws) (hC : is.map (fun i => ws[i]?) = w1.map some) (hsm : w2.map (fun q => q.1) = w1.map (fun q => q.1))
    (hk : ∀ q : Nat, q < H.size → ¬ va_A w1 H.size q → H1[q]? = H[q]?) (hP1 : va_P D vwCl w2 H1) : va_P D vwCl (wput ws is w2) H1 := by
  have hlen : is.length = w2.length := by
    have h1 := congrArg List.length hC
    have h2 := congrArg List.length hsm
    simp only [List.length_map] at h1 h2
    omega
  intro k q hq
  rcases wput_at is ws w2 k q hlen hq with h | ⟨h1, h2⟩
  · obtain ⟨i, hi⟩ := List.getElem?_of_mem h
    exact hP1 i q hi
  · have hlt := (hP k q h1).lt
    refine (hP k q h1).kept (hk q.1 hlt (fun z => ?_))
    rcases z with ⟨k2, e2, z⟩ | z
    · have h3 : (is.map (fun i => ws[i]?))[k2]? = some (some (q.1, e2)) := by rw [hC, List.getElem?_map, z]; rfl
      rw [List.getElem?_map] at h3
      cases hi : is[k2]? with
      | none => rw [hi] at h3; cases h3
      | some i =>
        rw [hi] at h3
        have hki := hD.1 k i q (q.1, e2) h1 (Option.some.inj h3) rfl
        exact h2 (hki ▸ List.mem_of_getElem? hi)
    · omega
theorem wsU_good {y : MethodName} {b : ByteArray} {n : Nat} {ret : Option FieldType} (h : Cond.code y b n ret ∈ lw_gd) : GoodIn lw_gd (wsU y b n ret) := fun w hw => by
  have hm : w ∈ lw_gd := by
    rcases List.mem_cons.mp hw with e | e
    · rw [e]; exact h
    · exact e
  exact ⟨hm, good_of_word (lw_gd_good w hm)⟩
/-- what a call leaves, by its run -/
theorem j_back {p : Program} {l : Launch} {e : Env} {R : Room} {s : State} {m : MethodId} {args : Array Value} {below : List Frame} {meth : Method} {c : Code} {D : va_G} {A : Nat → Prop} {Q : State → Prop} {cells slots nL : Nat} {ws W1 W2 : va_W} {lv : List (Nat × Value)} {pc : Nat} {st st0 : List Value} {ro : Option Value} {H : Heap} {locs : List Loc} {ls : Array Slot} {is : List Nat}
    (hP : va_P D vwCl ws H) (hD : va_D A ws) (hS : va_S A s.heap H locs) (hA : ∀ q : Nat, s.heap.size ≤ q → A q) (hl : lv_has ls nL lv) (hC : is.map (fun i => ws[i]?) = W1.map some) (hsm : W2.map (fun q => q.1) = W1.map (fun q => q.1))
    (run : va_Run p l e R s m args below meth c H locs cells slots 0 0 (F0 m pc ls st0) st (fun st oc t => oc = .returned ro ∧ va_P D vwCl W2 t.heap ∧ va_F (va_A W1 H.size) st t) (va_A W1 H.size))
    (kk : J (p, l, e, R, s, m, args, below, meth, c, D, A, Q, cells, slots, nL) (wput ws is W2) lv (pc + 3) (ro.toList ++ st)) : W p l e R s m args below meth c H locs cells slots Q (F0 m pc ls st0) := by
  intro T hT X
  have hFc := va_free (wc := W1) hD hS hA is hC
  obtain ⟨v, st₀, t, T', L, h0, X', hL, e1, e2, ⟨hv, hPt, hz, hk⟩, stp⟩ := run T hT X
  cases hv
  rw [h0] at hz hk
  have hk' : ∀ q : Nat, q < H.size → ¬ va_A W1 H.size q → T'.heap[q]? = H[q]? := fun q h1 h2 => by rw [e1]; exact hk q h1 h2
  obtain ⟨t2, a1, b1⟩ := kk T'.heap (locs ++ L) ls (wput_P hP hD hC hsm hk' (by rw [e1]; exact hPt)) (wput_D is ws W2 hD (wok_of is W1 W2 hC hsm))
    ⟨Nat.le_trans hS.1 (by rw [e1]; exact hz), fun q h1 h2 => by rw [hk' q (Nat.lt_of_lt_of_le h1 hS.1) (fun z => h2 (hFc q z))]; exact hS.2.1 q h1 h2, fun q hq => by
      rcases List.mem_append.mp hq with h | h
      · exact hS.2.2 q h
      · exact hFc _ (hL q h)⟩ hl T' rfl X'
  exact ⟨t2, stp t2 a1, b1⟩
theorem j_pre {l : Launch} {s : State} {D : va_G} {A : Nat → Prop} {ws W1 : va_W} {H : Heap} {locs : List Loc} {is : List Nat} {As : List Value} (hK : va_K D vwCl (jty D) s) (hP : va_P D vwCl ws H) (hD : va_D A ws) (hS : va_S A s.heap H locs) (hA : ∀ q : Nat, s.heap.size ≤ q → A q) (hF : SF D A s s.heap) (hC : is.map (fun i => ws[i]?) = W1.map some) (hnd : va_nd is = true) :
    FrameBlind (va_Pc As (fun U => U.heap.size = H.size ∧ va_P D vwCl W1 U.heap ∧ va_K D vwCl (jty D) U ∧ va_D (fun _ => True) W1 ∧ SF D (va_A W1 H.size) U U.heap)) ∧ ∀ U : State, U.heap = H → s.WarmedH U.vm → va_Pc As (fun U => U.heap.size = H.size ∧ va_P D vwCl W1 U.heap ∧ va_K D vwCl (jty D) U ∧ va_D (fun _ => True) W1 ∧ SF D (va_A W1 H.size) U U.heap) As.toArray U := by
  have hFc := va_free (wc := W1) hD hS hA is hC
  have hP1 : va_P D vwCl W1 H := by
    refine hP.sub is ?_
    have h1 : is.filterMap (fun i => ws[i]?) = (is.map (fun i => ws[i]?)).filterMap id := by rw [List.filterMap_map]; rfl
    rw [h1, hC, List.filterMap_map]
    show W1.filterMap (fun q => id (some q)) = W1
    exact List.filterMap_some
  have hD1 : va_D A W1 := hD.sub is hnd hC
  refine ⟨fun a U g mk q => ?_, fun U hU hW => ?_⟩
  · obtain ⟨q0, q1, q2, q3, q4, q5⟩ := q
    exact ⟨q0, q1, q2, va_K.moved (u := U) (U := U.calling g mk a) (Vm.Alike.refl U.vm) q3, q4, SF.same (s := U) rfl q5⟩
  · refine ⟨rfl, by rw [hU], by rw [hU]; exact hP1, va_K.moved hW.alike hK, hD1.weaken (fun _ _ _ _ => trivial), ?_⟩
    rw [hU]
    exact SF.warm hW (SF.kept hS.2.1 hFc hF)
theorem j_callV {g : GT} {own : String} {cc : ByteArray} {k nL9 : Nat} {ws : va_W} {lv : List (Nat × Value)} {pc : Nat} {st st0 : List Value} {y : MethodName} {b : ByteArray} {nn na k1 idx : Nat} {ret : Option FieldType} {As : List Value} {W1 W2 : va_W} {ro : Option Value} {a ci N : Nat} {fs : List Value} {T : u_T} (C : Cx g own cc k nL9) (M : MOK y b nn ret na) (hV : Cond.instanceMethod y ∈ lw_gd ∧ Cond.selects y.cls y y ∈ lw_gd) (hlk : Cond.methodLink own idx y ∈ lw_gd) (K : CT (gl g) (gD g) y b nn ret k1 (.ref a :: As) W1 W2 ro) (hk : k1 < k) (q : Nat) (he : ws[q]? = some (a, .inr (ci, fs))) (hc : vwCl[ci]? = some (y.cls, T, N)) (is : List Nat) (hC : is.map (fun i => ws[i]?) = W1.map some) (hnd : va_nd is = true) (hsm : W2.map (fun q => q.1) = W1.map (fun q => q.1)) (hna : As.length = na) (hst : st0 = As.reverse ++ .ref a :: st) (hcat : (st.map fun v => v.category).sum ≤ 8) (hdg : decode cc pc = .ok (.invokevirtual idx, 3)) (kk : J g (wput ws is W2) lv (pc + 3) (ro.toList ++ st)) : J g ws lv pc st0 := by
  obtain ⟨p, l, e, R, s, m, args, below, meth, c, D, A, Q, cells, slots, nL⟩ := g
  obtain ⟨rfl, hx, hb, hml, hown, hts, hK, hkf, hkl, hce, hsl, hA, hF⟩ := C
  obtain ⟨M1, M2, M3, M4, M5⟩ := M
  intro H locs ls hP hD hS hl
  have hpre := j_pre (l := l) (As := .ref a :: As) hK hP hD hS hA hF hC hnd
  exact j_back (l := l) hP hD hS hA hl hC hsm (va_runV (As := As) (rest := st) (g := F0 m pc ls st0) ⟨hx, hb, hml, hown, hts⟩ (K H.size)
    ⟨callB_of na hts (wsU_good M1) rfl rfl rfl (hts _ M2) (hts _ hlk) M3 ⟨by show k1 + 1 ≤ R.frames; omega, by show 8 + (nn + 11) + 40 * k1 ≤ R.locals; omega⟩, hts _ hV.1, hts _ hV.2⟩
    ⟨hpre.1, va_recv hK hP hc he, hpre.2⟩ rfl hna hl.1 hst (lv_room hcat) hdg ⟨hce, hsl⟩) kk
theorem j_callS {g : GT} {own : String} {cc : ByteArray} {k nL9 : Nat} {ws : va_W} {lv : List (Nat × Value)} {pc : Nat} {st st0 : List Value} {y : MethodName} {b : ByteArray} {nn na k1 idx : Nat} {ret : Option FieldType} {As : List Value} {W1 W2 : va_W} {ro : Option Value} (C : Cx g own cc k nL9) (M : MOK y b nn ret na) (hV : Cond.static y ∈ lw_gd) (hlk : Cond.methodLink own idx y ∈ lw_gd) (K : CT (gl g) (gD g) y b nn ret k1 As W1 W2 ro) (hk : k1 < k) (is : List Nat) (hC : is.map (fun i => ws[i]?) = W1.map some) (hnd : va_nd is = true) (hsm : W2.map (fun q => q.1) = W1.map (fun q => q.1)) (hna : As.length = na) (hst : st0 = As.reverse ++ st) (hcat : (st.map fun v => v.category).sum ≤ 8) (hdg : decode cc pc = .ok (.invokestatic idx, 3)) (kk : J g (wput ws is W2) lv (pc + 3) (ro.toList ++ st)) : J g ws lv pc st0 := by
  obtain ⟨p, l, e, R, s, m, args, below, meth, c, D, A, Q, cells, slots, nL⟩ := g
  obtain ⟨rfl, hx, hb, hml, hown, hts, hK, hkf, hkl, hce, hsl, hA, hF⟩ := C
  obtain ⟨M1, M2, M3, M4, M5⟩ := M
  intro H locs ls hP hD hS hl
  have hpre := j_pre (l := l) (As := As) hK hP hD hS hA hF hC hnd
  exact j_back (l := l) hP hD hS hA hl hC hsm (va_runS (As := As) (rest := st) (g := F0 m pc ls st0) ⟨hx, hb, hml, hown, hts⟩ (K H.size)
    ⟨callB_of na hts (wsU_good M1) rfl rfl rfl (hts _ M2) (hts _ hlk) M3 ⟨by show k1 + 1 ≤ R.frames; omega, by show 8 + (nn + 11) + 40 * k1 ≤ R.locals; omega⟩, hts _ hV⟩
    hpre rfl hna hl.1 hst (lv_room hcat) hdg ⟨hce, hsl⟩) kk
