def gset (g : GT) (c s : Nat) : GT := (g.1, g.2.1, g.2.2.1, g.2.2.2.1, g.2.2.2.2.1, g.2.2.2.2.2.1, g.2.2.2.2.2.2.1, g.2.2.2.2.2.2.2.1, g.2.2.2.2.2.2.2.2.1, g.2.2.2.2.2.2.2.2.2.1, g.2.2.2.2.2.2.2.2.2.2.1, g.2.2.2.2.2.2.2.2.2.2.2.1, g.2.2.2.2.2.2.2.2.2.2.2.2.1, c, s, g.2.2.2.2.2.2.2.2.2.2.2.2.2.2.2)
/-- the room in all -/
def Rm (g : GT) (C S : Nat) : Prop := match g with
  | (_, _, _, R, _, _, _, _, _, _, _, _, _, _, _, _) => C ≤ R.cells ∧ S ≤ R.slots
theorem Cx.set {g : GT} {own : String} {cc : ByteArray} {k n C S : Nat} (h : Cx g own cc k n) (hR : Rm g C S) (c s : Nat) (hc : c ≤ C) (hs : s ≤ S) : Cx (gset g c s) own cc k n := by
  obtain ⟨p, l, e, R, s0, m, args, below, meth, cd, D, A, Q, cells, slots, nL⟩ := g
  obtain ⟨h1, h2, h3, h4, h5, h6, h7, h8, h9, h10, h11, h12, h13⟩ := h
  obtain ⟨r1, r2⟩ := hR
  exact ⟨h1, h2, h3, h4, h5, h6, h7, h8, h9, show c ≤ R.cells by omega, show s ≤ R.slots by omega, h12, h13⟩
/-- the end of a constructor: its room is the claim's own, its world one of 'mk' -/
def EnC (g : GT) (mk : (Nat → Nat) → va_W) : Prop := match g with
  | (_, _, _, R, s, _, args, below, meth, _, D, A, Q, _, _, _) =>
    meth.sig.returnType = none ∧ meth.locks = false ∧ meth.name = "<init>" ∧ ∃ (Qc : Array Value → State → Outcome → State → Prop) (free : Addr → Prop), Q = MQ below Qc args s R.cells R.slots free ∧ (∀ q, A q → free q) ∧
      ∀ (t : State) (H : Heap) (locs : List Loc) (q : Nat → Nat), va_P D vwCl (mk q) H → va_D A (mk q) → va_S A s.heap H locs → t.heap = H → s.WarmedH t.vm → Qc args s (.returned none) t
theorem EnC.set {g : GT} {mk : (Nat → Nat) → va_W} (h : EnC g mk) (c s : Nat) : EnC (gset g c s) mk := by
  obtain ⟨p, l, e, R, s0, m, args, below, meth, cd, D, A, Q, cells, slots, nL⟩ := g
  exact h
def CTn (l : Launch) (D : va_G) (y : MethodName) (b : ByteArray) (n k C S q0 : Nat) (e0 : va_E) (mk : (Nat → Nat) → va_W) : Prop :=
  ∀ sz : Nat, Met l y (wsU y b n none) { frames := k, cells := C, slots := S, locals := 40 * k } (va_Pc [.ref q0] (fun U => U.heap.size = sz ∧ va_P D vwCl [(q0, e0)] U.heap ∧ va_K D vwCl (jty D) U ∧ va_D (fun _ => True) [(q0, e0)] ∧ SF D (va_A [(q0, e0)] sz) U U.heap))
    (fun _ st oc t => oc = .returned none ∧ (∃ q : Nat → Nat, va_P D vwCl (mk q) t.heap ∧ va_D (va_A [(q0, e0)] sz) (mk q)) ∧ va_F (va_A [(q0, e0)] sz) st t) C S (va_A [(q0, e0)] sz)
theorem CTn.of {l : Launch} {D : va_G} {y : MethodName} {b : ByteArray} {n k C S q0 : Nat} {e0 : va_E} {mk : (Nat → Nat) → va_W} {na : Nat} (M : MOK y b n none na) (hn : 1 ≤ n) (hy : y.name = "<init>")
    (body : ∀ g : GT, gl g = l → gD g = D → Cx g y.cls b k n → Rm g C S → EnC g mk → J (gset g 0 0) [(q0, e0)] [(0, .ref q0)] 0 []) : CTn l D y b n k C S q0 e0 mk := by
  intro sz
  refine Met.ofW (cc := b) (maxL := n) (ret := none) M.2.2.2.1 rfl ?_
  intro p e s m args below meth c s₁ B hml hv
  obtain ⟨rfl, hsz, hP, hK, hD0, hF⟩ := hv
  subst hsz
  have hts := atoms_spec (ws := wsU y b n none) B.pre
  have hown : s.vm.findClass y.cls = some m.cls := findClass_of_methodNamed B.named
  have hin : meth.name = "<init>" := by have := (name_of_methodNamed B.named B.method).1; rw [hy] at this; exact this
  have hA : ∀ q : Nat, s.heap.size ≤ q → va_A [(q0, e0)] s.heap.size q := fun q h => Or.inr h
  have hl := lv_entry [.ref q0] (n := n) (by exact hn)
  rw [lg_entry_eq]
  generalize (lg_sl [.ref q0] ++ List.replicate (n - (lg_sl [.ref q0]).length) Slot.unset).toArray = ls at hl ⊢
  exact body (p, l, e, { frames := k, cells := C, slots := S, locals := 40 * k }, s, m, [Value.ref q0].toArray, below, meth, c, D, va_A [(q0, e0)] s.heap.size, MQ below (fun _ st oc t => oc = .returned none ∧ (∃ q : Nat → Nat, va_P D vwCl (mk q) t.heap ∧ va_D (va_A [(q0, e0)] s.heap.size) (mk q)) ∧ va_F (va_A [(q0, e0)] s.heap.size) st t) [Value.ref q0].toArray s C S (va_A [(q0, e0)] s.heap.size), 0, 0, n) rfl rfl
    ⟨rfl, B.exec, B.bytes, hml, hown, fun w hw => hts w (List.mem_cons_of_mem _ hw), hK, Nat.le_refl _, Nat.le_refl _, Nat.zero_le _, Nat.zero_le _, hA, hF⟩ ⟨Nat.le_refl _, Nat.le_refl _⟩
    ⟨B.returns, B.notSynchronized, hin, _, _, rfl, fun q h => h, fun t H locs q hP hDq hS ht hW => ⟨rfl, ⟨q, by rw [ht]; exact hP, hDq⟩, hS.F ht⟩⟩ s.heap [] ls hP hD0.self va_S.rf hl
theorem j_vretC {g : GT} {own : String} {cc : ByteArray} {k nL9 : Nat} {mk : (Nat → Nat) → va_W} {lv : List (Nat × Value)} {pc : Nat} (q : Nat → Nat) (C9 : Cx g own cc k nL9) (E : EnC g mk) (hdg : decode cc pc = .ok (.return_, 1)) : J g (mk q) lv pc [] := by
  obtain ⟨p, l, e, R, s, m, args, below, meth, c, D, A, Q, cells, slots, nL⟩ := g
  obtain ⟨rfl, hx, hb, hml, hown, hts, hK, hkf, hkl, hce, hsl, hA, hF⟩ := C9
  obtain ⟨hr, hlocks, hin, Qc, free, rfl, hfr, hq⟩ := E
  intro H locs ls hP hD hS hl
  refine W.widen (k := R.cells) (n := R.slots) hce hsl ?_
  exact W.vret hx hb hr (fun t ht hW => hq t H locs q hP hD hS ht hW) (fun q h => hfr _ (hS.2.2 q h)) hdg hlocks
theorem j_objInit {g : GT} {own : String} {cc : ByteArray} {k nL9 : Nat} {ws : va_W} {lv : List (Nat × Value)} {pc : Nat} {st : List Value} {a idx : Nat} (C : Cx g own cc k nL9) (hk : 1 ≤ k) (hlk : Cond.methodLink own idx Lib.objectInit ∈ lw_gd) (hin : Cond.instanceMethod Lib.objectInit ∈ lw_gd) (hco : Cond.code Lib.objectInit ⟨#[0xb1]⟩ 1 none ∈ lw_gd) (hcat : (st.map fun v => v.category).sum ≤ 8) (hdg : decode cc pc = .ok (.invokespecial idx, 3)) (kk : J g ws lv (pc + 3) st) : J g ws lv pc (.ref a :: st) := by
  obtain ⟨p, l, e, R, s, m, args, below, meth, c, D, A, Q, cells, slots, nL⟩ := g
  obtain ⟨rfl, hx, hb, hml, hown, hts, hK, hkf, hkl, hce, hsl, hA, hF⟩ := C
  intro H locs ls hP hD hS hl
  refine W.objInit hx hb hown (hts _ hlk) (hts _ hin) (hts _ hco) rfl (by rw [hml]; exact hl.1) rfl hdg (by omega) (by have := lv_room (m := m) (pc := pc) (ls := ls) (rest := st) hcat; show 2 * 0 + _ + 12 ≤ _; omega) ?_
  exact kk H locs ls hP hD hS hl
theorem j_putF {g : GT} {own : String} {cc : ByteArray} {k nL9 : Nat} {ws : va_W} {lv : List (Nat × Value)} {pc : Nat} {st : List Value} {a ci : Nat} {fs : List Value} {C0 ref : String} {T : u_T} {N : Nat} {tyf : Nat → FieldType} {mk : (Nat → Nat) → va_W} (C : Cx g own cc k nL9) (E : EnC g mk) (q : Nat) (he : ws[q]? = some (a, .inr (ci, fs))) (hc : vwCl[ci]? = some (C0, T, N)) (hin : ∀ w ∈ u_ws C0 T N, w ∈ lw_gd) (hty : ∀ k, k < N → parseFieldDescriptor (T k).2.2.1 = some (tyf k)) (hnm : ∀ a, a < N → ∀ b, b < N → a ≠ b → (T a).2.1 ≠ (T b).2.1) (k0 : Nat) (hk : k0 < N) {idx : Nat} (hw : Cond.fieldLink own idx ref (T k0).2.1 (T k0).2.2.1 ∈ lw_gd) (hre : (T k0).1 = ref) (hfin : (T k0).2.2.2 = true) (hoc : (T k0).1 = own) {v : Value} (hn : narrow (tyf k0) v = v) (hfit : fits (tyf k0) v = true) (hl0 : k0 < fs.length) (hdg : decode cc pc = .ok (.putfield idx, 3)) (kk : J g (ws.set q (a, .inr (ci, fs.set k0 v))) lv (pc + 3) st) : J g ws lv pc (v :: .ref a :: st) := by
  obtain ⟨p, l, e, R, s, m, args, below, meth, c, D, A, Q, cells, slots, nL⟩ := g
  have hin2 : meth.name = "<init>" := E.2.2.1
  obtain ⟨rfl, hx, hb, hml, hown, hts, hK, hkf, hkl, hce, hsl, hA, hF⟩ := C
  intro H locs ls hP hD hS hl
  subst hre
  exact va_putF hx hb hts hin tyf hty hnm hown hK hP hD hS q he hc k0 hk (hts _ hw) (fun _ h9 => h9) hfin hin2 hoc (hty k0 hk) hn hfit hl0 hdg (fun H1 locs1 hP1 hD1 hS1 => kk H1 locs1 ls hP1 hD1 hS1 hl)
theorem j_newI {g : GT} {own : String} {cc : ByteArray} {k nL9 : Nat} {ws : va_W} {lv : List (Nat × Value)} {pc : Nat} {st : List Value} {n : Int32} {C0 S0 c s c2 s2 : Nat} (N : Nat) (C : Cx (gset g c s) own cc k nL9) (hR : Rm g C0 S0) (harr : Cond.arrayClass .int ∈ lw_gd) (hn : ¬ n < 0) (hN : n.toNatClampNeg = N) (hNs : N ≤ 100000) (hc : c + 1 = c2) (hs : s + N = s2) (hc0 : c2 ≤ C0) (hs0 : s2 ≤ S0) (hdg : decode cc pc = .ok (.newarray .int, 2)) (kk : ∀ q : Nat, J (gset g c2 s2) (ws ++ [(q, .inl ((gD g).1 100, N, .inl (fun _ => 0)))]) lv (pc + 2) (.ref q :: st)) : J (gset g c s) ws lv pc (.int n :: st) := by
  subst hc
  subst hs
  obtain ⟨p, l, e, R, s0, m, args, below, meth, cd, D, A, Q, cells, slots, nL⟩ := g
  obtain ⟨rfl, hx, hb, hml, hown, hts, hK, hkf, hkl, hce, hsl, hA, hF⟩ := C
  obtain ⟨r1, r2⟩ := hR
  intro H locs ls hP hD hS hl
  refine va_newa (atype := .int) hx hb (hts _ harr) rfl hK hP hD hS hA (a0 := (N, .inl (fun _ => 0))) (fun cA => by rfl) hn hN (by show N * 4 ≤ 536870912; omega) (by show c + 1 ≤ R.cells; omega) (by show s + N ≤ R.slots; omega) hdg (fun q cA H1 hK1 hP1 hD1 hS1 => ?_)
  have e1 : s0.vm.findClass ("[" ++ (.int : FieldType).toString) = some cA := (hK1.2 2 _ rfl).2
  have e2 : s0.vm.findClass ("[" ++ (.int : FieldType).toString) = some (D.1 100) := (hK.2 0 _ rfl).2
  have e3 : cA = D.1 100 := Option.some.inj (e1.symm.trans e2)
  subst e3
  exact kk q H1 locs ls hP1 hD1 hS1 hl
theorem j_newZ {g : GT} {own : String} {cc : ByteArray} {k nL9 : Nat} {ws : va_W} {lv : List (Nat × Value)} {pc : Nat} {st : List Value} {n : Int32} {C0 S0 c s c2 s2 : Nat} (N : Nat) (C : Cx (gset g c s) own cc k nL9) (hR : Rm g C0 S0) (harr : Cond.arrayClass .boolean ∈ lw_gd) (hn : ¬ n < 0) (hN : n.toNatClampNeg = N) (hNs : N ≤ 100000) (hc : c + 1 = c2) (hs : s + N = s2) (hc0 : c2 ≤ C0) (hs0 : s2 ≤ S0) (hdg : decode cc pc = .ok (.newarray .boolean, 2)) (kk : ∀ q : Nat, J (gset g c2 s2) (ws ++ [(q, .inl ((gD g).1 101, N, .inl (fun _ => 0)))]) lv (pc + 2) (.ref q :: st)) : J (gset g c s) ws lv pc (.int n :: st) := by
  subst hc
  subst hs
  obtain ⟨p, l, e, R, s0, m, args, below, meth, cd, D, A, Q, cells, slots, nL⟩ := g
  obtain ⟨rfl, hx, hb, hml, hown, hts, hK, hkf, hkl, hce, hsl, hA, hF⟩ := C
  obtain ⟨r1, r2⟩ := hR
  intro H locs ls hP hD hS hl
  refine va_newa (atype := .boolean) hx hb (hts _ harr) rfl hK hP hD hS hA (a0 := (N, .inl (fun _ => 0))) (fun cA => by rfl) hn hN (by show N * 1 ≤ 536870912; omega) (by show c + 1 ≤ R.cells; omega) (by show s + N ≤ R.slots; omega) hdg (fun q cA H1 hK1 hP1 hD1 hS1 => ?_)
  have e1 : s0.vm.findClass ("[" ++ (.boolean : FieldType).toString) = some cA := (hK1.2 2 _ rfl).2
  have e2 : s0.vm.findClass ("[" ++ (.boolean : FieldType).toString) = some (D.1 101) := (hK.2 1 _ rfl).2
  have e3 : cA = D.1 101 := Option.some.inj (e1.symm.trans e2)
  subst e3
  exact kk q H1 locs ls hP1 hD1 hS1 hl
theorem j_new {g : GT} {own : String} {cc : ByteArray} {k nL9 : Nat} {ws : va_W} {lv : List (Nat × Value)} {pc : Nat} {st : List Value} {C0 S0 ci idx c s c2 s2 : Nat} {cl : String} {T : u_T} {N : Nat} {tyf : Nat → FieldType} (fs : List Value) (C : Cx (gset g c s) own cc k nL9) (hR : Rm g C0 S0) (hc : vwCl[ci]? = some (cl, T, N)) (hin : ∀ w ∈ u_ws cl T N, w ∈ lw_gd) (hty : ∀ k, k < N → parseFieldDescriptor (T k).2.2.1 = some (tyf k)) (hcl : Cond.classLink own idx cl ∈ lw_gd) (hinst : Cond.instantiable cl N ∈ lw_gd) (hini : Cond.initialized cl ∈ lw_gd) (hfs : ∀ j, j < N → defaultValue (tyf j) = vp_V fs j) (hc2 : c + 1 = c2) (hs2 : s + N = s2) (hc0 : c2 ≤ C0) (hs0 : s2 ≤ S0) (hdg : decode cc pc = .ok (.new idx, 3)) (kk : ∀ q : Nat, J (gset g c2 s2) (ws ++ [(q, .inr (ci, fs))]) lv (pc + 3) (.ref q :: st)) : J (gset g c s) ws lv pc st := by
  subst hc2
  subst hs2
  obtain ⟨p, l, e, R, s0, m, args, below, meth, cd, D, A, Q, cells, slots, nL⟩ := g
  obtain ⟨rfl, hx, hb, hml, hown, hts, hK, hkf, hkl, hce, hsl, hA, hF⟩ := C
  obtain ⟨r1, r2⟩ := hR
  intro H locs ls hP hD hS hl
  exact va_new hx hb hts hin tyf hty hown (hts _ hcl) (hts _ hinst) (hts _ hini) hK hP hD hS hA hc hfs (by show c + 1 ≤ R.cells; omega) (by show s + N ≤ R.slots; omega) hdg (fun q H1 hP1 hD1 hS1 => kk q H1 locs ls hP1 hD1 hS1 hl)
theorem j_callIN {g : GT} {own : String} {cc : ByteArray} {k nL9 : Nat} {ws : va_W} {lv : List (Nat × Value)} {pc : Nat} {st : List Value} {y : MethodName} {b : ByteArray} {nn na k1 idx C0 S0 C1 S1 q0 : Nat} {e0 : va_E} {mk : (Nat → Nat) → va_W} {c s c2 s2 : Nat} (C : Cx (gset g c s) own cc k nL9) (hR : Rm g C0 S0) (M : MOK y b nn none na) (hna : na = 0) (hy : y.name = "<init>") (hV : Cond.instanceMethod y ∈ lw_gd) (hlk : (own, idx, y) ∈ kNM) (K : CTn (gl g) (gD g) y b nn k1 C1 S1 q0 e0 mk) (hk : k1 < k) (hc2 : c + C1 = c2) (hs2 : s + S1 = s2) (hc0 : c2 ≤ C0) (hs0 : s2 ≤ S0) (hcat : (st.map fun v => v.category).sum ≤ 8) (hdg : decode cc pc = .ok (.invokespecial idx, 3)) (kk : ∀ q : Nat → Nat, J (gset g c2 s2) (ws ++ mk q) lv (pc + 3) st) : J (gset g c s) (ws ++ [(q0, e0)]) lv pc (.ref q0 :: st) := by
  subst hc2
  subst hs2
  obtain ⟨p, l, e, R, s0, m, args, below, meth, cd, D, A, Q, cells, slots, nL⟩ := g
  obtain ⟨rfl, hx, hb, hml, hown, hts, hK, hkf, hkl, hce, hsl, hA, hF⟩ := C
  obtain ⟨M1, M2, M3, M4, M5⟩ := M
  obtain ⟨r1, r2⟩ := hR
  have hkf : k ≤ R.frames := hkf
  have hkl : 40 * k ≤ R.locals := hkl
  intro H locs ls hP hD hS hl
  have hC : [ws.length].map (fun i => (ws ++ [(q0, e0)])[i]?) = [(q0, e0)].map some := by simp
  have hpre := j_pre (l := l) (As := [.ref q0]) (is := [ws.length]) hK hP hD hS hA hF hC rfl
  have hFc := va_free (wc := [(q0, e0)]) hD hS hA [ws.length] hC
  have run := va_runIN (l := l) (e := e) (below := below) (meth := meth) (locs := locs) (cells := c) (slots := s) (As := []) (rest := st) (c := cd) (s := s0) (R := R) (g := F0 m pc ls (.ref q0 :: st)) ⟨hx, hb, hml, hown, hts⟩ (K H.size)
    ⟨va_cnB na hts (wsU_good M1) rfl rfl rfl (hF.2.2.2.2.2.2.2.1 _ hlk) (hts _ M2) M3 ⟨by show k1 + 1 ≤ R.frames; omega, by show 8 + (nn + 11) + 40 * k1 ≤ R.locals; omega⟩, hy, hts _ hV⟩ hpre rfl hna.symm hl.1 rfl (lv_room hcat) hdg ⟨by show c + C1 ≤ R.cells; omega, by show s + S1 ≤ R.slots; omega⟩
  intro T hT X
  obtain ⟨v, st₀, t, T', L, h0, X', hL, e1, e2, ⟨hv, ⟨q, hPq, hDq⟩, hz, hk9⟩, stp⟩ := run T hT X
  cases hv
  rw [h0] at hz hk9
  have hk' : ∀ a : Nat, a < H.size → ¬ va_A [(q0, e0)] H.size a → T'.heap[a]? = H[a]? := fun a h1 h2 => by rw [e1]; exact hk9 a h1 h2
  have hws : ∀ (i : Nat) (x : Nat × va_E), ws[i]? = some x → (ws ++ [(q0, e0)])[i]? = some x := fun i x hx9 => by rw [List.getElem?_append_left (List.getElem?_eq_some_iff.mp hx9).1]; exact hx9
  have hlast : (ws ++ [(q0, e0)])[ws.length]? = some (q0, e0) := by simp
  have hout : ∀ (i : Nat) (x : Nat × va_E), ws[i]? = some x → ¬ va_A [(q0, e0)] H.size x.1 := by
    intro i x hx9 hz9
    have hlt := (hP i x (hws i x hx9)).lt
    rcases hz9 with ⟨k2, e2, hz9⟩ | hz9
    · match k2, hz9 with
      | 0, hz9 =>
        cases hz9
        have := hD.1 i ws.length x (x.1, e0) (hws i x hx9) hlast rfl
        have := (List.getElem?_eq_some_iff.mp hx9).1
        omega
    · omega
  have hP1 : va_P D vwCl (ws ++ mk q) T'.heap := va_P.app (fun i x hx9 => (hP i x (hws i x hx9)).kept (hk' x.1 ((hP i x (hws i x hx9)).lt) (hout i x hx9))) (by rw [e1]; exact hPq)
  have hD1 : va_D A (ws ++ mk q) := va_D.app ⟨fun i j x y hx9 hy9 => hD.1 i j x y (hws i x hx9) (hws j y hy9), fun i x hx9 => hD.2 i x (hws i x hx9)⟩ (hDq.weaken (fun i x _ h => hFc x.1 h)) (fun i j x y hx9 hy9 hxy => hout i x hx9 (hxy ▸ hDq.2 j y hy9))
  obtain ⟨t2, a1, b1⟩ := kk q T'.heap (locs ++ L) ls hP1 hD1
    ⟨Nat.le_trans hS.1 (by rw [e1]; exact hz), fun a h1 h2 => by rw [hk' a (Nat.lt_of_lt_of_le h1 hS.1) (fun z => h2 (hFc a z))]; exact hS.2.1 a h1 h2, fun a ha => by
      rcases List.mem_append.mp ha with h | h
      · exact hS.2.2 a h
      · exact hFc _ (hL a h)⟩ hl T' rfl X'
  exact ⟨t2, stp t2 a1, b1⟩
theorem j_callI {g : GT} {own : String} {cc : ByteArray} {k nL9 : Nat} {ws : va_W} {lv : List (Nat × Value)} {pc : Nat} {st : List Value} {y : MethodName} {b : ByteArray} {nn na k1 idx C0 S0 C1 S1 q0 : Nat} {e0 : va_E} {mk : (Nat → Nat) → va_W} {c s c2 s2 : Nat} (C : Cx (gset g c s) own cc k nL9) (hR : Rm g C0 S0) (M : MOK y b nn none na) (hna : na = 0) (hy : y.name = "<init>") (hV : Cond.instanceMethod y ∈ lw_gd) (hlk : Cond.methodLink own idx y ∈ lw_gd) (K : CTn (gl g) (gD g) y b nn k1 C1 S1 q0 e0 mk) (hk : k1 < k) (hc2 : c + C1 = c2) (hs2 : s + S1 = s2) (hc0 : c2 ≤ C0) (hs0 : s2 ≤ S0) (hcat : (st.map fun v => v.category).sum ≤ 8) (hdg : decode cc pc = .ok (.invokespecial idx, 3)) (kk : ∀ q : Nat → Nat, J (gset g c2 s2) (ws ++ mk q) lv (pc + 3) st) : J (gset g c s) (ws ++ [(q0, e0)]) lv pc (.ref q0 :: st) := by
  subst hc2
  subst hs2
  obtain ⟨p, l, e, R, s0, m, args, below, meth, cd, D, A, Q, cells, slots, nL⟩ := g
  obtain ⟨rfl, hx, hb, hml, hown, hts, hK, hkf, hkl, hce, hsl, hA, hF⟩ := C
  obtain ⟨M1, M2, M3, M4, M5⟩ := M
  obtain ⟨r1, r2⟩ := hR
  have hkf : k ≤ R.frames := hkf
  have hkl : 40 * k ≤ R.locals := hkl
  intro H locs ls hP hD hS hl
  have hC : [ws.length].map (fun i => (ws ++ [(q0, e0)])[i]?) = [(q0, e0)].map some := by simp
  have hpre := j_pre (l := l) (As := [.ref q0]) (is := [ws.length]) hK hP hD hS hA hF hC rfl
  have hFc := va_free (wc := [(q0, e0)]) hD hS hA [ws.length] hC
  have run := va_runI (l := l) (e := e) (below := below) (meth := meth) (locs := locs) (cells := c) (slots := s) (As := []) (rest := st) (c := cd) (s := s0) (R := R) (g := F0 m pc ls (.ref q0 :: st)) ⟨hx, hb, hml, hown, hts⟩ (K H.size)
    ⟨callB_of na hts (wsU_good M1) rfl rfl rfl (hts _ M2) (hts _ hlk) M3 ⟨by show k1 + 1 ≤ R.frames; omega, by show 8 + (nn + 11) + 40 * k1 ≤ R.locals; omega⟩, hy, hts _ hV⟩ hpre rfl hna.symm hl.1 rfl (lv_room hcat) hdg ⟨by show c + C1 ≤ R.cells; omega, by show s + S1 ≤ R.slots; omega⟩
  intro T hT X
  obtain ⟨v, st₀, t, T', L, h0, X', hL, e1, e2, ⟨hv, ⟨q, hPq, hDq⟩, hz, hk9⟩, stp⟩ := run T hT X
  cases hv
  rw [h0] at hz hk9
  have hk' : ∀ a : Nat, a < H.size → ¬ va_A [(q0, e0)] H.size a → T'.heap[a]? = H[a]? := fun a h1 h2 => by rw [e1]; exact hk9 a h1 h2
  have hws : ∀ (i : Nat) (x : Nat × va_E), ws[i]? = some x → (ws ++ [(q0, e0)])[i]? = some x := fun i x hx9 => by rw [List.getElem?_append_left (List.getElem?_eq_some_iff.mp hx9).1]; exact hx9
  have hlast : (ws ++ [(q0, e0)])[ws.length]? = some (q0, e0) := by simp
  have hout : ∀ (i : Nat) (x : Nat × va_E), ws[i]? = some x → ¬ va_A [(q0, e0)] H.size x.1 := by
    intro i x hx9 hz9
    have hlt := (hP i x (hws i x hx9)).lt
    rcases hz9 with ⟨k2, e2, hz9⟩ | hz9
    · match k2, hz9 with
      | 0, hz9 =>
        cases hz9
        have := hD.1 i ws.length x (x.1, e0) (hws i x hx9) hlast rfl
        have := (List.getElem?_eq_some_iff.mp hx9).1
        omega
    · omega
  have hP1 : va_P D vwCl (ws ++ mk q) T'.heap := va_P.app (fun i x hx9 => (hP i x (hws i x hx9)).kept (hk' x.1 ((hP i x (hws i x hx9)).lt) (hout i x hx9))) (by rw [e1]; exact hPq)
  have hD1 : va_D A (ws ++ mk q) := va_D.app ⟨fun i j x y hx9 hy9 => hD.1 i j x y (hws i x hx9) (hws j y hy9), fun i x hx9 => hD.2 i x (hws i x hx9)⟩ (hDq.weaken (fun i x _ h => hFc x.1 h)) (fun i j x y hx9 hy9 hxy => hout i x hx9 (hxy ▸ hDq.2 j y hy9))
  obtain ⟨t2, a1, b1⟩ := kk q T'.heap (locs ++ L) ls hP1 hD1
    ⟨Nat.le_trans hS.1 (by rw [e1]; exact hz), fun a h1 h2 => by rw [hk' a (Nat.lt_of_lt_of_le h1 hS.1) (fun z => h2 (hFc a z))]; exact hS.2.1 a h1 h2, fun a ha => by
      rcases List.mem_append.mp ha with h | h
      · exact hS.2.2 a h
      · exact hFc _ (hL a h)⟩ hl T' rfl X'
  exact ⟨t2, stp t2 a1, b1⟩
