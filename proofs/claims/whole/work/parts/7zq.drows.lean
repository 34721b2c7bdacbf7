/-! methods that may draw which NaN they answer: the walk over the start with another record of draws -/
def gst (g : GT) : State := g.2.2.2.2.1
def gdr (g : GT) (d : Drawn) : GT := (g.1, g.2.1, g.2.2.1, g.2.2.2.1, g.2.2.2.2.1.setDrawn d, g.2.2.2.2.2)
theorem Cx.gdr {g : GT} {own : String} {cc : ByteArray} {k n : Nat} (C : Cx g own cc k n) (d : Drawn) : Cx (gdr g d) own cc k n := by
  obtain ⟨p, l, e, R, s, m, args, below, meth, c, D, A, Q, cells, slots, nL⟩ := g
  obtain ⟨h0, hx, hb, hml, hown, hts, hK, hkf, hkl, hce, hsl, hA, hF⟩ := C
  exact ⟨h0, hx, hb, hml, hown, dr_words hts d, va_K.moved (u := s) (U := s.setDrawn d) (Vm.Alike.refl _) hK, hkf, hkl, hce, hsl, hA, SF.same (s := s) (U := s.setDrawn d) rfl hF⟩
/-- the contract of a method that may draw: what it returns has the property Pr -/
def CTP (l : Launch) (D : va_G) (y : MethodName) (b : ByteArray) (n : Nat) (ret : Option FieldType) (k : Nat) (As : List Value) (W1 W2 : va_W) (Pr : Value → Prop) : Prop :=
  ∀ sz : Nat, MetD lw_cs l y (wsU y b n ret) (rmk k) (va_Pc As (fun U => U.heap.size = sz ∧ va_P D vwCl W1 U.heap ∧ va_K D vwCl (jty D) U ∧ va_D (fun _ => True) W1 ∧ SF D (va_A W1 sz) U U.heap))
    (fun _ st oc t => ∃ v, oc = .returned (some v) ∧ Pr v ∧ va_P D vwCl W2 t.heap ∧ va_F (va_A W1 sz) st t) 0 0 (va_A W1 sz)
theorem CTP.of_CT {l : Launch} {D : va_G} {y : MethodName} {b : ByteArray} {n : Nat} {ret : Option FieldType} {k : Nat} {As : List Value} {W1 W2 : va_W} {v : Value} {Pr : Value → Prop} (K : CT l D y b n ret k As W1 W2 (some v)) (hv : Pr v) : CTP l D y b n ret k As W1 W2 Pr := by
  intro sz p e ha hc hk s m args below hf happ hP hK
  obtain ⟨n9, o9, g1, g2, g3, ⟨g4, g5, g6⟩, L, g7, g8⟩ := K sz p e ha hc hk s m args below hf happ hP hK
  exact ⟨n9, o9, g1, g2, g3, s.drawn, Drawn.sameBut.refl _ _, ⟨v, g4, hv, g5, g6⟩, L, g7, g8⟩
theorem CTP.lift {l : Launch} {D : va_G} {y : MethodName} {b : ByteArray} {n : Nat} {ret : Option FieldType} {k : Nat} {As : List Value} {W1 W2 W W' : va_W} {Pr : Value → Prop} (K : CTP l D y b n ret k As W1 W2 Pr) (is : List Nat) (hC : is.map (fun i => W[i]?) = W1.map some) (hnd : va_nd is = true) (hsm : W2.map (fun q => q.1) = W1.map (fun q => q.1)) (hw : wput W is W2 = W') : CTP l D y b n ret k As W W' Pr := by
  intro sz p e ha hc hk s m args below hf happ hP hK
  obtain ⟨rfl, h1, h2, h3, h4, h5⟩ := hP
  have hsub : ∀ q, va_A W1 sz q → va_A W sz q := by
    intro q hq
    rcases hq with ⟨k2, e2, hq⟩ | hq
    · have h6 : (is.map (fun i => W[i]?))[k2]? = some (some (q, e2)) := by rw [hC, List.getElem?_map, hq]; rfl
      rw [List.getElem?_map] at h6
      cases hi : is[k2]? with
      | none => rw [hi] at h6; cases h6
      | some i => rw [hi] at h6; exact Or.inl ⟨i, e2, Option.some.inj h6⟩
    · exact Or.inr hq
  have hP1 : va_P D vwCl W1 s.heap := by
    refine h2.sub is ?_
    have h7 : is.filterMap (fun i => W[i]?) = (is.map (fun i => W[i]?)).filterMap id := by rw [List.filterMap_map]; rfl
    rw [h7, hC, List.filterMap_map]
    show W1.filterMap (fun q => id (some q)) = W1
    exact List.filterMap_some
  obtain ⟨n9, o9, g1, g2, g3, d, hd, ⟨v, g4, gv, g5, g6⟩, L, g7, g8⟩ := K sz p e ha hc hk s m As.toArray below hf happ ⟨rfl, h1, hP1, h3, h4.sub is hnd hC, SF.kept (fun _ _ _ => rfl) hsub h5⟩ hK
  subst h1
  refine ⟨n9, o9, g1, g2, g3, d, hd, ⟨v, g4, gv, ?_, g6.1, fun q hq hn => g6.2 q hq (fun z => hn (hsub q z))⟩, L, g7, fun q hq => hsub _ (g8 q hq)⟩
  rw [← hw]
  exact wput_P h2 h4 hC hsm g6.2 g5
/-- what is owed at the end of such a method -/
def EnD (g : GT) (ret : Option FieldType) (W2 : va_W) (Pr : Value → Prop) : Prop :=
  match g with
  | (_, _, _, _, s, _, args, below, meth, _, D, A, Q, cells, slots, _) =>
    meth.sig.returnType = ret ∧ meth.locks = false ∧ ∃ (Qc : Array Value → State → Outcome → State → Prop) (free : Addr → Prop), Q = MQD lw_cs below Qc args s cells slots free ∧ (∀ q, A q → free q) ∧
      ∀ (d : Drawn) (v : Value) (t : State) (H : Heap) (locs : List Loc), Pr v → va_P D vwCl W2 H → va_S A s.heap H locs → t.heap = H → (s.setDrawn d).WarmedH t.vm → Qc args (s.setDrawn d) (.returned (some v)) t
theorem CTP.of {l : Launch} {D : va_G} {y : MethodName} {b : ByteArray} {n : Nat} {ret : Option FieldType} {k : Nat} {As : List Value} {W1 W2 : va_W} {Pr : Value → Prop} {na : Nat} (M : MOK y b n ret na) (hAs : (lg_sl As).length ≤ n)
    (body : ∀ g : GT, gl g = l → gD g = D → Cx g y.cls b k n → EnD g ret W2 Pr → ∀ d : Drawn, (gst g).drawn.sameBut d lw_cs → J (gdr g d) W1 (lv_args 0 As) 0 []) : CTP l D y b n ret k As W1 W2 Pr := by
  intro sz
  refine MetD.ofW (cc := b) (maxL := n) (ret := ret) M.2.2.2.1 rfl ?_
  intro p e s m args below meth c s₁ B hml hv hd0
  obtain ⟨rfl, hsz, hP, hK, hD0, hF⟩ := hv
  subst hsz
  have hts := atoms_spec (ws := wsU y b n ret) B.pre
  have hown : s.vm.findClass y.cls = some m.cls := findClass_of_methodNamed B.named
  have hA : ∀ q : Nat, s.heap.size ≤ q → va_A W1 s.heap.size q := fun q h => Or.inr h
  have hl := lv_entry As (n := n) hAs
  rw [lg_entry_eq]
  generalize (lg_sl As ++ List.replicate (n - (lg_sl As).length) Slot.unset).toArray = ls at hl ⊢
  exact body (p, l, e, rmk k, s, m, As.toArray, below, meth, c, D, va_A W1 s.heap.size, MQD lw_cs below (fun _ st oc t => ∃ v, oc = .returned (some v) ∧ Pr v ∧ va_P D vwCl W2 t.heap ∧ va_F (va_A W1 s.heap.size) st t) As.toArray s 0 0 (va_A W1 s.heap.size), 0, 0, n) rfl rfl
    ⟨rfl, B.exec, B.bytes, hml, hown, fun w hw => hts w (List.mem_cons_of_mem _ hw), hK, Nat.le_refl _, Nat.le_refl _, Nat.zero_le _, Nat.zero_le _, hA, hF⟩
    ⟨B.returns, B.notSynchronized, _, _, rfl, fun q h => h, fun d v t H locs hv hP hS ht hW => ⟨v, rfl, hv, by rw [ht]; exact hP, hS.F ht⟩⟩ s.drawn hd0 s.heap [] ls hP hD0.self va_S.rf hl
theorem j_iretD {g : GT} {own : String} {cc : ByteArray} {k nL9 : Nat} {ws : va_W} {lv : List (Nat × Value)} {pc : Nat} {v : Int32} {Pr : Value → Prop} {d : Drawn} (C : Cx g own cc k nL9) (E : EnD g (some .int) ws Pr) (hd : (gst g).drawn.sameBut d lw_cs) (hv : Pr (.int v)) (hdg : decode cc pc = .ok (.ireturn, 1)) : J (gdr g d) ws lv pc [.int v] := by
  obtain ⟨p, l, e, R, s, m, args, below, meth, c, D, A, Q, cells, slots, nL⟩ := g
  obtain ⟨rfl, hx, hb, -⟩ := C
  obtain ⟨hr, hlocks, Qc, free, rfl, hfr, hq⟩ := E
  intro H locs ls hP hD hS hl
  refine W.endD hd ?_
  exact W.iret hx hb hr (fun t ht hW => hq d _ t H locs hv hP hS ht hW) (fun q h => hfr _ (hS.2.2 q h)) hdg hlocks
theorem j_fretD {g : GT} {own : String} {cc : ByteArray} {k nL9 : Nat} {ws : va_W} {lv : List (Nat × Value)} {pc : Nat} {v : UInt32} {Pr : Value → Prop} {d : Drawn} (C : Cx g own cc k nL9) (E : EnD g (some .float) ws Pr) (hd : (gst g).drawn.sameBut d lw_cs) (hv : Pr (.float v)) (hdg : decode cc pc = .ok (.freturn, 1)) : J (gdr g d) ws lv pc [.float v] := by
  obtain ⟨p, l, e, R, s, m, args, below, meth, c, D, A, Q, cells, slots, nL⟩ := g
  obtain ⟨rfl, hx, hb, -⟩ := C
  obtain ⟨hr, hlocks, Qc, free, rfl, hfr, hq⟩ := E
  intro H locs ls hP hD hS hl
  refine W.endD hd ?_
  exact W.fret hx hb hr (fun t ht hW => hq d _ t H locs hv hP hS ht hW) (fun q h => hfr _ (hS.2.2 q h)) hdg hlocks
theorem j_fdivD {g : GT} {own : String} {cc : ByteArray} {k nL9 : Nat} {ws : va_W} {lv : List (Nat × Value)} {pc : Nat} {st : List Value} {x y : UInt32} {d : Drawn} (C : Cx g own cc k nL9) (hd : (gst g).drawn.sameBut d lw_cs) (hdg : decode cc pc = .ok (.fdiv, 1)) (kk : ∀ (r : UInt32) (d' : Drawn), alike32 r (FP.fdiv x y) = true → (gst g).drawn.sameBut d' lw_cs → J (gdr g d') ws lv (pc + 1) (.float r :: st)) : J (gdr g d) ws lv pc (.float y :: .float x :: st) := by
  obtain ⟨p, l, e, R, s, m, args, below, meth, c, D, A, Q, cells, slots, nL⟩ := g
  obtain ⟨rfl, hx, hb, -⟩ := C
  intro H locs ls hP hD hS hl
  exact lv_fdiv_any hd lw_bits hx hb hdg (fun r d' hr hd' => kk r d' hr hd' H locs ls hP hD hS hl)
theorem j_faddD {g : GT} {own : String} {cc : ByteArray} {k nL9 : Nat} {ws : va_W} {lv : List (Nat × Value)} {pc : Nat} {st : List Value} {x y : UInt32} {d : Drawn} (C : Cx g own cc k nL9) (hd : (gst g).drawn.sameBut d lw_cs) (hdg : decode cc pc = .ok (.fadd, 1)) (kk : ∀ (r : UInt32) (d' : Drawn), alike32 r (FP.fadd x y) = true → (gst g).drawn.sameBut d' lw_cs → J (gdr g d') ws lv (pc + 1) (.float r :: st)) : J (gdr g d) ws lv pc (.float y :: .float x :: st) := by
  obtain ⟨p, l, e, R, s, m, args, below, meth, c, D, A, Q, cells, slots, nL⟩ := g
  obtain ⟨rfl, hx, hb, -⟩ := C
  intro H locs ls hP hD hS hl
  exact lv_fadd_any hd lw_bits hx hb hdg (fun r d' hr hd' => kk r d' hr hd' H locs ls hP hD hS hl)
theorem j_backD {p : Program} {l : Launch} {e : Env} {R : Room} {s : State} {m : MethodId} {args : Array Value} {below : List Frame} {meth : Method} {c : Code} {D : va_G} {A : Nat → Prop} {Q : State → Prop} {cells slots nL : Nat} {ws W1 W2 : va_W} {lv : List (Nat × Value)} {pc : Nat} {st st0 : List Value} {Pr : Value → Prop} {H : Heap} {locs : List Loc} {ls : Array Slot} {is : List Nat}
    (hP : va_P D vwCl ws H) (hD : va_D A ws) (hS : va_S A s.heap H locs) (hA : ∀ q : Nat, s.heap.size ≤ q → A q) (hl : lv_has ls nL lv) (hC : is.map (fun i => ws[i]?) = W1.map some) (hsm : W2.map (fun q => q.1) = W1.map (fun q => q.1))
    (run : va_RunD lw_cs p l e R s m args below meth c H locs cells slots 0 0 (F0 m pc ls st0) st (fun st oc t => ∃ v, oc = .returned (some v) ∧ Pr v ∧ va_P D vwCl W2 t.heap ∧ va_F (va_A W1 H.size) st t) (va_A W1 H.size))
    (kk : ∀ (v : Value) (d' : Drawn), Pr v → s.drawn.sameBut d' lw_cs → J (p, l, e, R, s.setDrawn d', m, args, below, meth, c, D, A, Q, cells, slots, nL) (wput ws is W2) lv (pc + 3) (v :: st)) : W p l e R s m args below meth c H locs cells slots Q (F0 m pc ls st0) := by
  intro T hT X
  have hFc := va_free (wc := W1) hD hS hA is hC
  obtain ⟨v, st₀, t, T', L, d', hd', h0, X', hL, e1, e2, ⟨v9, hv, hPr, hPt, hz, hk⟩, stp⟩ := run T hT X
  cases hv
  rw [h0] at hz hk
  have hk' : ∀ q : Nat, q < H.size → ¬ va_A W1 H.size q → T'.heap[q]? = H[q]? := fun q h1 h2 => by rw [e1]; exact hk q h1 h2
  obtain ⟨t2, a1, b1⟩ := kk v9 d' hPr hd' T'.heap (locs ++ L) ls (wput_P hP hD hC hsm hk' (by rw [e1]; exact hPt)) (wput_D is ws W2 hD (wok_of is W1 W2 hC hsm))
    ⟨Nat.le_trans hS.1 (by rw [e1]; exact hz), fun q h1 h2 => by rw [hk' q (Nat.lt_of_lt_of_le h1 hS.1) (fun z => h2 (hFc q z))]; exact hS.2.1 q h1 h2, fun q hq => by
      rcases List.mem_append.mp hq with h | h
      · exact hS.2.2 q h
      · exact hFc _ (hL q h)⟩ hl T' rfl X'
  exact ⟨t2, stp t2 a1, b1⟩
theorem j_callVD {g : GT} {own : String} {cc : ByteArray} {k nL9 : Nat} {ws : va_W} {lv : List (Nat × Value)} {pc : Nat} {st st0 : List Value} {y : MethodName} {b : ByteArray} {nn na k1 idx : Nat} {ret : Option FieldType} {As : List Value} {W1 W2 ws9 : va_W} {Pr : Value → Prop} {a ci N : Nat} {fs : List Value} {T : u_T} {d : Drawn} (C : Cx g own cc k nL9) (hd : (gst g).drawn.sameBut d lw_cs) (M : MOK y b nn ret na) (hV : Cond.instanceMethod y ∈ lw_gd ∧ Cond.selects y.cls y y ∈ lw_gd) (hlk : Cond.methodLink own idx y ∈ lw_gd) (K : CTP (gl g) (gD g) y b nn ret k1 (.ref a :: As) W1 W2 Pr) (hk : k1 < k) (q : Nat) (he : ws[q]? = some (a, .inr (ci, fs))) (hc : vwCl[ci]? = some (y.cls, T, N)) (is : List Nat) (hC : is.map (fun i => ws[i]?) = W1.map some) (hnd : va_nd is = true) (hsm : W2.map (fun q => q.1) = W1.map (fun q => q.1)) (hna : As.length = na) (hst : st0 = As.reverse ++ .ref a :: st) (hcat : (st.map fun v => v.category).sum ≤ 8) (hdg : decode cc pc = .ok (.invokevirtual idx, 3)) (hw : wput ws is W2 = ws9) (kk : ∀ (v : Value) (d' : Drawn), Pr v → (gst g).drawn.sameBut d' lw_cs → J (gdr g d') ws9 lv (pc + 3) (v :: st)) : J (gdr g d) ws lv pc st0 := by
  subst hw
  have C2 := C.gdr d
  obtain ⟨p, l, e, R, s, m, args, below, meth, c, D, A, Q, cells, slots, nL⟩ := g
  obtain ⟨rfl, hx, hb, hml, hown, hts, hK, hkf, hkl, hce, hsl, hA, hF⟩ := C2
  obtain ⟨M1, M2, M3, M4, M5⟩ := M
  have hkf : k ≤ R.frames := hkf
  have hkl : 40 * k ≤ R.locals := hkl
  intro H locs ls hP hD hS hl
  have hpre := j_pre (l := l) (s := s.setDrawn d) (As := .ref a :: As) hK hP hD hS hA hF hC hnd
  exact j_backD (l := l) (s := s.setDrawn d) hP hD hS hA hl hC hsm (va_runV_D (As := As) (rest := st) (g := F0 m pc ls st0) ⟨hx, hb, hml, hown, hts⟩ (K H.size)
    ⟨callB_of na hts (wsU_good M1) rfl rfl rfl (hts _ M2) (hts _ hlk) M3 ⟨by show k1 + 1 ≤ R.frames; omega, by show 8 + (nn + 11) + 40 * k1 ≤ R.locals; omega⟩, hts _ hV.1, hts _ hV.2⟩
    ⟨hpre.1, va_recv hK hP hc he, hpre.2⟩ rfl hna hl.1 hst (lv_room hcat) hdg ⟨hce, hsl⟩) (fun v d' hv hd' => kk v d' hv (hd.trans hd'))
