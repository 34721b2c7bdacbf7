/-- as MOK, of a class some of whose methods the machine runs by an entry: this method is none of them -/
def MOKF (y : MethodName) (b : ByteArray) (n : Nat) (ret : Option FieldType) (na : Nat) : Prop :=
  Cond.code y b n ret ∈ lw_gd ∧ Cond.initialized y.cls ∈ lw_gd ∧ (y.cls ≠ "java/lang/invoke/MethodHandle" ∧ y.cls ≠ "java/lang/invoke/VarHandle" ∧ (parseMethodDescriptor y.desc).map (fun d => d.parameters.length) = some na) ∧ plainFor y = true ∧ n ≤ 21
theorem ofWF {l : Launch} {y : MethodName} {ws ws' : List Cond} {rm : Room} {Pc : Array Value → State → Prop} {Qc : Array Value → State → Outcome → State → Prop} {mc ms : Nat} {free : Addr → Prop} {cc : ByteArray} {maxL : Nat} {ret : Option FieldType} (hy : plainFor y = true) (hw : ws = Cond.code y cc maxL ret :: ws') (body : ∀ p e s m args below meth c s₁, BodyLoose p l y (headSpec ws rm) cc maxL ret e s m args below meth c s₁ → c.maxLocals = maxL → Pc args s → W p l e (headSpec ws rm).room s m args below meth c s.heap [] 0 0 (MQ below Qc args s mc ms free) (entryFrame m args maxL)) : Met l y ws rm Pc Qc mc ms free := by
  refine MetFree.of_bodySF (code := cc) (maxLocals := maxL) (ret := ret) hy ?_ ?_
  · intro args s m h hn
    obtain ⟨meth, c, h1, h2, h3, h4, h5, h6, -, -⟩ := Cond.code_spec hn (atoms_spec (ws := ws) h _ (by rw [hw]; exact List.mem_cons_self))
    exact ⟨meth, c, h1, h2, h3, h4, h5, h6⟩
  · intro p e s m args below meth c s₁ B hml hP _
    obtain ⟨t, a1, o, b1, b2, b3, b4⟩ := body p e s m args below meth c s₁ B hml hP s₁ (by rw [B.state]; rfl) (Stand.of_body B)
    exact ⟨t, o, a1, b1, b2, b3, b4⟩
theorem CT.ofF {l : Launch} {D : va_G} {y : MethodName} {b : ByteArray} {n : Nat} {ret : Option FieldType} {k : Nat} {As : List Value} {W1 W2 : va_W} {ro : Option Value} {na : Nat} (M : MOKF y b n ret na) (hAs : (lg_sl As).length ≤ n)
    (body : ∀ g : GT, gl g = l → gD g = D → Cx g y.cls b k n → En g ret W2 ro → J g W1 (lv_args 0 As) 0 []) : CT l D y b n ret k As W1 W2 ro := by
  intro sz
  refine ofWF (cc := b) (maxL := n) (ret := ret) M.2.2.2.1 rfl ?_
  intro p e s m args below meth c s₁ B hml hv
  obtain ⟨rfl, hsz, hP, hK, hD0, hF⟩ := hv
  subst hsz
  have hts := atoms_spec (ws := wsU y b n ret) B.pre
  have hown : s.vm.findClass y.cls = some m.cls := findClass_of_methodNamed B.named
  have hA : ∀ q : Nat, s.heap.size ≤ q → va_A W1 s.heap.size q := fun q h => Or.inr h
  have hl := lv_entry As (n := n) hAs
  rw [lg_entry_eq]
  generalize (lg_sl As ++ List.replicate (n - (lg_sl As).length) Slot.unset).toArray = ls at hl ⊢
  exact body (p, l, e, rmk k, s, m, As.toArray, below, meth, c, D, va_A W1 s.heap.size, MQ below (fun _ st oc t => oc = .returned ro ∧ va_P D vwCl W2 t.heap ∧ va_F (va_A W1 s.heap.size) st t) As.toArray s 0 0 (va_A W1 s.heap.size), 0, 0, n) rfl rfl
    ⟨rfl, B.exec, B.bytes, hml, hown, fun w hw => hts w (List.mem_cons_of_mem _ hw), hK, Nat.le_refl _, Nat.le_refl _, Nat.zero_le _, Nat.zero_le _, hA, hF⟩
    ⟨B.returns, B.notSynchronized, _, _, rfl, fun q h => h, fun t H locs hP hS ht hW => ⟨rfl, by rw [ht]; exact hP, hS.F ht⟩⟩ s.heap [] ls hP hD0.self va_S.rf hl
theorem j_callSF {g : GT} {own : String} {cc : ByteArray} {k nL9 : Nat} {ws : va_W} {lv : List (Nat × Value)} {pc : Nat} {st st0 : List Value} {y : MethodName} {b : ByteArray} {nn na k1 idx : Nat} {ret : Option FieldType} {As : List Value} {W1 W2 : va_W} {ro : Option Value} (C : Cx g own cc k nL9) (M : MOKF y b nn ret na) (hV : Cond.static y ∈ lw_gd) (hlk : Cond.methodLink own idx y ∈ lw_gd) (K : CT (gl g) (gD g) y b nn ret k1 As W1 W2 ro) (hk : k1 < k) (is : List Nat) (hC : is.map (fun i => ws[i]?) = W1.map some) (hnd : va_nd is = true) (hsm : W2.map (fun q => q.1) = W1.map (fun q => q.1)) (hna : As.length = na) (hst : st0 = As.reverse ++ st) (hcat : (st.map fun v => v.category).sum ≤ 8) (hdg : decode cc pc = .ok (.invokestatic idx, 3)) (kk : J g (wput ws is W2) lv (pc + 3) (ro.toList ++ st)) : J g ws lv pc st0 := by
  obtain ⟨p, l, e, R, s, m, args, below, meth, c, D, A, Q, cells, slots, nL⟩ := g
  obtain ⟨rfl, hx, hb, hml, hown, hts, hK, hkf, hkl, hce, hsl, hA, hF⟩ := C
  obtain ⟨M1, M2, M3, M4, M5⟩ := M
  intro H locs ls hP hD hS hl
  have hpre := j_pre (l := l) (As := As) hK hP hD hS hA hF hC hnd
  exact j_back (l := l) hP hD hS hA hl hC hsm (va_runS (As := As) (rest := st) (g := F0 m pc ls st0) ⟨hx, hb, hml, hown, hts⟩ (K H.size)
    ⟨callB_of na hts (wsU_good M1) rfl rfl rfl (hts _ M2) (hts _ hlk) M3 ⟨by show k1 + 1 ≤ R.frames; omega, by show 8 + (nn + 11) + 40 * k1 ≤ R.locals; omega⟩, hts _ hV⟩
    hpre rfl hna hl.1 hst (lv_room hcat) hdg ⟨hce, hsl⟩) kk
theorem j_fret {g : GT} {own : String} {cc : ByteArray} {k nL9 : Nat} {ws : va_W} {lv : List (Nat × Value)} {pc : Nat} {v : UInt32} (C : Cx g own cc k nL9) (E : En g (some .float) ws (some (.float v))) (hdg : decode cc pc = .ok (.freturn, 1)) : J g ws lv pc [.float v] := by
  obtain ⟨p, l, e, R, s, m, args, below, meth, c, D, A, Q, cells, slots, nL⟩ := g
  obtain ⟨rfl, hx, hb, -⟩ := C
  obtain ⟨hr, hlocks, Qc, free, rfl, hfr, hq⟩ := E
  intro H locs ls hP hD hS hl
  exact W.fret hx hb hr (fun t ht hW => hq t H locs hP hS ht hW) (fun q h => hfr _ (hS.2.2 q h)) hdg hlocks
theorem j_callSF1 {g : GT} {own : String} {cc : ByteArray} {k nL9 : Nat} {ws : va_W} {lv : List (Nat × Value)} {pc : Nat} {st st0 : List Value} {y : MethodName} {b : ByteArray} {nn na k1 idx : Nat} {ret : Option FieldType} {As : List Value} {W1 W2 ws9 : va_W} {vr : Value} (C : Cx g own cc k nL9) (M : MOKF y b nn ret na) (hV : Cond.static y ∈ lw_gd) (hlk : Cond.methodLink own idx y ∈ lw_gd) (K : CT (gl g) (gD g) y b nn ret k1 As W1 W2 (some vr)) (hk : k1 < k) (is : List Nat) (hC : is.map (fun i => ws[i]?) = W1.map some) (hnd : va_nd is = true) (hsm : W2.map (fun q => q.1) = W1.map (fun q => q.1)) (hna : As.length = na) (hst : st0 = As.reverse ++ st) (hcat : (st.map fun v => v.category).sum ≤ 8) (hdg : decode cc pc = .ok (.invokestatic idx, 3)) (hw : wput ws is W2 = ws9) (kk : J g ws9 lv (pc + 3) (vr :: st)) : J g ws lv pc st0 := j_callSF C M hV hlk K hk is hC hnd hsm hna hst hcat hdg (by rw [hw]; exact kk)
theorem mk_Jxf58ca_isNaN_12338 : MOKF yJxf58ca_isNaN_12338 cJxf58ca_isNaN_12338 1 (Option.some FieldType.boolean) 1 := ⟨kw_1237, kw_20, by decide +kernel, by decide +kernel, by decide⟩
theorem ms_Jxf58ca_isNaN_12338 : Cond.static yJxf58ca_isNaN_12338 ∈ lw_gd := kw_1236
theorem mk_Jxf58ca_floatToIntBits_5c35a : MOKF yJxf58ca_floatToIntBits_5c35a cJxf58ca_floatToIntBits_5c35a 1 (Option.some FieldType.int) 1 := ⟨kw_1234, kw_20, by decide +kernel, by decide +kernel, by decide⟩
theorem ms_Jxf58ca_floatToIntBits_5c35a : Cond.static yJxf58ca_floatToIntBits_5c35a ∈ lw_gd := kw_1233
theorem mk_Jxf58ca_compare_66c2b : MOKF yJxf58ca_compare_66c2b cJxf58ca_compare_66c2b 4 (Option.some FieldType.int) 2 := ⟨kw_1253, kw_20, by decide +kernel, by decide +kernel, by decide⟩
theorem ms_Jxf58ca_compare_66c2b : Cond.static yJxf58ca_compare_66c2b ∈ lw_gd := kw_1252
theorem j_raw_f2i {g : GT} {own : String} {cc : ByteArray} {k nL9 : Nat} {ws : va_W} {lv : List (Nat × Value)} {pc : Nat} {st : List Value} {idx : Nat} {x : UInt32} (C : Cx g own cc k nL9) (hk : 1 ≤ k) (hlk : Cond.methodLink own idx ⟨"java/lang/Float", "floatToRawIntBits", "(F)I"⟩ ∈ lw_gd) (hnat : Cond.native ⟨"java/lang/Float", "floatToRawIntBits", "(F)I"⟩ ∈ lw_gd) (hst : Cond.static ⟨"java/lang/Float", "floatToRawIntBits", "(F)I"⟩ ∈ lw_gd) (hin : Cond.initialized "java/lang/Float" ∈ lw_gd) (hcat : (st.map fun v => v.category).sum ≤ 8) (hdg : decode cc pc = .ok (.invokestatic idx, 3)) (kk : J g ws lv (pc + 3) (.int x.toInt32 :: st)) : J g ws lv pc (.float x :: st) := by
  obtain ⟨p, l, e, R, s, m, args, below, meth, c, D, A, Q, cells, slots, nL⟩ := g
  obtain ⟨rfl, hx, hb, hml, hown, hts, hK, hkf, hkl, hce, hsl, hA, hF⟩ := C
  intro H locs ls hP hD hS hl
  exact vn_f2i hx hb (hml.trans hl.1.symm) hown (hts _ hlk) (hts _ hnat) (hts _ hst) (hts _ hin) (by omega) (by omega) hdg (kk H locs ls hP hD hS hl)
theorem j_raw_d2l {g : GT} {own : String} {cc : ByteArray} {k nL9 : Nat} {ws : va_W} {lv : List (Nat × Value)} {pc : Nat} {st : List Value} {idx : Nat} {x : UInt64} (C : Cx g own cc k nL9) (hk : 1 ≤ k) (hlk : Cond.methodLink own idx ⟨"java/lang/Double", "doubleToRawLongBits", "(D)J"⟩ ∈ lw_gd) (hnat : Cond.native ⟨"java/lang/Double", "doubleToRawLongBits", "(D)J"⟩ ∈ lw_gd) (hst : Cond.static ⟨"java/lang/Double", "doubleToRawLongBits", "(D)J"⟩ ∈ lw_gd) (hin : Cond.initialized "java/lang/Double" ∈ lw_gd) (hcat : (st.map fun v => v.category).sum ≤ 8) (hdg : decode cc pc = .ok (.invokestatic idx, 3)) (kk : J g ws lv (pc + 3) (.long x.toInt64 :: st)) : J g ws lv pc (.double x :: st) := by
  obtain ⟨p, l, e, R, s, m, args, below, meth, c, D, A, Q, cells, slots, nL⟩ := g
  obtain ⟨rfl, hx, hb, hml, hown, hts, hK, hkf, hkl, hce, hsl, hA, hF⟩ := C
  intro H locs ls hP hD hS hl
  exact vn_d2l hx hb (hml.trans hl.1.symm) hown (hts _ hlk) (hts _ hnat) (hts _ hst) (hts _ hin) (by omega) (by omega) hdg (kk H locs ls hP hD hS hl)
