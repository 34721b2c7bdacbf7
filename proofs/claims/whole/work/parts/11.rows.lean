theorem ki_m1 : Int32.ofInt (-1) = (-1) := by decide
theorem ki_0 : Int32.ofInt 0 = 0 := by decide
theorem ki_1 : Int32.ofInt 1 = 1 := by decide
theorem ki_2 : Int32.ofInt 2 = 2 := by decide
theorem ki_3 : Int32.ofInt 3 = 3 := by decide
theorem ki_4 : Int32.ofInt 4 = 4 := by decide
theorem ki_5 : Int32.ofInt 5 = 5 := by decide
theorem ki_8 : Int32.ofInt 8 = 8 := by decide
theorem ki_16 : Int32.ofInt 16 = 16 := by decide
theorem kb_m9 : (Int8.ofInt (-9)).toInt32 = (-9) := by decide
theorem kb_m6 : (Int8.ofInt (-6)).toInt32 = (-6) := by decide
theorem kb_m4 : (Int8.ofInt (-4)).toInt32 = (-4) := by decide
theorem kb_m3 : (Int8.ofInt (-3)).toInt32 = (-3) := by decide
theorem kb_m2 : (Int8.ofInt (-2)).toInt32 = (-2) := by decide
theorem kb_6 : (Int8.ofInt 6).toInt32 = 6 := by decide
theorem kb_7 : (Int8.ofInt 7).toInt32 = 7 := by decide
theorem kb_8 : (Int8.ofInt 8).toInt32 = 8 := by decide
theorem kb_9 : (Int8.ofInt 9).toInt32 = 9 := by decide
theorem kb_10 : (Int8.ofInt 10).toInt32 = 10 := by decide
theorem kb_11 : (Int8.ofInt 11).toInt32 = 11 := by decide
theorem kb_16 : (Int8.ofInt 16).toInt32 = 16 := by decide
theorem kb_20 : (Int8.ofInt 20).toInt32 = 20 := by decide
theorem kb_23 : (Int8.ofInt 23).toInt32 = 23 := by decide
theorem kb_24 : (Int8.ofInt 24).toInt32 = 24 := by decide
theorem kb_26 : (Int8.ofInt 26).toInt32 = 26 := by decide
theorem kb_32 : (Int8.ofInt 32).toInt32 = 32 := by decide
theorem kb_36 : (Int8.ofInt 36).toInt32 = 36 := by decide
theorem kb_40 : (Int8.ofInt 40).toInt32 = 40 := by decide
theorem kb_48 : (Int8.ofInt 48).toInt32 = 48 := by decide
theorem kb_49 : (Int8.ofInt 49).toInt32 = 49 := by decide
theorem kb_50 : (Int8.ofInt 50).toInt32 = 50 := by decide
theorem kb_52 : (Int8.ofInt 52).toInt32 = 52 := by decide
theorem kb_57 : (Int8.ofInt 57).toInt32 = 57 := by decide
theorem kb_59 : (Int8.ofInt 59).toInt32 = 59 := by decide
theorem kb_63 : (Int8.ofInt 63).toInt32 = 63 := by decide
theorem kb_64 : (Int8.ofInt 64).toInt32 = 64 := by decide
theorem kb_65 : (Int8.ofInt 65).toInt32 = 65 := by decide
theorem kb_96 : (Int8.ofInt 96).toInt32 = 96 := by decide
theorem kb_97 : (Int8.ofInt 97).toInt32 = 97 := by decide
theorem kb_99 : (Int8.ofInt 99).toInt32 = 99 := by decide
theorem kb_100 : (Int8.ofInt 100).toInt32 = 100 := by decide
theorem kb_104 : (Int8.ofInt 104).toInt32 = 104 := by decide
theorem kb_108 : (Int8.ofInt 108).toInt32 = 108 := by decide
theorem kb_115 : (Int8.ofInt 115).toInt32 = 115 := by decide
theorem kb_120 : (Int8.ofInt 120).toInt32 = 120 := by decide
theorem kb_122 : (Int8.ofInt 122).toInt32 = 122 := by decide
theorem kc_m2000 : (Int16.ofInt (-2000)).toInt32 = (-2000) := by decide
theorem kc_m1000 : (Int16.ofInt (-1000)).toInt32 = (-1000) := by decide
theorem kc_150 : (Int16.ofInt 150).toInt32 = 150 := by decide
theorem kc_200 : (Int16.ofInt 200).toInt32 = 200 := by decide
theorem kc_255 : (Int16.ofInt 255).toInt32 = 255 := by decide
theorem kc_256 : (Int16.ofInt 256).toInt32 = 256 := by decide
theorem kc_1536 : (Int16.ofInt 1536).toInt32 = 1536 := by decide
theorem kc_9999 : (Int16.ofInt 9999).toInt32 = 9999 := by decide
theorem kc_10000 : (Int16.ofInt 10000).toInt32 = 10000 := by decide
theorem j_ws {g : GT} {ws ws' : va_W} {lv : List (Nat × Value)} {pc : Nat} {st : List Value} (hw : ws = ws') (kk : J g ws' lv pc st) : J g ws lv pc st := by rw [hw]; exact kk
theorem j_lw {g : GT} {ws : va_W} {lv lv' : List (Nat × Value)} {pc : Nat} {st : List Value} (kk : J g ws lv' pc st) (hs : lv'.map (fun q => lvg lv q.1) = lv'.map (fun q => some q.2)) : J g ws lv pc st := j_lv hs kk
theorem i32ne {x y : Int32} {v : Int} (h : ¬ x = y) (hv : y.toInt = v) : x.toInt ≠ v := fun e => h (Int32.toInt_inj.mp (e.trans hv.symm))
theorem lk_cons {a o d k off : Int} {r : List (Int × Int)} (h : k ≠ a) (h2 : Op.lookupswitch.offset r d k = off) : Op.lookupswitch.offset ((a, o) :: r) d k = off := by
  rw [Op.lookupswitch.offset_cons, if_neg (Ne.symm h)]; exact h2
theorem wput_cons {ws ws1 ws2 w2 : va_W} {i : Nat} {is : List Nat} {q : Nat × va_E} (h : ws.set i q = ws1) (h2 : wput ws1 is w2 = ws2) : wput ws (i :: is) (q :: w2) = ws2 := by rw [← h2, ← h]; rfl
theorem wput_nil {ws w2 : va_W} : wput ws [] w2 = ws := by cases w2 <;> rfl
theorem hC_cons {ws W : va_W} {i : Nat} {is : List Nat} {c : Nat × va_E} (h : ws[i]? = some c) (h2 : is.map (fun i => ws[i]?) = W.map some) : (i :: is).map (fun i => ws[i]?) = (c :: W).map some := by rw [List.map_cons, List.map_cons, h, h2]
theorem hC_nil {ws : va_W} : ([] : List Nat).map (fun i => ws[i]?) = ([] : va_W).map some := rfl
theorem lk_nil {d k : Int} : Op.lookupswitch.offset [] d k = d := rfl
theorem j_inc {g : GT} {own : String} {cc : ByteArray} {k nL9 : Nat} {ws : va_W} {lv : List (Nat × Value)} {pc : Nat} {st : List Value} (C : Cx g own cc k nL9) {i : Nat} {n : Int} {x : Int32} (c0 : Int32) (hdg : decode cc pc = .ok (.iinc i n, 3)) (hq : lvg lv i = some (.int x)) (hv : Int32.ofInt n = c0) (hn : i < nL9) (kk : J g ws (lvs lv i (.int (x + c0))) (pc + 3) st) : J g ws lv pc st := j_iinc C (x + c0) hdg hq (by rw [hv]) hn kk
theorem j_idivc {g : GT} {own : String} {cc : ByteArray} {k nL9 : Nat} {ws : va_W} {lv : List (Nat × Value)} {pc : Nat} {st : List Value} {x y : Int32} (C : Cx g own cc k nL9) (hne : ¬ y = 0) (hdg : decode cc pc = .ok (.idiv, 1)) (kk : J g ws lv (pc + 1) (.int (x / y) :: st)) : J g ws lv pc (.int y :: .int x :: st) := by
  obtain ⟨p, l, e, R, s, m, args, below, meth, c, D, A, Q, cells, slots, nL⟩ := g
  obtain ⟨rfl, hx, hb, hml, hown, hts, hK, hkf, hkl, hce, hsl, hA, hF⟩ := C
  intro H locs ls hP hD hS hl
  exact lv_idiv hx hb hdg hne (kk H locs ls hP hD hS hl)
theorem j_iremc {g : GT} {own : String} {cc : ByteArray} {k nL9 : Nat} {ws : va_W} {lv : List (Nat × Value)} {pc : Nat} {st : List Value} {x y : Int32} (C : Cx g own cc k nL9) (hne : ¬ y = 0) (hdg : decode cc pc = .ok (.irem, 1)) (kk : J g ws lv (pc + 1) (.int (x - x / y * y) :: st)) : J g ws lv pc (.int y :: .int x :: st) := by
  obtain ⟨p, l, e, R, s, m, args, below, meth, c, D, A, Q, cells, slots, nL⟩ := g
  obtain ⟨rfl, hx, hb, hml, hown, hts, hK, hkf, hkl, hce, hsl, hA, hF⟩ := C
  intro H locs ls hP hD hS hl
  exact lv_irem hx hb hdg hne (kk H locs ls hP hD hS hl)
theorem j_iushr {g : GT} {own : String} {cc : ByteArray} {k nL9 : Nat} {ws : va_W} {lv : List (Nat × Value)} {pc : Nat} {st : List Value} {x y : Int32} (C : Cx g own cc k nL9) (hdg : decode cc pc = .ok (.iushr, 1)) (kk : J g ws lv (pc + 1) (.int ((x.toUInt32 >>> (y.toUInt32 &&& Int32.toUInt32 31)).toInt32) :: st)) : J g ws lv pc (.int y :: .int x :: st) := by
  obtain ⟨p, l, e, R, s, m, args, below, meth, c, D, A, Q, cells, slots, nL⟩ := g
  obtain ⟨rfl, hx, hb, hml, hown, hts, hK, hkf, hkl, hce, hsl, hA, hF⟩ := C
  intro H locs ls hP hD hS hl
  exact lv_iushr hx hb hdg rfl (kk H locs ls hP hD hS hl)
theorem j_mmax {g : GT} {own : String} {cc : ByteArray} {k nL9 : Nat} {ws : va_W} {lv : List (Nat × Value)} {pc : Nat} {st : List Value} {x y : Int32} {idx : Nat} (C : Cx g own cc k nL9) (hk : 1 ≤ k) (hlk : Cond.methodLink own idx Lib.Math.max.name ∈ lw_gd) (hst : Cond.static Lib.Math.max.name ∈ lw_gd) (hin : Cond.initialized "java/lang/Math" ∈ lw_gd) (hco : Cond.code Lib.Math.max.name Lib.Math.max.code 2 (some .int) ∈ lw_gd) (hcat : (st.map fun v => v.category).sum ≤ 20) (hdg : decode cc pc = .ok (.invokestatic idx, 3)) (kk : J g ws lv (pc + 3) (.int (if x < y then y else x) :: st)) : J g ws lv pc (.int y :: .int x :: st) := by
  obtain ⟨p, l, e, R, s, m, args, below, meth, c, D, A, Q, cells, slots, nL⟩ := g
  obtain ⟨rfl, hx, hb, hml, hown, hts, hK, hkf, hkl, hce, hsl, hA, hF⟩ := C
  intro H locs ls hP hD hS hl
  exact va_mmax hx hb (hml.trans hl.1.symm) hown (hts _ hlk) (hts _ hst) (hts _ hin) (hts _ hco) (by omega) (by omega) hce hsl hdg (kk H locs ls hP hD hS hl)
theorem j_mmin {g : GT} {own : String} {cc : ByteArray} {k nL9 : Nat} {ws : va_W} {lv : List (Nat × Value)} {pc : Nat} {st : List Value} {x y : Int32} {idx : Nat} (C : Cx g own cc k nL9) (hk : 1 ≤ k) (hlk : Cond.methodLink own idx Lib.Math.min.name ∈ lw_gd) (hst : Cond.static Lib.Math.min.name ∈ lw_gd) (hin : Cond.initialized "java/lang/Math" ∈ lw_gd) (hco : Cond.code Lib.Math.min.name Lib.Math.min.code 2 (some .int) ∈ lw_gd) (hcat : (st.map fun v => v.category).sum ≤ 20) (hdg : decode cc pc = .ok (.invokestatic idx, 3)) (kk : J g ws lv (pc + 3) (.int (if y < x then y else x) :: st)) : J g ws lv pc (.int y :: .int x :: st) := by
  obtain ⟨p, l, e, R, s, m, args, below, meth, c, D, A, Q, cells, slots, nL⟩ := g
  obtain ⟨rfl, hx, hb, hml, hown, hts, hK, hkf, hkl, hce, hsl, hA, hF⟩ := C
  intro H locs ls hP hD hS hl
  exact va_mmin hx hb (hml.trans hl.1.symm) hown (hts _ hlk) (hts _ hst) (hts _ hin) (hts _ hco) (by omega) (by omega) hce hsl hdg (kk H locs ls hP hD hS hl)
/-- arraycopy of ints: the tests of its ranges -/
def gcp {α : Type} (sp dp n : Int32) (n0 n1 : Nat) (X : Option α) : Option α := if (0 ≤ sp.toInt ∧ 0 ≤ dp.toInt ∧ 0 ≤ n.toInt) ∧ sp.toNatClampNeg + n.toNatClampNeg ≤ n0 ∧ dp.toNatClampNeg + n.toNatClampNeg ≤ n1 then X else none
theorem of_gcp {α : Type} {sp dp n : Int32} {n0 n1 : Nat} {X : Option α} {o : α} (h : gcp sp dp n n0 n1 X = some o) : ((¬ sp < 0 ∧ ¬ dp < 0 ∧ ¬ n < 0) ∧ sp.toNatClampNeg + n.toNatClampNeg ≤ n0 ∧ dp.toNatClampNeg + n.toNatClampNeg ≤ n1) ∧ X = some o := by
  unfold gcp at h
  split at h
  · rename_i hc
    have nn : ∀ z : Int32, 0 ≤ z.toInt → ¬ z < 0 := fun z hz hlt => by have := Int32.lt_iff_toInt_lt.mp hlt; rw [show (0 : Int32).toInt = 0 from rfl] at this; omega
    exact ⟨⟨⟨nn _ hc.1.1, nn _ hc.1.2.1, nn _ hc.1.2.2⟩, hc.2⟩, h⟩
  · cases h
theorem j_acopy {g : GT} {own : String} {cc : ByteArray} {k nL9 : Nat} {ws : va_W} {lv : List (Nat × Value)} {pc : Nat} {st : List Value} {α : Type} {X : Option α} {o : α} {sp dp n : Int32} {n0 n1 a0 a1 idx : Nat} {cA cB : ClassId} {f g0 : Nat → Int32} (q0 q1 : Nat) (C : Cx g own cc k nL9) (h : gcp sp dp n n0 n1 X = some o) (hk : 1 ≤ k) (hlk : Cond.methodLink own idx arraycopyName ∈ lw_gd) (hnat : Cond.native arraycopyName ∈ lw_gd) (hst : Cond.static arraycopyName ∈ lw_gd) (hin : Cond.initialized "java/lang/System" ∈ lw_gd) (ha0 : ws[q0]? = some (a0, .inl (cA, n0, .inl f))) (ha1 : ws[q1]? = some (a1, .inl (cB, n1, .inl g0))) (hcA : (gD g).1 100 = cA) (hcB : (gD g).1 100 = cB) (hcat : (st.map fun v => v.category).sum ≤ 8) (hdg : decode cc pc = .ok (.invokestatic idx, 3)) (kk : X = some o → J g (ws.set q1 (a1, .inl (cB, n1, .inl (va_cpy f g0 sp.toNatClampNeg dp.toNatClampNeg n.toNatClampNeg)))) lv (pc + 3) st) : J g ws lv pc (.int n :: .int dp :: .ref a1 :: .int sp :: .ref a0 :: st) := by
  obtain ⟨hin2, h⟩ := of_gcp h
  replace kk := kk h
  have hw : nativeFrameWords "java/lang/System" "arraycopy" 5 + 11 ≤ 32 := by decide
  obtain ⟨p, l, e, R, s, m, args, below, meth, c, D, A, Q, cells, slots, nL⟩ := g
  obtain ⟨rfl, hx, hb, hml, hown, hts, hK, hkf, hkl, hce, hsl, hA, hF⟩ := C
  intro H locs ls hP hD hS hl
  subst hcA
  subst hcB
  exact va_copyi hx hb (hml.trans hl.1.symm) hown (hts _ hlk) (hts _ hnat) (hts _ hst) (hts _ hin) hK hP hD hS q0 q1 0 0 ha0 ha1 rfl rfl rfl hin2.1.1 hin2.1.2.1 hin2.1.2.2 hin2.2.1 hin2.2.2 (fun _ _ => rfl) (by omega) (by omega) hdg (fun H1 locs1 hP1 hD1 hS1 => kk H1 locs1 ls hP1 hD1 hS1 hl)
theorem j_callV1 {g : GT} {own : String} {cc : ByteArray} {k nL9 : Nat} {ws : va_W} {lv : List (Nat × Value)} {pc : Nat} {st st0 : List Value} {y : MethodName} {b : ByteArray} {nn na k1 idx : Nat} {ret : Option FieldType} {As : List Value} {W1 W2 ws9 : va_W} {vr : Value} {a ci N : Nat} {fs : List Value} {T : u_T} (C : Cx g own cc k nL9) (M : MOK y b nn ret na) (hV : Cond.instanceMethod y ∈ lw_gd ∧ Cond.selects y.cls y y ∈ lw_gd) (hlk : Cond.methodLink own idx y ∈ lw_gd) (K : CT (gl g) (gD g) y b nn ret k1 (.ref a :: As) W1 W2 (some vr)) (hk : k1 < k) (q : Nat) (he : ws[q]? = some (a, .inr (ci, fs))) (hc : vwCl[ci]? = some (y.cls, T, N)) (is : List Nat) (hC : is.map (fun i => ws[i]?) = W1.map some) (hnd : va_nd is = true) (hsm : W2.map (fun q => q.1) = W1.map (fun q => q.1)) (hna : As.length = na) (hst : st0 = As.reverse ++ .ref a :: st) (hcat : (st.map fun v => v.category).sum ≤ 8) (hdg : decode cc pc = .ok (.invokevirtual idx, 3)) (hw : wput ws is W2 = ws9) (kk : J g ws9 lv (pc + 3) (vr :: st)) : J g ws lv pc st0 := j_callV C M hV hlk K hk q he hc is hC hnd hsm hna hst hcat hdg (by rw [hw]; exact kk)
theorem j_callV0 {g : GT} {own : String} {cc : ByteArray} {k nL9 : Nat} {ws : va_W} {lv : List (Nat × Value)} {pc : Nat} {st st0 : List Value} {y : MethodName} {b : ByteArray} {nn na k1 idx : Nat} {ret : Option FieldType} {As : List Value} {W1 W2 ws9 : va_W} {a ci N : Nat} {fs : List Value} {T : u_T} (C : Cx g own cc k nL9) (M : MOK y b nn ret na) (hV : Cond.instanceMethod y ∈ lw_gd ∧ Cond.selects y.cls y y ∈ lw_gd) (hlk : Cond.methodLink own idx y ∈ lw_gd) (K : CT (gl g) (gD g) y b nn ret k1 (.ref a :: As) W1 W2 none) (hk : k1 < k) (q : Nat) (he : ws[q]? = some (a, .inr (ci, fs))) (hc : vwCl[ci]? = some (y.cls, T, N)) (is : List Nat) (hC : is.map (fun i => ws[i]?) = W1.map some) (hnd : va_nd is = true) (hsm : W2.map (fun q => q.1) = W1.map (fun q => q.1)) (hna : As.length = na) (hst : st0 = As.reverse ++ .ref a :: st) (hcat : (st.map fun v => v.category).sum ≤ 8) (hdg : decode cc pc = .ok (.invokevirtual idx, 3)) (hw : wput ws is W2 = ws9) (kk : J g ws9 lv (pc + 3) st) : J g ws lv pc st0 := j_callV C M hV hlk K hk q he hc is hC hnd hsm hna hst hcat hdg (by rw [hw]; exact kk)
theorem j_callS1 {g : GT} {own : String} {cc : ByteArray} {k nL9 : Nat} {ws : va_W} {lv : List (Nat × Value)} {pc : Nat} {st st0 : List Value} {y : MethodName} {b : ByteArray} {nn na k1 idx : Nat} {ret : Option FieldType} {As : List Value} {W1 W2 ws9 : va_W} {vr : Value} (C : Cx g own cc k nL9) (M : MOK y b nn ret na) (hV : Cond.static y ∈ lw_gd) (hlk : Cond.methodLink own idx y ∈ lw_gd) (K : CT (gl g) (gD g) y b nn ret k1 As W1 W2 (some vr)) (hk : k1 < k) (is : List Nat) (hC : is.map (fun i => ws[i]?) = W1.map some) (hnd : va_nd is = true) (hsm : W2.map (fun q => q.1) = W1.map (fun q => q.1)) (hna : As.length = na) (hst : st0 = As.reverse ++ st) (hcat : (st.map fun v => v.category).sum ≤ 8) (hdg : decode cc pc = .ok (.invokestatic idx, 3)) (hw : wput ws is W2 = ws9) (kk : J g ws9 lv (pc + 3) (vr :: st)) : J g ws lv pc st0 := j_callS C M hV hlk K hk is hC hnd hsm hna hst hcat hdg (by rw [hw]; exact kk)
theorem j_callS0 {g : GT} {own : String} {cc : ByteArray} {k nL9 : Nat} {ws : va_W} {lv : List (Nat × Value)} {pc : Nat} {st st0 : List Value} {y : MethodName} {b : ByteArray} {nn na k1 idx : Nat} {ret : Option FieldType} {As : List Value} {W1 W2 ws9 : va_W} (C : Cx g own cc k nL9) (M : MOK y b nn ret na) (hV : Cond.static y ∈ lw_gd) (hlk : Cond.methodLink own idx y ∈ lw_gd) (K : CT (gl g) (gD g) y b nn ret k1 As W1 W2 none) (hk : k1 < k) (is : List Nat) (hC : is.map (fun i => ws[i]?) = W1.map some) (hnd : va_nd is = true) (hsm : W2.map (fun q => q.1) = W1.map (fun q => q.1)) (hna : As.length = na) (hst : st0 = As.reverse ++ st) (hcat : (st.map fun v => v.category).sum ≤ 8) (hdg : decode cc pc = .ok (.invokestatic idx, 3)) (hw : wput ws is W2 = ws9) (kk : J g ws9 lv (pc + 3) st) : J g ws lv pc st0 := j_callS C M hV hlk K hk is hC hnd hsm hna hst hcat hdg (by rw [hw]; exact kk)
theorem j_callSN1 {g : GT} {own : String} {cc : ByteArray} {k nL9 : Nat} {ws : va_W} {lv : List (Nat × Value)} {pc : Nat} {st st0 : List Value} {y : MethodName} {b : ByteArray} {nn na k1 idx : Nat} {ret : Option FieldType} {As : List Value} {W1 W2 ws9 : va_W} {vr : Value} (C : Cx g own cc k nL9) (M : MOK y b nn ret na) (hV : Cond.static y ∈ lw_gd) (hlk : (own, idx, y) ∈ kNM) (K : CT (gl g) (gD g) y b nn ret k1 As W1 W2 (some vr)) (hk : k1 < k) (is : List Nat) (hC : is.map (fun i => ws[i]?) = W1.map some) (hnd : va_nd is = true) (hsm : W2.map (fun q => q.1) = W1.map (fun q => q.1)) (hna : As.length = na) (hst : st0 = As.reverse ++ st) (hcat : (st.map fun v => v.category).sum ≤ 8) (hdg : decode cc pc = .ok (.invokestatic idx, 3)) (hw : wput ws is W2 = ws9) (kk : J g ws9 lv (pc + 3) (vr :: st)) : J g ws lv pc st0 := by
  subst hw
  obtain ⟨p, l, e, R, s, m, args, below, meth, c, D, A, Q, cells, slots, nL⟩ := g
  obtain ⟨rfl, hx, hb, hml, hown, hts, hK, hkf, hkl, hce, hsl, hA, hF⟩ := C
  obtain ⟨M1, M2, M3, M4, M5⟩ := M
  intro H locs ls hP hD hS hl
  have hpre := j_pre (l := l) (As := As) hK hP hD hS hA hF hC hnd
  have hnl := hF.2.2.2.2.2.2.2.1 _ hlk
  exact j_back (l := l) hP hD hS hA hl hC hsm (va_runSN (As := As) (rest := st) (g := F0 m pc ls st0) ⟨hx, hb, hml, hown, hts⟩ (K H.size)
    ⟨va_cnB na hts (wsU_good M1) rfl rfl rfl hnl (hts _ M2) M3 ⟨by show k1 + 1 ≤ R.frames; omega, by show 8 + (nn + 11) + 40 * k1 ≤ R.locals; omega⟩, hts _ hV, trivial⟩
    hpre rfl hna hl.1 hst (lv_room hcat) hdg ⟨hce, hsl⟩) kk
def kidx (n : Int32) : Nat := if 0 ≤ n.toInt ∧ n.toInt < 6 then n.toNatClampNeg else 0
theorem kidx_lt (n : Int32) : kidx n < 6 := by
  unfold kidx
  split
  · rename_i h
    have h1 : (n.toNatClampNeg : Int) = n.toInt := by show (n.toInt.toNat : Int) = n.toInt; omega
    omega
  · decide
def kfld (j n : Nat) : Int32 := ((kF.getD j ("", "", "", [])).2.2.2).getD n 0
def kOn (n : Nat) (a b : Int32) : Int32 := kfld 0 n * (a + kfld 1 n * b)
def kBack (n : Nat) (a b : Int32) : Int32 := if kfld 3 n = 0 then 1000000 else kfld 0 n * (a + kfld 2 n * b)
theorem j_kgetN {g : GT} {own : String} {cc : ByteArray} {k nL9 : Nat} {ws : va_W} {lv : List (Nat × Value)} {pc : Nat} {st : List Value} {idx : Nat} {nm9 : String} {n : Int32} (j : Nat) (C : Cx g own cc k nL9) (hown9 : own = "PostmanRounds$Town") (hlk : (idx, nm9) ∈ kNF) (hj : (kF.getD j ("", "", "", [])) ∈ kF ∧ (kF.getD j ("", "", "", [])).1 = "PostmanRounds$Kind" ∧ (kF.getD j ("", "", "", [])).2.1 = nm9 ∧ (kF.getD j ("", "", "", [])).2.2.1 = "Z") (hdg : decode cc pc = .ok (.getfield idx, 3)) (kk : J g ws lv (pc + 3) (.int (kfld j (kidx n)) :: st)) : J g ws lv pc (.ref ((gD g).2 100 (kidx n)) :: st) := by
  obtain ⟨p, l, e, R, s, m, args, below, meth, c, D, A, Q, cells, slots, nL⟩ := g
  obtain ⟨rfl, hx, hb, hml, hown, hts, hK, hkf, hkl, hce, hsl, hA, hF⟩ := C
  intro H locs ls hP hD hS hl
  have hnl := va_Nw.use (A := args) rfl (hF.2.2.2.2.2.2.2.2 _ hlk)
  obtain ⟨cf, k9, fi, f, cell, h1, h2, h3, h4, h5, h6⟩ := ((hF.1.1 (kidx n) (kidx_lt n)).2.2 _ hj.1).kept hS.2.1
  rw [hj.2.1, hj.2.2.1, hj.2.2.2] at h1
  subst hown9
  exact va_Wgetf hx hb hown hnl h1 h2 h3 h4 (v := .int (kfld j (kidx n))) h5 rfl rfl hdg (kk H locs ls hP hD hS hl)
