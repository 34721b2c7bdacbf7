def LX (g : GT) (b L : Nat) (xs : Nat → Int32) : Prop := match g with
  | (_, _, _, _, s, _, _, _, _, _, _, A, _, _, _, _) => va_X b L xs s s.heap ∧ b < s.heap.size ∧ ¬ A b
theorem jl_sld {g : GT} {own : String} {cc : ByteArray} {k nL9 : Nat} {ws : va_W} {lv : List (Nat × Value)} {pc : Nat} {st : List Value} {b L : Nat} {xs : Nat → Int32} {i : Int32} (C : Cx g own cc k nL9) (X : LX g b L xs) (hin : vp_in i L) (hdg : decode cc pc = .ok (.iaload, 1)) (kk : J g ws lv (pc + 1) (.int (xs i.toNatClampNeg) :: st)) : J g ws lv pc (.int i :: .ref b :: st) := by
  obtain ⟨p, l, e, R, s, m, args, below, meth, c, D, A, Q, cells, slots, nL⟩ := g
  obtain ⟨rfl, hx, hb, hml, hown, hts, hK, hkf, hkl, hce, hsl, hA, hF⟩ := C
  intro H locs ls hP hD hS hl
  exact va_sld hx hb X.1 X.2.1 X.2.2 hS hin hdg (kk H locs ls hP hD hS hl)
theorem jl_slen {g : GT} {own : String} {cc : ByteArray} {k nL9 : Nat} {ws : va_W} {lv : List (Nat × Value)} {pc : Nat} {st : List Value} {b L : Nat} {xs : Nat → Int32} (C : Cx g own cc k nL9) (X : LX g b L xs) (hdg : decode cc pc = .ok (.arraylength, 1)) (kk : J g ws lv (pc + 1) (.int (Int32.ofNat L) :: st)) : J g ws lv pc (.ref b :: st) := by
  obtain ⟨p, l, e, R, s, m, args, below, meth, c, D, A, Q, cells, slots, nL⟩ := g
  obtain ⟨rfl, hx, hb, hml, hown, hts, hK, hkf, hkl, hce, hsl, hA, hF⟩ := C
  intro H locs ls hP hD hS hl
  exact va_slen hx hb X.1 X.2.1 X.2.2 hS hdg (kk H locs ls hP hD hS hl)
theorem hC_all (ws : va_W) {n : Nat} (h : ws.length = n) : (List.range n).map (fun i => ws[i]?) = ws.map some := by
  subst h
  apply List.ext_getElem?
  intro i
  rw [List.getElem?_map, List.getElem?_map]
  by_cases hi : i < ws.length
  · rw [List.getElem?_range hi, List.getElem?_eq_getElem hi]; exact congrArg some (List.getElem?_eq_getElem hi)
  · rw [List.getElem?_eq_none (by rw [List.length_range]; omega), List.getElem?_eq_none (by omega)]; rfl
theorem wput_pre : ∀ (ws w2 pre : va_W), ws.length = w2.length → wput (pre ++ ws) (List.range' pre.length ws.length) w2 = pre ++ w2
  | [], [], pre, _ => by simp [wput]
  | [], _ :: _, _, h => by cases h
  | _ :: _, [], _, h => by cases h
  | x :: ws, r :: w2, pre, h => by
    have h1 : (pre ++ x :: ws).set pre.length r = (pre ++ [r]) ++ ws := by
      rw [List.set_append_right _ _ (Nat.le_refl _), Nat.sub_self]; simp
    have h2 := wput_pre ws w2 (pre ++ [r]) (by simpa using h)
    rw [List.length_cons, List.range'_succ]
    unfold wput
    rw [h1]
    have h3 : (pre ++ [r]).length = pre.length + 1 := by simp
    rw [h3] at h2
    rw [h2]; simp
theorem wput_all {ws w2 : va_W} {n : Nat} (h : ws.length = n) (h2 : w2.length = n) : wput ws (List.range n) w2 = w2 := by
  subst h
  have := wput_pre ws w2 [] h2.symm
  rw [List.range_eq_range']
  simpa using this
theorem lg_cmp_self (x : Int64) : lg_cmp x x = 0 := by simp [lg_cmp]
def gw (p : Program) (l : Launch) (e : Env) (s : State) (m : MethodId) (below : List Frame) (meth : Method) (c : Code) (D : va_G) (b cs sl : Nat) (d : Drawn) : GT := (p, l, e, room_1, s.setDrawn d, m, #[Value.ref b], below, meth, c, D, fun q => s.heap.size ≤ q, lw_Z below #[Value.ref b] s, cs, sl, 4)
/-- what holds all through the law's body -/
def LC (p : Program) (s : State) (m : MethodId) (meth : Method) (c : Code) (D : va_G) (b L : Nat) (xs : Nat → Int32) : Prop :=
  p.tables.exec = Jvm.exec ∧ c.code = code ∧ meth.sig.returnType = ret ∧ c.maxLocals = 4 ∧ s.vm.findClass R_law = some m.cls ∧ (∀ w ∈ lw_tbl, w.before #[Value.ref b] s = true) ∧ va_X b L xs s s.heap ∧ b < s.heap.size ∧ meth.locks = false ∧ va_K D vwCl (jty D) s ∧ SF D (fun q => s.heap.size ≤ q) s s.heap
theorem LC.cx {p : Program} {s : State} {m : MethodId} {meth : Method} {c : Code} {D : va_G} {b L : Nat} {xs : Nat → Int32} (K : LC p s m meth c D b L xs) (l : Launch) (e : Env) (below : List Frame) (cs sl : Nat) (hc : cs ≤ 600000) (hs : sl ≤ 7302250) (d : Drawn) : Cx (gw p l e s m below meth c D b cs sl d) R_law code 100 4 := by
  obtain ⟨h1, h2, h3, h4, h5, h6, h7, h8, h9, h10, h11⟩ := K
  exact ⟨rfl, h1, h2, h4, h5, dr_words (fun w hw => h6 w (lw_gd_in w hw)) d, va_K.moved (u := s) (U := s.setDrawn d) (Vm.Alike.refl _) h10, by show 100 ≤ 2048; decide, by show 4000 ≤ 84000; decide, hc, hs, fun q h => h, SF.same (s := s) (U := s.setDrawn d) rfl h11⟩
theorem LC.lx {p : Program} {s : State} {m : MethodId} {meth : Method} {c : Code} {D : va_G} {b L : Nat} {xs : Nat → Int32} (K : LC p s m meth c D b L xs) (l : Launch) (e : Env) (below : List Frame) (cs sl : Nat) (d : Drawn) : LX (gw p l e s m below meth c D b cs sl d) b L xs := by
  obtain ⟨h1, h2, h3, h4, h5, h6, h7, h8, h9, h10, h11⟩ := K
  exact ⟨h7, h8, Nat.not_le.mpr h8⟩
theorem LC.ret {p : Program} {s : State} {m : MethodId} {meth : Method} {c : Code} {D : va_G} {b L : Nat} {xs : Nat → Int32} (K : LC p s m meth c D b L xs) {l : Launch} {e : Env} {below : List Frame} {cs sl : Nat} (hc : cs ≤ 600000) (hs : sl ≤ 7302250) {d : Drawn} (hd : s.drawn.sameBut d lw_cs) {ws : va_W} {lv : List (Nat × Value)} {pc : Nat} (hdg : decode code pc = .ok (.ireturn, 1)) : J (gw p l e s m below meth c D b cs sl d) ws lv pc [.int 1] := by
  obtain ⟨h1, h2, h3, h4, h5, h6, h7, h8, h9, h10, h11⟩ := K
  intro H locs ls hP hD hS hl
  refine va_forget (fun q hq => hS.2.2 q hq) ?_
  refine W.widen (k := 600000) (n := 7302250) hc hs ?_
  exact lw_ret hd h1 h2 h3 h9 hdg
set_option maxRecDepth 100000 in
set_option maxHeartbeats 4000000 in
theorem lawc_letter {p : Program} {l : Launch} {e : Env} {s : State} {m : MethodId} {below : List Frame} {meth : Method} {c : Code} {D : va_G} {b L cs sl : Nat} {xs : Nat → Int32} {d : Drawn} {q : Nat → Nat} {A I : Nat → Nat → Int32} {x : Int32} (K : LC p s m meth c D b L xs) (hcs : cs ≤ 600000) (hsl : sl ≤ 7302250) {N : Nat} (hN : 8000000 ≤ N) (hI : Inv A I) (hd : s.drawn.sameBut d lw_cs) (h1 : vp_in (x + 1) L) (h2 : vp_in (x + 2) L) (h3 : vp_in (x + 3) L) (h4 : vp_in (x + 4) L) (hnext : ∀ A' I', Inv A' I' → ∀ d', s.drawn.sameBut d' lw_cs → J (gw p l e s m below meth c D b cs sl d') (wALL D q A' I') [(0, .ref b), (1, .ref (q 0)), (2, .ref (q 65)), (3, .int x)] 1159 []) : J (gw p l e s m below meth c D b cs sl d) (wALL D q A I) [(0, .ref b), (1, .ref (q 0)), (2, .ref (q 65)), (3, .int x)] 196 [] := by
  have C := K.cx l e below cs sl hcs hsl d
  have X := K.lx l e below cs sl d
  obtain ⟨oc, hoc, om, hom, heq, hI2⟩ := pm_letter hI hN (xs (x + 1).toNatClampNeg)
  refine j_aload_n C dL_law_196 rfl ?_
  refine j_aload_n C dL_law_197 rfl ?_
  refine j_iload_n C dL_law_198 rfl ?_
  refine j_iconst C 1 dL_law_199 ki_1 ?_
  refine j_iadd C dL_law_200 ?_
  refine jl_sld C X h1 dL_law_201 ?_
  refine j_callV1 C mk_X9_letter ms_X9_letter kw_310 (t_X9_letter l D hoc) (by decide) 0 wA_g0 rfl (List.range 84) (hC_all _ wA_l) rfl (wA_a.trans wA_a.symm) rfl rfl (Nat.le_of_ble_eq_true rfl) dL_law_202 (wput_all wA_l wA_l) ?_
  refine j_aload_n C dL_law_205 rfl ?_
  refine j_aload_n C dL_law_206 rfl ?_
  refine j_iload_n C dL_law_207 rfl ?_
  refine j_iconst C 1 dL_law_208 ki_1 ?_
  refine j_iadd C dL_law_209 ?_
  refine jl_sld C X h1 dL_law_210 ?_
  refine j_callV1 C mk_X10_letter ms_X10_letter kw_1060 (t_X10_letter l D hom) (by decide) 65 wA_g65 rfl (List.range 84) (hC_all _ wA_l) rfl (wA_a.trans wA_a.symm) rfl rfl (Nat.le_of_ble_eq_true rfl) dL_law_211 (wput_all wA_l wA_l) ?_
  refine jv_icmp_eq C 1159 dL_law_214 (by decide) (fun _ => hnext _ _ hI2 _ hd) (fun hne => absurd heq hne)
set_option maxRecDepth 100000 in
set_option maxHeartbeats 4000000 in
theorem lawc_map {p : Program} {l : Launch} {e : Env} {s : State} {m : MethodId} {below : List Frame} {meth : Method} {c : Code} {D : va_G} {b L cs sl : Nat} {xs : Nat → Int32} {d : Drawn} {q : Nat → Nat} {A I : Nat → Nat → Int32} {x : Int32} (K : LC p s m meth c D b L xs) (hcs : cs ≤ 600000) (hsl : sl ≤ 7302250) {N : Nat} (hN : 8000000 ≤ N) (hI : Inv A I) (hd : s.drawn.sameBut d lw_cs) (h1 : vp_in (x + 1) L) (h2 : vp_in (x + 2) L) (h3 : vp_in (x + 3) L) (h4 : vp_in (x + 4) L) (hnext : ∀ A' I', Inv A' I' → ∀ d', s.drawn.sameBut d' lw_cs → J (gw p l e s m below meth c D b cs sl d') (wALL D q A' I') [(0, .ref b), (1, .ref (q 0)), (2, .ref (q 65)), (3, .int x)] 1159 []) : J (gw p l e s m below meth c D b cs sl d) (wALL D q A I) [(0, .ref b), (1, .ref (q 0)), (2, .ref (q 65)), (3, .int x)] 219 [] := by
  have C := K.cx l e below cs sl hcs hsl d
  have X := K.lx l e below cs sl d
  obtain ⟨oc, hoc, om, hom, heq, hI2⟩ := pm_map hI hN
  refine j_aload_n C dL_law_219 rfl ?_
  refine j_callV1 C mk_X9_map ms_X9_map kw_322 (t_X9_map l D N hoc) (by decide) 0 wA_g0 rfl (List.range 84) (hC_all _ wA_l) rfl (wA_a.trans wA_a.symm) rfl rfl (Nat.le_of_ble_eq_true rfl) dL_law_220 (wput_all wA_l wA_l) ?_
  refine j_aload_n C dL_law_223 rfl ?_
  refine j_callV1 C mk_X10_map ms_X10_map kw_1068 (t_X10_map l D N hom) (by decide) 65 wA_g65 rfl (List.range 84) (hC_all _ wA_l) rfl (wA_a.trans wA_a.symm) rfl rfl (Nat.le_of_ble_eq_true rfl) dL_law_224 (wput_all wA_l wA_l) ?_
  refine jv_icmp_eq C 1159 dL_law_227 (by decide) (fun _ => hnext _ _ hI2 _ hd) (fun hne => absurd heq hne)
set_option maxRecDepth 100000 in
set_option maxHeartbeats 4000000 in
theorem lawc_streets {p : Program} {l : Launch} {e : Env} {s : State} {m : MethodId} {below : List Frame} {meth : Method} {c : Code} {D : va_G} {b L cs sl : Nat} {xs : Nat → Int32} {d : Drawn} {q : Nat → Nat} {A I : Nat → Nat → Int32} {x : Int32} (K : LC p s m meth c D b L xs) (hcs : cs ≤ 600000) (hsl : sl ≤ 7302250) {N : Nat} (hN : 8000000 ≤ N) (hI : Inv A I) (hd : s.drawn.sameBut d lw_cs) (h1 : vp_in (x + 1) L) (h2 : vp_in (x + 2) L) (h3 : vp_in (x + 3) L) (h4 : vp_in (x + 4) L) (hnext : ∀ A' I', Inv A' I' → ∀ d', s.drawn.sameBut d' lw_cs → J (gw p l e s m below meth c D b cs sl d') (wALL D q A' I') [(0, .ref b), (1, .ref (q 0)), (2, .ref (q 65)), (3, .int x)] 1159 []) : J (gw p l e s m below meth c D b cs sl d) (wALL D q A I) [(0, .ref b), (1, .ref (q 0)), (2, .ref (q 65)), (3, .int x)] 232 [] := by
  have C := K.cx l e below cs sl hcs hsl d
  have X := K.lx l e below cs sl d
  obtain ⟨oc, hoc, om, hom, heq, hI2⟩ := pm_streets hI hN (xs (x + 1).toNatClampNeg) (xs (x + 2).toNatClampNeg) (xs (x + 3).toNatClampNeg)
  refine j_aload_n C dL_law_232 rfl ?_
  refine j_aload_n C dL_law_233 rfl ?_
  refine j_iload_n C dL_law_234 rfl ?_
  refine j_iconst C 1 dL_law_235 ki_1 ?_
  refine j_iadd C dL_law_236 ?_
  refine jl_sld C X h1 dL_law_237 ?_
  refine j_aload_n C dL_law_238 rfl ?_
  refine j_iload_n C dL_law_239 rfl ?_
  refine j_iconst C 2 dL_law_240 ki_2 ?_
  refine j_iadd C dL_law_241 ?_
  refine jl_sld C X h2 dL_law_242 ?_
  refine j_aload_n C dL_law_243 rfl ?_
  refine j_iload_n C dL_law_244 rfl ?_
  refine j_iconst C 3 dL_law_245 ki_3 ?_
  refine j_iadd C dL_law_246 ?_
  refine jl_sld C X h3 dL_law_247 ?_
  refine j_callV1 C mk_X9_streets ms_X9_streets kw_473 (t_X9_streets l D hoc) (by decide) 0 wA_g0 rfl (List.range 84) (hC_all _ wA_l) rfl (wA_a.trans wA_a.symm) rfl rfl (Nat.le_of_ble_eq_true rfl) dL_law_248 (wput_all wA_l wA_l) ?_
  refine j_aload_n C dL_law_251 rfl ?_
  refine j_aload_n C dL_law_252 rfl ?_
  refine j_iload_n C dL_law_253 rfl ?_
  refine j_iconst C 1 dL_law_254 ki_1 ?_
  refine j_iadd C dL_law_255 ?_
  refine jl_sld C X h1 dL_law_256 ?_
  refine j_aload_n C dL_law_257 rfl ?_
  refine j_iload_n C dL_law_258 rfl ?_
  refine j_iconst C 2 dL_law_259 ki_2 ?_
  refine j_iadd C dL_law_260 ?_
  refine jl_sld C X h2 dL_law_261 ?_
  refine j_aload_n C dL_law_262 rfl ?_
  refine j_iload_n C dL_law_263 rfl ?_
  refine j_iconst C 3 dL_law_264 ki_3 ?_
  refine j_iadd C dL_law_265 ?_
  refine jl_sld C X h3 dL_law_266 ?_
  refine j_callV1 C mk_X10_streets ms_X10_streets kw_1116 (t_X10_streets l D hom) (by decide) 65 wA_g65 rfl (List.range 84) (hC_all _ wA_l) rfl (wA_a.trans wA_a.symm) rfl rfl (Nat.le_of_ble_eq_true rfl) dL_law_267 (wput_all wA_l wA_l) ?_
  refine jv_icmp_eq C 1159 dL_law_270 (by decide) (fun _ => hnext _ _ hI2 _ hd) (fun hne => absurd heq hne)
set_option maxRecDepth 100000 in
set_option maxHeartbeats 4000000 in
theorem lawc_turns {p : Program} {l : Launch} {e : Env} {s : State} {m : MethodId} {below : List Frame} {meth : Method} {c : Code} {D : va_G} {b L cs sl : Nat} {xs : Nat → Int32} {d : Drawn} {q : Nat → Nat} {A I : Nat → Nat → Int32} {x : Int32} (K : LC p s m meth c D b L xs) (hcs : cs ≤ 600000) (hsl : sl ≤ 7302250) {N : Nat} (hN : 8000000 ≤ N) (hI : Inv A I) (hd : s.drawn.sameBut d lw_cs) (h1 : vp_in (x + 1) L) (h2 : vp_in (x + 2) L) (h3 : vp_in (x + 3) L) (h4 : vp_in (x + 4) L) (hnext : ∀ A' I', Inv A' I' → ∀ d', s.drawn.sameBut d' lw_cs → J (gw p l e s m below meth c D b cs sl d') (wALL D q A' I') [(0, .ref b), (1, .ref (q 0)), (2, .ref (q 65)), (3, .int x)] 1159 []) : J (gw p l e s m below meth c D b cs sl d) (wALL D q A I) [(0, .ref b), (1, .ref (q 0)), (2, .ref (q 65)), (3, .int x)] 275 [] := by
  have C := K.cx l e below cs sl hcs hsl d
  have X := K.lx l e below cs sl d
  obtain ⟨oc, hoc, om, hom, heq, hI2⟩ := pm_turns hI hN (xs (x + 1).toNatClampNeg)
  refine j_aload_n C dL_law_275 rfl ?_
  refine j_aload_n C dL_law_276 rfl ?_
  refine j_iload_n C dL_law_277 rfl ?_
  refine j_iconst C 1 dL_law_278 ki_1 ?_
  refine j_iadd C dL_law_279 ?_
  refine jl_sld C X h1 dL_law_280 ?_
  refine j_callV1 C mk_X9_turns ms_X9_turns kw_479 (t_X9_turns l D hoc) (by decide) 0 wA_g0 rfl (List.range 84) (hC_all _ wA_l) rfl (wA_a.trans wA_a.symm) rfl rfl (Nat.le_of_ble_eq_true rfl) dL_law_281 (wput_all wA_l wA_l) ?_
  refine j_aload_n C dL_law_284 rfl ?_
  refine j_aload_n C dL_law_285 rfl ?_
  refine j_iload_n C dL_law_286 rfl ?_
  refine j_iconst C 1 dL_law_287 ki_1 ?_
  refine j_iadd C dL_law_288 ?_
  refine jl_sld C X h1 dL_law_289 ?_
  refine j_callV1 C mk_X10_turns ms_X10_turns kw_1120 (t_X10_turns l D hom) (by decide) 65 wA_g65 rfl (List.range 84) (hC_all _ wA_l) rfl (wA_a.trans wA_a.symm) rfl rfl (Nat.le_of_ble_eq_true rfl) dL_law_290 (wput_all wA_l wA_l) ?_
  refine jv_icmp_eq C 1159 dL_law_293 (by decide) (fun _ => hnext _ _ hI2 _ hd) (fun hne => absurd heq hne)
set_option maxRecDepth 100000 in
set_option maxHeartbeats 4000000 in
theorem lawc_length {p : Program} {l : Launch} {e : Env} {s : State} {m : MethodId} {below : List Frame} {meth : Method} {c : Code} {D : va_G} {b L cs sl : Nat} {xs : Nat → Int32} {d : Drawn} {q : Nat → Nat} {A I : Nat → Nat → Int32} {x : Int32} (K : LC p s m meth c D b L xs) (hcs : cs ≤ 600000) (hsl : sl ≤ 7302250) {N : Nat} (hN : 8000000 ≤ N) (hI : Inv A I) (hd : s.drawn.sameBut d lw_cs) (h1 : vp_in (x + 1) L) (h2 : vp_in (x + 2) L) (h3 : vp_in (x + 3) L) (h4 : vp_in (x + 4) L) (hnext : ∀ A' I', Inv A' I' → ∀ d', s.drawn.sameBut d' lw_cs → J (gw p l e s m below meth c D b cs sl d') (wALL D q A' I') [(0, .ref b), (1, .ref (q 0)), (2, .ref (q 65)), (3, .int x)] 1159 []) : J (gw p l e s m below meth c D b cs sl d) (wALL D q A I) [(0, .ref b), (1, .ref (q 0)), (2, .ref (q 65)), (3, .int x)] 298 [] := by
  have C := K.cx l e below cs sl hcs hsl d
  have X := K.lx l e below cs sl d
  obtain ⟨oc, hoc, om, hom, heq, hI2⟩ := pm_length hI hN (xs (x + 1).toNatClampNeg) (xs (x + 2).toNatClampNeg)
  refine j_aload_n C dL_law_298 rfl ?_
  refine j_aload_n C dL_law_299 rfl ?_
  refine j_iload_n C dL_law_300 rfl ?_
  refine j_iconst C 1 dL_law_301 ki_1 ?_
  refine j_iadd C dL_law_302 ?_
  refine jl_sld C X h1 dL_law_303 ?_
  refine j_aload_n C dL_law_304 rfl ?_
  refine j_iload_n C dL_law_305 rfl ?_
  refine j_iconst C 2 dL_law_306 ki_2 ?_
  refine j_iadd C dL_law_307 ?_
  refine jl_sld C X h2 dL_law_308 ?_
  refine j_callV1 C mk_X9_length ms_X9_length kw_489 (t_X9_length l D hoc) (by decide) 0 wA_g0 rfl (List.range 84) (hC_all _ wA_l) rfl (wA_a.trans wA_a.symm) rfl rfl (Nat.le_of_ble_eq_true rfl) dL_law_309 (wput_all wA_l wA_l) ?_
  refine j_aload_n C dL_law_312 rfl ?_
  refine j_aload_n C dL_law_313 rfl ?_
  refine j_iload_n C dL_law_314 rfl ?_
  refine j_iconst C 1 dL_law_315 ki_1 ?_
  refine j_iadd C dL_law_316 ?_
  refine jl_sld C X h1 dL_law_317 ?_
  refine j_aload_n C dL_law_318 rfl ?_
  refine j_iload_n C dL_law_319 rfl ?_
  refine j_iconst C 2 dL_law_320 ki_2 ?_
  refine j_iadd C dL_law_321 ?_
  refine jl_sld C X h2 dL_law_322 ?_
  refine j_callV1 C mk_X10_length ms_X10_length kw_1124 (t_X10_length l D hom) (by decide) 65 wA_g65 rfl (List.range 84) (hC_all _ wA_l) rfl (wA_a.trans wA_a.symm) rfl rfl (Nat.le_of_ble_eq_true rfl) dL_law_323 (wput_all wA_l wA_l) ?_
  refine jv_icmp_eq C 1159 dL_law_326 (by decide) (fun _ => hnext _ _ hI2 _ hd) (fun hne => absurd heq hne)
set_option maxRecDepth 100000 in
set_option maxHeartbeats 4000000 in
theorem lawc_kind {p : Program} {l : Launch} {e : Env} {s : State} {m : MethodId} {below : List Frame} {meth : Method} {c : Code} {D : va_G} {b L cs sl : Nat} {xs : Nat → Int32} {d : Drawn} {q : Nat → Nat} {A I : Nat → Nat → Int32} {x : Int32} (K : LC p s m meth c D b L xs) (hcs : cs ≤ 600000) (hsl : sl ≤ 7302250) {N : Nat} (hN : 8000000 ≤ N) (hI : Inv A I) (hd : s.drawn.sameBut d lw_cs) (h1 : vp_in (x + 1) L) (h2 : vp_in (x + 2) L) (h3 : vp_in (x + 3) L) (h4 : vp_in (x + 4) L) (hnext : ∀ A' I', Inv A' I' → ∀ d', s.drawn.sameBut d' lw_cs → J (gw p l e s m below meth c D b cs sl d') (wALL D q A' I') [(0, .ref b), (1, .ref (q 0)), (2, .ref (q 65)), (3, .int x)] 1159 []) : J (gw p l e s m below meth c D b cs sl d) (wALL D q A I) [(0, .ref b), (1, .ref (q 0)), (2, .ref (q 65)), (3, .int x)] 331 [] := by
  have C := K.cx l e below cs sl hcs hsl d
  have X := K.lx l e below cs sl d
  obtain ⟨oc, hoc, om, hom, heq, hI2⟩ := pm_kind hI hN (xs (x + 1).toNatClampNeg) (xs (x + 2).toNatClampNeg) (xs (x + 3).toNatClampNeg)
  refine j_aload_n C dL_law_331 rfl ?_
  refine j_aload_n C dL_law_332 rfl ?_
  refine j_iload_n C dL_law_333 rfl ?_
  refine j_iconst C 1 dL_law_334 ki_1 ?_
  refine j_iadd C dL_law_335 ?_
  refine jl_sld C X h1 dL_law_336 ?_
  refine j_aload_n C dL_law_337 rfl ?_
  refine j_iload_n C dL_law_338 rfl ?_
  refine j_iconst C 2 dL_law_339 ki_2 ?_
  refine j_iadd C dL_law_340 ?_
  refine jl_sld C X h2 dL_law_341 ?_
  refine j_aload_n C dL_law_342 rfl ?_
  refine j_iload_n C dL_law_343 rfl ?_
  refine j_iconst C 3 dL_law_344 ki_3 ?_
  refine j_iadd C dL_law_345 ?_
  refine jl_sld C X h3 dL_law_346 ?_
  refine j_callV1 C mk_X9_kind ms_X9_kind kw_493 (t_X9_kind l D hoc) (by decide) 0 wA_g0 rfl (List.range 84) (hC_all _ wA_l) rfl (wA_a.trans wA_a.symm) rfl rfl (Nat.le_of_ble_eq_true rfl) dL_law_347 (wput_all wA_l wA_l) ?_
  refine j_aload_n C dL_law_350 rfl ?_
  refine j_aload_n C dL_law_351 rfl ?_
  refine j_iload_n C dL_law_352 rfl ?_
  refine j_iconst C 1 dL_law_353 ki_1 ?_
  refine j_iadd C dL_law_354 ?_
  refine jl_sld C X h1 dL_law_355 ?_
  refine j_aload_n C dL_law_356 rfl ?_
  refine j_iload_n C dL_law_357 rfl ?_
  refine j_iconst C 2 dL_law_358 ki_2 ?_
  refine j_iadd C dL_law_359 ?_
  refine jl_sld C X h2 dL_law_360 ?_
  refine j_aload_n C dL_law_361 rfl ?_
  refine j_iload_n C dL_law_362 rfl ?_
  refine j_iconst C 3 dL_law_363 ki_3 ?_
  refine j_iadd C dL_law_364 ?_
  refine jl_sld C X h3 dL_law_365 ?_
  refine j_callV1 C mk_X10_kind ms_X10_kind kw_1128 (t_X10_kind l D hom) (by decide) 65 wA_g65 rfl (List.range 84) (hC_all _ wA_l) rfl (wA_a.trans wA_a.symm) rfl rfl (Nat.le_of_ble_eq_true rfl) dL_law_366 (wput_all wA_l wA_l) ?_
  refine jv_icmp_eq C 1159 dL_law_369 (by decide) (fun _ => hnext _ _ hI2 _ hd) (fun hne => absurd heq hne)
set_option maxRecDepth 100000 in
set_option maxHeartbeats 4000000 in
theorem lawc_home {p : Program} {l : Launch} {e : Env} {s : State} {m : MethodId} {below : List Frame} {meth : Method} {c : Code} {D : va_G} {b L cs sl : Nat} {xs : Nat → Int32} {d : Drawn} {q : Nat → Nat} {A I : Nat → Nat → Int32} {x : Int32} (K : LC p s m meth c D b L xs) (hcs : cs ≤ 600000) (hsl : sl ≤ 7302250) {N : Nat} (hN : 8000000 ≤ N) (hI : Inv A I) (hd : s.drawn.sameBut d lw_cs) (h1 : vp_in (x + 1) L) (h2 : vp_in (x + 2) L) (h3 : vp_in (x + 3) L) (h4 : vp_in (x + 4) L) (hnext : ∀ A' I', Inv A' I' → ∀ d', s.drawn.sameBut d' lw_cs → J (gw p l e s m below meth c D b cs sl d') (wALL D q A' I') [(0, .ref b), (1, .ref (q 0)), (2, .ref (q 65)), (3, .int x)] 1159 []) : J (gw p l e s m below meth c D b cs sl d) (wALL D q A I) [(0, .ref b), (1, .ref (q 0)), (2, .ref (q 65)), (3, .int x)] 374 [] := by
  have C := K.cx l e below cs sl hcs hsl d
  have X := K.lx l e below cs sl d
  obtain ⟨oc, hoc, om, hom, heq, hI2⟩ := pm_home hI hN (xs (x + 1).toNatClampNeg)
  refine j_aload_n C dL_law_374 rfl ?_
  refine j_aload_n C dL_law_375 rfl ?_
  refine j_iload_n C dL_law_376 rfl ?_
  refine j_iconst C 1 dL_law_377 ki_1 ?_
  refine j_iadd C dL_law_378 ?_
  refine jl_sld C X h1 dL_law_379 ?_
  refine j_callV1 C mk_X9_home ms_X9_home kw_497 (t_X9_home l D hoc) (by decide) 0 wA_g0 rfl (List.range 84) (hC_all _ wA_l) rfl (wA_a.trans wA_a.symm) rfl rfl (Nat.le_of_ble_eq_true rfl) dL_law_380 (wput_all wA_l wA_l) ?_
  refine j_aload_n C dL_law_383 rfl ?_
  refine j_aload_n C dL_law_384 rfl ?_
  refine j_iload_n C dL_law_385 rfl ?_
  refine j_iconst C 1 dL_law_386 ki_1 ?_
  refine j_iadd C dL_law_387 ?_
  refine jl_sld C X h1 dL_law_388 ?_
  refine j_callV1 C mk_X10_home ms_X10_home kw_1133 (t_X10_home l D hom) (by decide) 65 wA_g65 rfl (List.range 84) (hC_all _ wA_l) rfl (wA_a.trans wA_a.symm) rfl rfl (Nat.le_of_ble_eq_true rfl) dL_law_389 (wput_all wA_l wA_l) ?_
  refine jv_icmp_eq C 1159 dL_law_392 (by decide) (fun _ => hnext _ _ hI2 _ hd) (fun hne => absurd heq hne)
set_option maxRecDepth 100000 in
set_option maxHeartbeats 4000000 in
theorem lawc_street {p : Program} {l : Launch} {e : Env} {s : State} {m : MethodId} {below : List Frame} {meth : Method} {c : Code} {D : va_G} {b L cs sl : Nat} {xs : Nat → Int32} {d : Drawn} {q : Nat → Nat} {A I : Nat → Nat → Int32} {x : Int32} (K : LC p s m meth c D b L xs) (hcs : cs ≤ 600000) (hsl : sl ≤ 7302250) {N : Nat} (hN : 8000000 ≤ N) (hI : Inv A I) (hd : s.drawn.sameBut d lw_cs) (h1 : vp_in (x + 1) L) (h2 : vp_in (x + 2) L) (h3 : vp_in (x + 3) L) (h4 : vp_in (x + 4) L) (hnext : ∀ A' I', Inv A' I' → ∀ d', s.drawn.sameBut d' lw_cs → J (gw p l e s m below meth c D b cs sl d') (wALL D q A' I') [(0, .ref b), (1, .ref (q 0)), (2, .ref (q 65)), (3, .int x)] 1159 []) : J (gw p l e s m below meth c D b cs sl d) (wALL D q A I) [(0, .ref b), (1, .ref (q 0)), (2, .ref (q 65)), (3, .int x)] 397 [] := by
  have C := K.cx l e below cs sl hcs hsl d
  have X := K.lx l e below cs sl d
  obtain ⟨oc, hoc, om, hom, heq, hI2⟩ := pm_street hI hN (xs (x + 1).toNatClampNeg) (xs (x + 2).toNatClampNeg)
  refine j_aload_n C dL_law_397 rfl ?_
  refine j_aload_n C dL_law_398 rfl ?_
  refine j_iload_n C dL_law_399 rfl ?_
  refine j_iconst C 1 dL_law_400 ki_1 ?_
  refine j_iadd C dL_law_401 ?_
  refine jl_sld C X h1 dL_law_402 ?_
  refine j_aload_n C dL_law_403 rfl ?_
  refine j_iload_n C dL_law_404 rfl ?_
  refine j_iconst C 2 dL_law_405 ki_2 ?_
  refine j_iadd C dL_law_406 ?_
  refine jl_sld C X h2 dL_law_407 ?_
  refine j_callV1 C mk_X9_street ms_X9_street kw_501 (t_X9_street l D hoc) (by decide) 0 wA_g0 rfl (List.range 84) (hC_all _ wA_l) rfl (wA_a.trans wA_a.symm) rfl rfl (Nat.le_of_ble_eq_true rfl) dL_law_408 (wput_all wA_l wA_l) ?_
  refine j_aload_n C dL_law_411 rfl ?_
  refine j_aload_n C dL_law_412 rfl ?_
  refine j_iload_n C dL_law_413 rfl ?_
  refine j_iconst C 1 dL_law_414 ki_1 ?_
  refine j_iadd C dL_law_415 ?_
  refine jl_sld C X h1 dL_law_416 ?_
  refine j_aload_n C dL_law_417 rfl ?_
  refine j_iload_n C dL_law_418 rfl ?_
  refine j_iconst C 2 dL_law_419 ki_2 ?_
  refine j_iadd C dL_law_420 ?_
  refine jl_sld C X h2 dL_law_421 ?_
  refine j_callV1 C mk_X10_street ms_X10_street kw_1137 (t_X10_street l D hom) (by decide) 65 wA_g65 rfl (List.range 84) (hC_all _ wA_l) rfl (wA_a.trans wA_a.symm) rfl rfl (Nat.le_of_ble_eq_true rfl) dL_law_422 (wput_all wA_l wA_l) ?_
  refine jv_icmp_eq C 1159 dL_law_425 (by decide) (fun _ => hnext _ _ hI2 _ hd) (fun hne => absurd heq hne)
set_option maxRecDepth 100000 in
set_option maxHeartbeats 4000000 in
theorem lawc_corner {p : Program} {l : Launch} {e : Env} {s : State} {m : MethodId} {below : List Frame} {meth : Method} {c : Code} {D : va_G} {b L cs sl : Nat} {xs : Nat → Int32} {d : Drawn} {q : Nat → Nat} {A I : Nat → Nat → Int32} {x : Int32} (K : LC p s m meth c D b L xs) (hcs : cs ≤ 600000) (hsl : sl ≤ 7302250) {N : Nat} (hN : 8000000 ≤ N) (hI : Inv A I) (hd : s.drawn.sameBut d lw_cs) (h1 : vp_in (x + 1) L) (h2 : vp_in (x + 2) L) (h3 : vp_in (x + 3) L) (h4 : vp_in (x + 4) L) (hnext : ∀ A' I', Inv A' I' → ∀ d', s.drawn.sameBut d' lw_cs → J (gw p l e s m below meth c D b cs sl d') (wALL D q A' I') [(0, .ref b), (1, .ref (q 0)), (2, .ref (q 65)), (3, .int x)] 1159 []) : J (gw p l e s m below meth c D b cs sl d) (wALL D q A I) [(0, .ref b), (1, .ref (q 0)), (2, .ref (q 65)), (3, .int x)] 430 [] := by
  have C := K.cx l e below cs sl hcs hsl d
  have X := K.lx l e below cs sl d
  obtain ⟨oc, hoc, om, hom, heq, hI2⟩ := pm_corner hI hN (xs (x + 1).toNatClampNeg) (xs (x + 2).toNatClampNeg)
  refine j_aload_n C dL_law_430 rfl ?_
  refine j_aload_n C dL_law_431 rfl ?_
  refine j_iload_n C dL_law_432 rfl ?_
  refine j_iconst C 1 dL_law_433 ki_1 ?_
  refine j_iadd C dL_law_434 ?_
  refine jl_sld C X h1 dL_law_435 ?_
  refine j_aload_n C dL_law_436 rfl ?_
  refine j_iload_n C dL_law_437 rfl ?_
  refine j_iconst C 2 dL_law_438 ki_2 ?_
  refine j_iadd C dL_law_439 ?_
  refine jl_sld C X h2 dL_law_440 ?_
  refine j_callV1 C mk_X9_corner ms_X9_corner kw_535 (t_X9_corner l D N hoc) (by decide) 0 wA_g0 rfl (List.range 84) (hC_all _ wA_l) rfl (wA_a.trans wA_a.symm) rfl rfl (Nat.le_of_ble_eq_true rfl) dL_law_441 (wput_all wA_l wA_l) ?_
  refine j_aload_n C dL_law_444 rfl ?_
  refine j_aload_n C dL_law_445 rfl ?_
  refine j_iload_n C dL_law_446 rfl ?_
  refine j_iconst C 1 dL_law_447 ki_1 ?_
  refine j_iadd C dL_law_448 ?_
  refine jl_sld C X h1 dL_law_449 ?_
  refine j_aload_n C dL_law_450 rfl ?_
  refine j_iload_n C dL_law_451 rfl ?_
  refine j_iconst C 2 dL_law_452 ki_2 ?_
  refine j_iadd C dL_law_453 ?_
  refine jl_sld C X h2 dL_law_454 ?_
  refine j_callV1 C mk_X10_corner ms_X10_corner kw_1145 (t_X10_corner l D N hom) (by decide) 65 wA_g65 rfl (List.range 84) (hC_all _ wA_l) rfl (wA_a.trans wA_a.symm) rfl rfl (Nat.le_of_ble_eq_true rfl) dL_law_455 (wput_all wA_l wA_l) ?_
  refine jv_icmp_eq C 1159 dL_law_458 (by decide) (fun _ => hnext _ _ hI2 _ hd) (fun hne => absurd heq hne)
set_option maxRecDepth 100000 in
set_option maxHeartbeats 4000000 in
theorem lawc_distance {p : Program} {l : Launch} {e : Env} {s : State} {m : MethodId} {below : List Frame} {meth : Method} {c : Code} {D : va_G} {b L cs sl : Nat} {xs : Nat → Int32} {d : Drawn} {q : Nat → Nat} {A I : Nat → Nat → Int32} {x : Int32} (K : LC p s m meth c D b L xs) (hcs : cs ≤ 600000) (hsl : sl ≤ 7302250) {N : Nat} (hN : 8000000 ≤ N) (hI : Inv A I) (hd : s.drawn.sameBut d lw_cs) (h1 : vp_in (x + 1) L) (h2 : vp_in (x + 2) L) (h3 : vp_in (x + 3) L) (h4 : vp_in (x + 4) L) (hnext : ∀ A' I', Inv A' I' → ∀ d', s.drawn.sameBut d' lw_cs → J (gw p l e s m below meth c D b cs sl d') (wALL D q A' I') [(0, .ref b), (1, .ref (q 0)), (2, .ref (q 65)), (3, .int x)] 1159 []) : J (gw p l e s m below meth c D b cs sl d) (wALL D q A I) [(0, .ref b), (1, .ref (q 0)), (2, .ref (q 65)), (3, .int x)] 463 [] := by
  have C := K.cx l e below cs sl hcs hsl d
  have X := K.lx l e below cs sl d
  obtain ⟨oc, hoc, om, hom, heq, hI2⟩ := pm_distance hI hN (xs (x + 1).toNatClampNeg) (xs (x + 2).toNatClampNeg)
  refine j_aload_n C dL_law_463 rfl ?_
  refine j_aload_n C dL_law_464 rfl ?_
  refine j_iload_n C dL_law_465 rfl ?_
  refine j_iconst C 1 dL_law_466 ki_1 ?_
  refine j_iadd C dL_law_467 ?_
  refine jl_sld C X h1 dL_law_468 ?_
  refine j_aload_n C dL_law_469 rfl ?_
  refine j_iload_n C dL_law_470 rfl ?_
  refine j_iconst C 2 dL_law_471 ki_2 ?_
  refine j_iadd C dL_law_472 ?_
  refine jl_sld C X h2 dL_law_473 ?_
  refine j_callV1 C mk_X9_distance ms_X9_distance kw_591 (t_X9_distance l D N hoc) (by decide) 0 wA_g0 rfl (List.range 84) (hC_all _ wA_l) rfl (wA_a.trans wA_a.symm) rfl rfl (Nat.le_of_ble_eq_true rfl) dL_law_474 (wput_all wA_l wA_l) ?_
  refine j_aload_n C dL_law_477 rfl ?_
  refine j_aload_n C dL_law_478 rfl ?_
  refine j_iload_n C dL_law_479 rfl ?_
  refine j_iconst C 1 dL_law_480 ki_1 ?_
  refine j_iadd C dL_law_481 ?_
  refine jl_sld C X h1 dL_law_482 ?_
  refine j_aload_n C dL_law_483 rfl ?_
  refine j_iload_n C dL_law_484 rfl ?_
  refine j_iconst C 2 dL_law_485 ki_2 ?_
  refine j_iadd C dL_law_486 ?_
  refine jl_sld C X h2 dL_law_487 ?_
  refine j_callV1 C mk_X10_distance ms_X10_distance kw_1172 (t_X10_distance l D N hom) (by decide) 65 wA_g65 rfl (List.range 84) (hC_all _ wA_l) rfl (wA_a.trans wA_a.symm) rfl rfl (Nat.le_of_ble_eq_true rfl) dL_law_488 (wput_all wA_l wA_l) ?_
  refine jv_icmp_eq C 1159 dL_law_491 (by decide) (fun _ => hnext _ _ hI2 _ hd) (fun hne => absurd heq hne)
set_option maxRecDepth 100000 in
set_option maxHeartbeats 4000000 in
theorem lawc_next {p : Program} {l : Launch} {e : Env} {s : State} {m : MethodId} {below : List Frame} {meth : Method} {c : Code} {D : va_G} {b L cs sl : Nat} {xs : Nat → Int32} {d : Drawn} {q : Nat → Nat} {A I : Nat → Nat → Int32} {x : Int32} (K : LC p s m meth c D b L xs) (hcs : cs ≤ 600000) (hsl : sl ≤ 7302250) {N : Nat} (hN : 8000000 ≤ N) (hI : Inv A I) (hd : s.drawn.sameBut d lw_cs) (h1 : vp_in (x + 1) L) (h2 : vp_in (x + 2) L) (h3 : vp_in (x + 3) L) (h4 : vp_in (x + 4) L) (hnext : ∀ A' I', Inv A' I' → ∀ d', s.drawn.sameBut d' lw_cs → J (gw p l e s m below meth c D b cs sl d') (wALL D q A' I') [(0, .ref b), (1, .ref (q 0)), (2, .ref (q 65)), (3, .int x)] 1159 []) : J (gw p l e s m below meth c D b cs sl d) (wALL D q A I) [(0, .ref b), (1, .ref (q 0)), (2, .ref (q 65)), (3, .int x)] 496 [] := by
  have C := K.cx l e below cs sl hcs hsl d
  have X := K.lx l e below cs sl d
  obtain ⟨oc, hoc, om, hom, heq, hI2⟩ := pm_next hI hN (xs (x + 1).toNatClampNeg) (xs (x + 2).toNatClampNeg)
  refine j_aload_n C dL_law_496 rfl ?_
  refine j_aload_n C dL_law_497 rfl ?_
  refine j_iload_n C dL_law_498 rfl ?_
  refine j_iconst C 1 dL_law_499 ki_1 ?_
  refine j_iadd C dL_law_500 ?_
  refine jl_sld C X h1 dL_law_501 ?_
  refine j_aload_n C dL_law_502 rfl ?_
  refine j_iload_n C dL_law_503 rfl ?_
  refine j_iconst C 2 dL_law_504 ki_2 ?_
  refine j_iadd C dL_law_505 ?_
  refine jl_sld C X h2 dL_law_506 ?_
  refine j_callV1 C mk_X9_next ms_X9_next kw_595 (t_X9_next l D N hoc) (by decide) 0 wA_g0 rfl (List.range 84) (hC_all _ wA_l) rfl (wA_a.trans wA_a.symm) rfl rfl (Nat.le_of_ble_eq_true rfl) dL_law_507 (wput_all wA_l wA_l) ?_
  refine j_aload_n C dL_law_510 rfl ?_
  refine j_aload_n C dL_law_511 rfl ?_
  refine j_iload_n C dL_law_512 rfl ?_
  refine j_iconst C 1 dL_law_513 ki_1 ?_
  refine j_iadd C dL_law_514 ?_
  refine jl_sld C X h1 dL_law_515 ?_
  refine j_aload_n C dL_law_516 rfl ?_
  refine j_iload_n C dL_law_517 rfl ?_
  refine j_iconst C 2 dL_law_518 ki_2 ?_
  refine j_iadd C dL_law_519 ?_
  refine jl_sld C X h2 dL_law_520 ?_
  refine j_callV1 C mk_X10_next ms_X10_next kw_1176 (t_X10_next l D N hom) (by decide) 65 wA_g65 rfl (List.range 84) (hC_all _ wA_l) rfl (wA_a.trans wA_a.symm) rfl rfl (Nat.le_of_ble_eq_true rfl) dL_law_521 (wput_all wA_l wA_l) ?_
  refine jv_icmp_eq C 1159 dL_law_524 (by decide) (fun _ => hnext _ _ hI2 _ hd) (fun hne => absurd heq hne)
set_option maxRecDepth 100000 in
set_option maxHeartbeats 4000000 in
theorem lawc_round {p : Program} {l : Launch} {e : Env} {s : State} {m : MethodId} {below : List Frame} {meth : Method} {c : Code} {D : va_G} {b L cs sl : Nat} {xs : Nat → Int32} {d : Drawn} {q : Nat → Nat} {A I : Nat → Nat → Int32} {x : Int32} (K : LC p s m meth c D b L xs) (hcs : cs ≤ 600000) (hsl : sl ≤ 7302250) {N : Nat} (hN : 8000000 ≤ N) (hI : Inv A I) (hd : s.drawn.sameBut d lw_cs) (h1 : vp_in (x + 1) L) (h2 : vp_in (x + 2) L) (h3 : vp_in (x + 3) L) (h4 : vp_in (x + 4) L) (hnext : ∀ A' I', Inv A' I' → ∀ d', s.drawn.sameBut d' lw_cs → J (gw p l e s m below meth c D b cs sl d') (wALL D q A' I') [(0, .ref b), (1, .ref (q 0)), (2, .ref (q 65)), (3, .int x)] 1159 []) : J (gw p l e s m below meth c D b cs sl d) (wALL D q A I) [(0, .ref b), (1, .ref (q 0)), (2, .ref (q 65)), (3, .int x)] 529 [] := by
  have C := K.cx l e below cs sl hcs hsl d
  have X := K.lx l e below cs sl d
  obtain ⟨oc, hoc, om, hom, heq, hI2⟩ := pm_round hI hN (xs (x + 1).toNatClampNeg)
  refine j_aload_n C dL_law_529 rfl ?_
  refine j_aload_n C dL_law_530 rfl ?_
  refine j_iload_n C dL_law_531 rfl ?_
  refine j_iconst C 1 dL_law_532 ki_1 ?_
  refine j_iadd C dL_law_533 ?_
  refine jl_sld C X h1 dL_law_534 ?_
  refine j_callV1 C mk_X9_round ms_X9_round kw_611 (t_X9_round l D N hoc) (by decide) 0 wA_g0 rfl (List.range 84) (hC_all _ wA_l) rfl (wA_a.trans wA_a.symm) rfl rfl (Nat.le_of_ble_eq_true rfl) dL_law_535 (wput_all wA_l wA_l) ?_
  refine j_aload_n C dL_law_538 rfl ?_
  refine j_aload_n C dL_law_539 rfl ?_
  refine j_iload_n C dL_law_540 rfl ?_
  refine j_iconst C 1 dL_law_541 ki_1 ?_
  refine j_iadd C dL_law_542 ?_
  refine jl_sld C X h1 dL_law_543 ?_
  refine j_callV1 C mk_X10_round ms_X10_round kw_1187 (t_X10_round l D N hom) (by decide) 65 wA_g65 rfl (List.range 84) (hC_all _ wA_l) rfl (wA_a.trans wA_a.symm) rfl rfl (Nat.le_of_ble_eq_true rfl) dL_law_544 (wput_all wA_l wA_l) ?_
  refine jv_icmp_eq C 1159 dL_law_547 (by decide) (fun _ => hnext _ _ hI2 _ hd) (fun hne => absurd heq hne)
set_option maxRecDepth 100000 in
set_option maxHeartbeats 4000000 in
theorem lawc_step {p : Program} {l : Launch} {e : Env} {s : State} {m : MethodId} {below : List Frame} {meth : Method} {c : Code} {D : va_G} {b L cs sl : Nat} {xs : Nat → Int32} {d : Drawn} {q : Nat → Nat} {A I : Nat → Nat → Int32} {x : Int32} (K : LC p s m meth c D b L xs) (hcs : cs ≤ 600000) (hsl : sl ≤ 7302250) {N : Nat} (hN : 8000000 ≤ N) (hI : Inv A I) (hd : s.drawn.sameBut d lw_cs) (h1 : vp_in (x + 1) L) (h2 : vp_in (x + 2) L) (h3 : vp_in (x + 3) L) (h4 : vp_in (x + 4) L) (hnext : ∀ A' I', Inv A' I' → ∀ d', s.drawn.sameBut d' lw_cs → J (gw p l e s m below meth c D b cs sl d') (wALL D q A' I') [(0, .ref b), (1, .ref (q 0)), (2, .ref (q 65)), (3, .int x)] 1159 []) : J (gw p l e s m below meth c D b cs sl d) (wALL D q A I) [(0, .ref b), (1, .ref (q 0)), (2, .ref (q 65)), (3, .int x)] 552 [] := by
  have C := K.cx l e below cs sl hcs hsl d
  have X := K.lx l e below cs sl d
  obtain ⟨oc, hoc, om, hom, heq, hI2⟩ := pm_step hI hN (xs (x + 1).toNatClampNeg) (xs (x + 2).toNatClampNeg)
  refine j_aload_n C dL_law_552 rfl ?_
  refine j_aload_n C dL_law_553 rfl ?_
  refine j_iload_n C dL_law_554 rfl ?_
  refine j_iconst C 1 dL_law_555 ki_1 ?_
  refine j_iadd C dL_law_556 ?_
  refine jl_sld C X h1 dL_law_557 ?_
  refine j_aload_n C dL_law_558 rfl ?_
  refine j_iload_n C dL_law_559 rfl ?_
  refine j_iconst C 2 dL_law_560 ki_2 ?_
  refine j_iadd C dL_law_561 ?_
  refine jl_sld C X h2 dL_law_562 ?_
  refine j_callV1 C mk_X9_step ms_X9_step kw_670 (t_X9_step l D N hoc) (by decide) 0 wA_g0 rfl (List.range 84) (hC_all _ wA_l) rfl (wA_a.trans wA_a.symm) rfl rfl (Nat.le_of_ble_eq_true rfl) dL_law_563 (wput_all wA_l wA_l) ?_
  refine j_aload_n C dL_law_566 rfl ?_
  refine j_aload_n C dL_law_567 rfl ?_
  refine j_iload_n C dL_law_568 rfl ?_
  refine j_iconst C 1 dL_law_569 ki_1 ?_
  refine j_iadd C dL_law_570 ?_
  refine jl_sld C X h1 dL_law_571 ?_
  refine j_aload_n C dL_law_572 rfl ?_
  refine j_iload_n C dL_law_573 rfl ?_
  refine j_iconst C 2 dL_law_574 ki_2 ?_
  refine j_iadd C dL_law_575 ?_
  refine jl_sld C X h2 dL_law_576 ?_
  refine j_callV1 C mk_X10_step ms_X10_step kw_1219 (t_X10_step l D N hom) (by decide) 65 wA_g65 rfl (List.range 84) (hC_all _ wA_l) rfl (wA_a.trans wA_a.symm) rfl rfl (Nat.le_of_ble_eq_true rfl) dL_law_577 (wput_all wA_l wA_l) ?_
  refine jv_icmp_eq C 1159 dL_law_580 (by decide) (fun _ => hnext _ _ hI2 _ hd) (fun hne => absurd heq hne)
set_option maxRecDepth 100000 in
set_option maxHeartbeats 4000000 in
theorem lawc_time {p : Program} {l : Launch} {e : Env} {s : State} {m : MethodId} {below : List Frame} {meth : Method} {c : Code} {D : va_G} {b L cs sl : Nat} {xs : Nat → Int32} {d : Drawn} {q : Nat → Nat} {A I : Nat → Nat → Int32} {x : Int32} (K : LC p s m meth c D b L xs) (hcs : cs ≤ 600000) (hsl : sl ≤ 7302250) {N : Nat} (hN : 8000000 ≤ N) (hI : Inv A I) (hd : s.drawn.sameBut d lw_cs) (h1 : vp_in (x + 1) L) (h2 : vp_in (x + 2) L) (h3 : vp_in (x + 3) L) (h4 : vp_in (x + 4) L) (hnext : ∀ A' I', Inv A' I' → ∀ d', s.drawn.sameBut d' lw_cs → J (gw p l e s m below meth c D b cs sl d') (wALL D q A' I') [(0, .ref b), (1, .ref (q 0)), (2, .ref (q 65)), (3, .int x)] 1159 []) : J (gw p l e s m below meth c D b cs sl d) (wALL D q A I) [(0, .ref b), (1, .ref (q 0)), (2, .ref (q 65)), (3, .int x)] 585 [] := by
  have C := K.cx l e below cs sl hcs hsl d
  have X := K.lx l e below cs sl d
  obtain ⟨oc, hoc, om, hom, heq, hI2⟩ := pm_time hI hN (xs (x + 1).toNatClampNeg) (xs (x + 2).toNatClampNeg)
  refine j_aload_n C dL_law_585 rfl ?_
  refine j_aload_n C dL_law_586 rfl ?_
  refine j_iload_n C dL_law_587 rfl ?_
  refine j_iconst C 1 dL_law_588 ki_1 ?_
  refine j_iadd C dL_law_589 ?_
  refine jl_sld C X h1 dL_law_590 ?_
  refine j_aload_n C dL_law_591 rfl ?_
  refine j_iload_n C dL_law_592 rfl ?_
  refine j_iconst C 2 dL_law_593 ki_2 ?_
  refine j_iadd C dL_law_594 ?_
  refine jl_sld C X h2 dL_law_595 ?_
  refine j_callV1 C mk_X9_time ms_X9_time kw_674 (t_X9_time l D N hoc) (by decide) 0 wA_g0 rfl (List.range 84) (hC_all _ wA_l) rfl (wA_a.trans wA_a.symm) rfl rfl (Nat.le_of_ble_eq_true rfl) dL_law_596 (wput_all wA_l wA_l) ?_
  refine j_aload_n C dL_law_599 rfl ?_
  refine j_aload_n C dL_law_600 rfl ?_
  refine j_iload_n C dL_law_601 rfl ?_
  refine j_iconst C 1 dL_law_602 ki_1 ?_
  refine j_iadd C dL_law_603 ?_
  refine jl_sld C X h1 dL_law_604 ?_
  refine j_aload_n C dL_law_605 rfl ?_
  refine j_iload_n C dL_law_606 rfl ?_
  refine j_iconst C 2 dL_law_607 ki_2 ?_
  refine j_iadd C dL_law_608 ?_
  refine jl_sld C X h2 dL_law_609 ?_
  refine j_callVD (g := gw p l e s m below meth c D b cs sl s.drawn) (d := d) (K.cx l e below cs sl hcs hsl s.drawn) hd mk_X10_time ms_X10_time kw_1223 (tD_X10_time l D N hom) (by decide) 65 wA_g65 rfl (List.range 84) (hC_all _ wA_l) rfl (wA_a.trans wA_a.symm) rfl rfl (Nat.le_of_ble_eq_true rfl) dL_law_610 (wput_all wA_l wA_l) (fun v d1 hv hd1 => ?_)
  subst hv
  have C := K.cx l e below cs sl hcs hsl d1
  exact jv_icmp_eq C 1159 dL_law_613 (by decide) (fun _ => hnext _ _ hI2 _ hd1) (fun hne => absurd heq hne)
set_option maxRecDepth 100000 in
set_option maxHeartbeats 4000000 in
theorem lawc_rank {p : Program} {l : Launch} {e : Env} {s : State} {m : MethodId} {below : List Frame} {meth : Method} {c : Code} {D : va_G} {b L cs sl : Nat} {xs : Nat → Int32} {d : Drawn} {q : Nat → Nat} {A I : Nat → Nat → Int32} {x : Int32} (K : LC p s m meth c D b L xs) (hcs : cs ≤ 600000) (hsl : sl ≤ 7302250) {N : Nat} (hN : 8000000 ≤ N) (hI : Inv A I) (hd : s.drawn.sameBut d lw_cs) (h1 : vp_in (x + 1) L) (h2 : vp_in (x + 2) L) (h3 : vp_in (x + 3) L) (h4 : vp_in (x + 4) L) (hnext : ∀ A' I', Inv A' I' → ∀ d', s.drawn.sameBut d' lw_cs → J (gw p l e s m below meth c D b cs sl d') (wALL D q A' I') [(0, .ref b), (1, .ref (q 0)), (2, .ref (q 65)), (3, .int x)] 1159 []) : J (gw p l e s m below meth c D b cs sl d) (wALL D q A I) [(0, .ref b), (1, .ref (q 0)), (2, .ref (q 65)), (3, .int x)] 618 [] := by
  have C := K.cx l e below cs sl hcs hsl d
  have X := K.lx l e below cs sl d
  obtain ⟨oc, hoc, om, hom, heq, hI2⟩ := pm_rank hI hN (xs (x + 1).toNatClampNeg) (xs (x + 2).toNatClampNeg) (xs (x + 3).toNatClampNeg) (xs (x + 4).toNatClampNeg)
  refine j_aload_n C dL_law_618 rfl ?_
  refine j_aload_n C dL_law_619 rfl ?_
  refine j_iload_n C dL_law_620 rfl ?_
  refine j_iconst C 1 dL_law_621 ki_1 ?_
  refine j_iadd C dL_law_622 ?_
  refine jl_sld C X h1 dL_law_623 ?_
  refine j_aload_n C dL_law_624 rfl ?_
  refine j_iload_n C dL_law_625 rfl ?_
  refine j_iconst C 2 dL_law_626 ki_2 ?_
  refine j_iadd C dL_law_627 ?_
  refine jl_sld C X h2 dL_law_628 ?_
  refine j_aload_n C dL_law_629 rfl ?_
  refine j_iload_n C dL_law_630 rfl ?_
  refine j_iconst C 3 dL_law_631 ki_3 ?_
  refine j_iadd C dL_law_632 ?_
  refine jl_sld C X h3 dL_law_633 ?_
  refine j_aload_n C dL_law_634 rfl ?_
  refine j_iload_n C dL_law_635 rfl ?_
  refine j_iconst C 4 dL_law_636 ki_4 ?_
  refine j_iadd C dL_law_637 ?_
  refine jl_sld C X h4 dL_law_638 ?_
  refine j_callV1 C mk_X9_rank ms_X9_rank kw_693 (t_X9_rank l D N hoc) (by decide) 0 wA_g0 rfl (List.range 84) (hC_all _ wA_l) rfl (wA_a.trans wA_a.symm) rfl rfl (Nat.le_of_ble_eq_true rfl) dL_law_639 (wput_all wA_l wA_l) ?_
  refine j_aload_n C dL_law_642 rfl ?_
  refine j_aload_n C dL_law_643 rfl ?_
  refine j_iload_n C dL_law_644 rfl ?_
  refine j_iconst C 1 dL_law_645 ki_1 ?_
  refine j_iadd C dL_law_646 ?_
  refine jl_sld C X h1 dL_law_647 ?_
  refine j_aload_n C dL_law_648 rfl ?_
  refine j_iload_n C dL_law_649 rfl ?_
  refine j_iconst C 2 dL_law_650 ki_2 ?_
  refine j_iadd C dL_law_651 ?_
  refine jl_sld C X h2 dL_law_652 ?_
  refine j_aload_n C dL_law_653 rfl ?_
  refine j_iload_n C dL_law_654 rfl ?_
  refine j_iconst C 3 dL_law_655 ki_3 ?_
  refine j_iadd C dL_law_656 ?_
  refine jl_sld C X h3 dL_law_657 ?_
  refine j_aload_n C dL_law_658 rfl ?_
  refine j_iload_n C dL_law_659 rfl ?_
  refine j_iconst C 4 dL_law_660 ki_4 ?_
  refine j_iadd C dL_law_661 ?_
  refine jl_sld C X h4 dL_law_662 ?_
  refine j_callVD (g := gw p l e s m below meth c D b cs sl s.drawn) (d := d) (K.cx l e below cs sl hcs hsl s.drawn) hd mk_X10_rank ms_X10_rank kw_1242 (tD_X10_rank l D N hom) (by decide) 65 wA_g65 rfl (List.range 84) (hC_all _ wA_l) rfl (wA_a.trans wA_a.symm) rfl rfl (Nat.le_of_ble_eq_true rfl) dL_law_663 (wput_all wA_l wA_l) (fun v d1 hv hd1 => ?_)
  subst hv
  have C := K.cx l e below cs sl hcs hsl d1
  exact jv_icmp_eq C 1159 dL_law_666 (by decide) (fun _ => hnext _ _ hI2 _ hd1) (fun hne => absurd heq hne)
set_option maxRecDepth 100000 in
set_option maxHeartbeats 4000000 in
theorem lawc_mean {p : Program} {l : Launch} {e : Env} {s : State} {m : MethodId} {below : List Frame} {meth : Method} {c : Code} {D : va_G} {b L cs sl : Nat} {xs : Nat → Int32} {d : Drawn} {q : Nat → Nat} {A I : Nat → Nat → Int32} {x : Int32} (K : LC p s m meth c D b L xs) (hcs : cs ≤ 600000) (hsl : sl ≤ 7302250) {N : Nat} (hN : 8000000 ≤ N) (hI : Inv A I) (hd : s.drawn.sameBut d lw_cs) (h1 : vp_in (x + 1) L) (h2 : vp_in (x + 2) L) (h3 : vp_in (x + 3) L) (h4 : vp_in (x + 4) L) (hnext : ∀ A' I', Inv A' I' → ∀ d', s.drawn.sameBut d' lw_cs → J (gw p l e s m below meth c D b cs sl d') (wALL D q A' I') [(0, .ref b), (1, .ref (q 0)), (2, .ref (q 65)), (3, .int x)] 1159 []) : J (gw p l e s m below meth c D b cs sl d) (wALL D q A I) [(0, .ref b), (1, .ref (q 0)), (2, .ref (q 65)), (3, .int x)] 671 [] := by
  have C := K.cx l e below cs sl hcs hsl d
  have X := K.lx l e below cs sl d
  obtain ⟨oc, hoc, om, hom, heq, hI2⟩ := pm_mean hI hN
  refine j_aload_n C dL_law_671 rfl ?_
  refine j_callV1 C mk_X9_mean ms_X9_mean kw_705 (t_X9_mean l D N hoc) (by decide) 0 wA_g0 rfl (List.range 84) (hC_all _ wA_l) rfl (wA_a.trans wA_a.symm) rfl rfl (Nat.le_of_ble_eq_true rfl) dL_law_672 (wput_all wA_l wA_l) ?_
  refine j_aload_n C dL_law_675 rfl ?_
  refine j_callV1 C mk_X10_mean ms_X10_mean kw_1255 (t_X10_mean l D N hom) (by decide) 65 wA_g65 rfl (List.range 84) (hC_all _ wA_l) rfl (wA_a.trans wA_a.symm) rfl rfl (Nat.le_of_ble_eq_true rfl) dL_law_676 (wput_all wA_l wA_l) ?_
  refine j_lcmp C dL_law_679 ?_
  refine jv_if_eq C 1159 dL_law_680 (by decide) (fun _ => hnext _ _ hI2 _ hd) (fun hne => absurd (by rw [heq]; exact lg_cmp_self _) hne)
set_option maxRecDepth 100000 in
set_option maxHeartbeats 4000000 in
theorem lawc_odd {p : Program} {l : Launch} {e : Env} {s : State} {m : MethodId} {below : List Frame} {meth : Method} {c : Code} {D : va_G} {b L cs sl : Nat} {xs : Nat → Int32} {d : Drawn} {q : Nat → Nat} {A I : Nat → Nat → Int32} {x : Int32} (K : LC p s m meth c D b L xs) (hcs : cs ≤ 600000) (hsl : sl ≤ 7302250) {N : Nat} (hN : 8000000 ≤ N) (hI : Inv A I) (hd : s.drawn.sameBut d lw_cs) (h1 : vp_in (x + 1) L) (h2 : vp_in (x + 2) L) (h3 : vp_in (x + 3) L) (h4 : vp_in (x + 4) L) (hnext : ∀ A' I', Inv A' I' → ∀ d', s.drawn.sameBut d' lw_cs → J (gw p l e s m below meth c D b cs sl d') (wALL D q A' I') [(0, .ref b), (1, .ref (q 0)), (2, .ref (q 65)), (3, .int x)] 1159 []) : J (gw p l e s m below meth c D b cs sl d) (wALL D q A I) [(0, .ref b), (1, .ref (q 0)), (2, .ref (q 65)), (3, .int x)] 685 [] := by
  have C := K.cx l e below cs sl hcs hsl d
  have X := K.lx l e below cs sl d
  obtain ⟨oc, hoc, om, hom, heq, hI2⟩ := pm_odd hI hN
  refine j_aload_n C dL_law_685 rfl ?_
  refine j_callV1 C mk_X9_odd ms_X9_odd kw_716 (t_X9_odd l D N hoc) (by decide) 0 wA_g0 rfl (List.range 84) (hC_all _ wA_l) rfl (wA_a.trans wA_a.symm) rfl rfl (Nat.le_of_ble_eq_true rfl) dL_law_686 (wput_all wA_l wA_l) ?_
  refine j_aload_n C dL_law_689 rfl ?_
  refine j_callV1 C mk_X10_odd ms_X10_odd kw_1269 (t_X10_odd l D N hom) (by decide) 65 wA_g65 rfl (List.range 84) (hC_all _ wA_l) rfl (wA_a.trans wA_a.symm) rfl rfl (Nat.le_of_ble_eq_true rfl) dL_law_690 (wput_all wA_l wA_l) ?_
  refine jv_icmp_eq C 1159 dL_law_693 (by decide) (fun _ => hnext _ _ hI2 _ hd) (fun hne => absurd heq hne)
set_option maxRecDepth 100000 in
set_option maxHeartbeats 4000000 in
theorem lawc_matched {p : Program} {l : Launch} {e : Env} {s : State} {m : MethodId} {below : List Frame} {meth : Method} {c : Code} {D : va_G} {b L cs sl : Nat} {xs : Nat → Int32} {d : Drawn} {q : Nat → Nat} {A I : Nat → Nat → Int32} {x : Int32} (K : LC p s m meth c D b L xs) (hcs : cs ≤ 600000) (hsl : sl ≤ 7302250) {N : Nat} (hN : 8000000 ≤ N) (hI : Inv A I) (hd : s.drawn.sameBut d lw_cs) (h1 : vp_in (x + 1) L) (h2 : vp_in (x + 2) L) (h3 : vp_in (x + 3) L) (h4 : vp_in (x + 4) L) (hnext : ∀ A' I', Inv A' I' → ∀ d', s.drawn.sameBut d' lw_cs → J (gw p l e s m below meth c D b cs sl d') (wALL D q A' I') [(0, .ref b), (1, .ref (q 0)), (2, .ref (q 65)), (3, .int x)] 1159 []) : J (gw p l e s m below meth c D b cs sl d) (wALL D q A I) [(0, .ref b), (1, .ref (q 0)), (2, .ref (q 65)), (3, .int x)] 698 [] := by
  have C := K.cx l e below cs sl hcs hsl d
  have X := K.lx l e below cs sl d
  obtain ⟨oc, hoc, om, hom, heq, hI2⟩ := pm_matched hI hN (xs (x + 1).toNatClampNeg)
  refine j_aload_n C dL_law_698 rfl ?_
  refine j_aload_n C dL_law_699 rfl ?_
  refine j_iload_n C dL_law_700 rfl ?_
  refine j_iconst C 1 dL_law_701 ki_1 ?_
  refine j_iadd C dL_law_702 ?_
  refine jl_sld C X h1 dL_law_703 ?_
  refine j_callV1 C mk_X9_matched ms_X9_matched kw_725 (t_X9_matched l D N hoc) (by decide) 0 wA_g0 rfl (List.range 84) (hC_all _ wA_l) rfl (wA_a.trans wA_a.symm) rfl rfl (Nat.le_of_ble_eq_true rfl) dL_law_704 (wput_all wA_l wA_l) ?_
  refine j_aload_n C dL_law_707 rfl ?_
  refine j_aload_n C dL_law_708 rfl ?_
  refine j_iload_n C dL_law_709 rfl ?_
  refine j_iconst C 1 dL_law_710 ki_1 ?_
  refine j_iadd C dL_law_711 ?_
  refine jl_sld C X h1 dL_law_712 ?_
  refine j_callV1 C mk_X10_matched ms_X10_matched kw_1276 (t_X10_matched l D N hom) (by decide) 65 wA_g65 rfl (List.range 84) (hC_all _ wA_l) rfl (wA_a.trans wA_a.symm) rfl rfl (Nat.le_of_ble_eq_true rfl) dL_law_713 (wput_all wA_l wA_l) ?_
  refine jv_icmp_eq C 1159 dL_law_716 (by decide) (fun _ => hnext _ _ hI2 _ hd) (fun hne => absurd heq hne)
set_option maxRecDepth 100000 in
set_option maxHeartbeats 4000000 in
theorem lawc_matching {p : Program} {l : Launch} {e : Env} {s : State} {m : MethodId} {below : List Frame} {meth : Method} {c : Code} {D : va_G} {b L cs sl : Nat} {xs : Nat → Int32} {d : Drawn} {q : Nat → Nat} {A I : Nat → Nat → Int32} {x : Int32} (K : LC p s m meth c D b L xs) (hcs : cs ≤ 600000) (hsl : sl ≤ 7302250) {N : Nat} (hN : 8000000 ≤ N) (hI : Inv A I) (hd : s.drawn.sameBut d lw_cs) (h1 : vp_in (x + 1) L) (h2 : vp_in (x + 2) L) (h3 : vp_in (x + 3) L) (h4 : vp_in (x + 4) L) (hnext : ∀ A' I', Inv A' I' → ∀ d', s.drawn.sameBut d' lw_cs → J (gw p l e s m below meth c D b cs sl d') (wALL D q A' I') [(0, .ref b), (1, .ref (q 0)), (2, .ref (q 65)), (3, .int x)] 1159 []) : J (gw p l e s m below meth c D b cs sl d) (wALL D q A I) [(0, .ref b), (1, .ref (q 0)), (2, .ref (q 65)), (3, .int x)] 721 [] := by
  have C := K.cx l e below cs sl hcs hsl d
  have X := K.lx l e below cs sl d
  obtain ⟨oc, hoc, om, hom, heq, hI2⟩ := pm_matching hI hN
  refine j_aload_n C dL_law_721 rfl ?_
  refine j_callV1 C mk_X9_matching ms_X9_matching kw_747 (t_X9_matching l D N hoc) (by decide) 0 wA_g0 rfl (List.range 84) (hC_all _ wA_l) rfl (wA_a.trans wA_a.symm) rfl rfl (Nat.le_of_ble_eq_true rfl) dL_law_722 (wput_all wA_l wA_l) ?_
  refine j_aload_n C dL_law_725 rfl ?_
  refine j_callV1 C mk_X10_matching ms_X10_matching kw_1292 (t_X10_matching l D N hom) (by decide) 65 wA_g65 rfl (List.range 84) (hC_all _ wA_l) rfl (wA_a.trans wA_a.symm) rfl rfl (Nat.le_of_ble_eq_true rfl) dL_law_726 (wput_all wA_l wA_l) ?_
  refine jv_icmp_eq C 1159 dL_law_729 (by decide) (fun _ => hnext _ _ hI2 _ hd) (fun hne => absurd heq hne)
set_option maxRecDepth 100000 in
set_option maxHeartbeats 4000000 in
theorem lawc_spliced {p : Program} {l : Launch} {e : Env} {s : State} {m : MethodId} {below : List Frame} {meth : Method} {c : Code} {D : va_G} {b L cs sl : Nat} {xs : Nat → Int32} {d : Drawn} {q : Nat → Nat} {A I : Nat → Nat → Int32} {x : Int32} (K : LC p s m meth c D b L xs) (hcs : cs ≤ 600000) (hsl : sl ≤ 7302250) {N : Nat} (hN : 8000000 ≤ N) (hI : Inv A I) (hd : s.drawn.sameBut d lw_cs) (h1 : vp_in (x + 1) L) (h2 : vp_in (x + 2) L) (h3 : vp_in (x + 3) L) (h4 : vp_in (x + 4) L) (hnext : ∀ A' I', Inv A' I' → ∀ d', s.drawn.sameBut d' lw_cs → J (gw p l e s m below meth c D b cs sl d') (wALL D q A' I') [(0, .ref b), (1, .ref (q 0)), (2, .ref (q 65)), (3, .int x)] 1159 []) : J (gw p l e s m below meth c D b cs sl d) (wALL D q A I) [(0, .ref b), (1, .ref (q 0)), (2, .ref (q 65)), (3, .int x)] 734 [] := by
  have C := K.cx l e below cs sl hcs hsl d
  have X := K.lx l e below cs sl d
  obtain ⟨oc, hoc, om, hom, heq, hI2⟩ := pm_spliced hI hN (xs (x + 1).toNatClampNeg)
  refine j_aload_n C dL_law_734 rfl ?_
  refine j_aload_n C dL_law_735 rfl ?_
  refine j_iload_n C dL_law_736 rfl ?_
  refine j_iconst C 1 dL_law_737 ki_1 ?_
  refine j_iadd C dL_law_738 ?_
  refine jl_sld C X h1 dL_law_739 ?_
  refine j_callV1 C mk_X9_spliced ms_X9_spliced kw_751 (t_X9_spliced l D N hoc) (by decide) 0 wA_g0 rfl (List.range 84) (hC_all _ wA_l) rfl (wA_a.trans wA_a.symm) rfl rfl (Nat.le_of_ble_eq_true rfl) dL_law_740 (wput_all wA_l wA_l) ?_
  refine j_aload_n C dL_law_743 rfl ?_
  refine j_aload_n C dL_law_744 rfl ?_
  refine j_iload_n C dL_law_745 rfl ?_
  refine j_iconst C 1 dL_law_746 ki_1 ?_
  refine j_iadd C dL_law_747 ?_
  refine jl_sld C X h1 dL_law_748 ?_
  refine j_callV1 C mk_X10_spliced ms_X10_spliced kw_1296 (t_X10_spliced l D N hom) (by decide) 65 wA_g65 rfl (List.range 84) (hC_all _ wA_l) rfl (wA_a.trans wA_a.symm) rfl rfl (Nat.le_of_ble_eq_true rfl) dL_law_749 (wput_all wA_l wA_l) ?_
  refine jv_icmp_eq C 1159 dL_law_752 (by decide) (fun _ => hnext _ _ hI2 _ hd) (fun hne => absurd heq hne)
set_option maxRecDepth 100000 in
set_option maxHeartbeats 4000000 in
theorem lawc_balance {p : Program} {l : Launch} {e : Env} {s : State} {m : MethodId} {below : List Frame} {meth : Method} {c : Code} {D : va_G} {b L cs sl : Nat} {xs : Nat → Int32} {d : Drawn} {q : Nat → Nat} {A I : Nat → Nat → Int32} {x : Int32} (K : LC p s m meth c D b L xs) (hcs : cs ≤ 600000) (hsl : sl ≤ 7302250) {N : Nat} (hN : 8000000 ≤ N) (hI : Inv A I) (hd : s.drawn.sameBut d lw_cs) (h1 : vp_in (x + 1) L) (h2 : vp_in (x + 2) L) (h3 : vp_in (x + 3) L) (h4 : vp_in (x + 4) L) (hnext : ∀ A' I', Inv A' I' → ∀ d', s.drawn.sameBut d' lw_cs → J (gw p l e s m below meth c D b cs sl d') (wALL D q A' I') [(0, .ref b), (1, .ref (q 0)), (2, .ref (q 65)), (3, .int x)] 1159 []) : J (gw p l e s m below meth c D b cs sl d) (wALL D q A I) [(0, .ref b), (1, .ref (q 0)), (2, .ref (q 65)), (3, .int x)] 757 [] := by
  have C := K.cx l e below cs sl hcs hsl d
  have X := K.lx l e below cs sl d
  obtain ⟨oc, hoc, om, hom, heq, hI2⟩ := pm_balance hI hN (xs (x + 1).toNatClampNeg)
  refine j_aload_n C dL_law_757 rfl ?_
  refine j_aload_n C dL_law_758 rfl ?_
  refine j_iload_n C dL_law_759 rfl ?_
  refine j_iconst C 1 dL_law_760 ki_1 ?_
  refine j_iadd C dL_law_761 ?_
  refine jl_sld C X h1 dL_law_762 ?_
  refine j_callV1 C mk_X9_balance ms_X9_balance kw_789 (t_X9_balance l D N hoc) (by decide) 0 wA_g0 rfl (List.range 84) (hC_all _ wA_l) rfl (wA_a.trans wA_a.symm) rfl rfl (Nat.le_of_ble_eq_true rfl) dL_law_763 (wput_all wA_l wA_l) ?_
  refine j_aload_n C dL_law_766 rfl ?_
  refine j_aload_n C dL_law_767 rfl ?_
  refine j_iload_n C dL_law_768 rfl ?_
  refine j_iconst C 1 dL_law_769 ki_1 ?_
  refine j_iadd C dL_law_770 ?_
  refine jl_sld C X h1 dL_law_771 ?_
  refine j_callV1 C mk_X10_balance ms_X10_balance kw_1312 (t_X10_balance l D N hom) (by decide) 65 wA_g65 rfl (List.range 84) (hC_all _ wA_l) rfl (wA_a.trans wA_a.symm) rfl rfl (Nat.le_of_ble_eq_true rfl) dL_law_772 (wput_all wA_l wA_l) ?_
  refine jv_icmp_eq C 1159 dL_law_775 (by decide) (fun _ => hnext _ _ hI2 _ hd) (fun hne => absurd heq hne)
set_option maxRecDepth 100000 in
set_option maxHeartbeats 4000000 in
theorem lawc_flow {p : Program} {l : Launch} {e : Env} {s : State} {m : MethodId} {below : List Frame} {meth : Method} {c : Code} {D : va_G} {b L cs sl : Nat} {xs : Nat → Int32} {d : Drawn} {q : Nat → Nat} {A I : Nat → Nat → Int32} {x : Int32} (K : LC p s m meth c D b L xs) (hcs : cs ≤ 600000) (hsl : sl ≤ 7302250) {N : Nat} (hN : 8000000 ≤ N) (hI : Inv A I) (hd : s.drawn.sameBut d lw_cs) (h1 : vp_in (x + 1) L) (h2 : vp_in (x + 2) L) (h3 : vp_in (x + 3) L) (h4 : vp_in (x + 4) L) (hnext : ∀ A' I', Inv A' I' → ∀ d', s.drawn.sameBut d' lw_cs → J (gw p l e s m below meth c D b cs sl d') (wALL D q A' I') [(0, .ref b), (1, .ref (q 0)), (2, .ref (q 65)), (3, .int x)] 1159 []) : J (gw p l e s m below meth c D b cs sl d) (wALL D q A I) [(0, .ref b), (1, .ref (q 0)), (2, .ref (q 65)), (3, .int x)] 780 [] := by
  have C := K.cx l e below cs sl hcs hsl d
  have X := K.lx l e below cs sl d
  obtain ⟨oc, hoc, om, hom, heq, hI2⟩ := pm_flow hI hN
  refine j_aload_n C dL_law_780 rfl ?_
  refine j_callV1 C mk_X9_flow ms_X9_flow kw_797 (t_X9_flow l D N hoc) (by decide) 0 wA_g0 rfl (List.range 84) (hC_all _ wA_l) rfl (wA_a.trans wA_a.symm) rfl rfl (Nat.le_of_ble_eq_true rfl) dL_law_781 (wput_all wA_l wA_l) ?_
  refine j_aload_n C dL_law_784 rfl ?_
  refine j_callV1 C mk_X10_flow ms_X10_flow kw_1319 (t_X10_flow l D N hom) (by decide) 65 wA_g65 rfl (List.range 84) (hC_all _ wA_l) rfl (wA_a.trans wA_a.symm) rfl rfl (Nat.le_of_ble_eq_true rfl) dL_law_785 (wput_all wA_l wA_l) ?_
  refine jv_icmp_eq C 1159 dL_law_788 (by decide) (fun _ => hnext _ _ hI2 _ hd) (fun hne => absurd heq hne)
set_option maxRecDepth 100000 in
set_option maxHeartbeats 4000000 in
theorem lawc_loose {p : Program} {l : Launch} {e : Env} {s : State} {m : MethodId} {below : List Frame} {meth : Method} {c : Code} {D : va_G} {b L cs sl : Nat} {xs : Nat → Int32} {d : Drawn} {q : Nat → Nat} {A I : Nat → Nat → Int32} {x : Int32} (K : LC p s m meth c D b L xs) (hcs : cs ≤ 600000) (hsl : sl ≤ 7302250) {N : Nat} (hN : 8000000 ≤ N) (hI : Inv A I) (hd : s.drawn.sameBut d lw_cs) (h1 : vp_in (x + 1) L) (h2 : vp_in (x + 2) L) (h3 : vp_in (x + 3) L) (h4 : vp_in (x + 4) L) (hnext : ∀ A' I', Inv A' I' → ∀ d', s.drawn.sameBut d' lw_cs → J (gw p l e s m below meth c D b cs sl d') (wALL D q A' I') [(0, .ref b), (1, .ref (q 0)), (2, .ref (q 65)), (3, .int x)] 1159 []) : J (gw p l e s m below meth c D b cs sl d) (wALL D q A I) [(0, .ref b), (1, .ref (q 0)), (2, .ref (q 65)), (3, .int x)] 793 [] := by
  have C := K.cx l e below cs sl hcs hsl d
  have X := K.lx l e below cs sl d
  obtain ⟨oc, hoc, om, hom, heq, hI2⟩ := pm_loose hI hN (xs (x + 1).toNatClampNeg)
  refine j_aload_n C dL_law_793 rfl ?_
  refine j_aload_n C dL_law_794 rfl ?_
  refine j_iload_n C dL_law_795 rfl ?_
  refine j_iconst C 1 dL_law_796 ki_1 ?_
  refine j_iadd C dL_law_797 ?_
  refine jl_sld C X h1 dL_law_798 ?_
  refine j_callV1 C mk_X9_loose ms_X9_loose kw_817 (t_X9_loose l D N hoc) (by decide) 0 wA_g0 rfl (List.range 84) (hC_all _ wA_l) rfl (wA_a.trans wA_a.symm) rfl rfl (Nat.le_of_ble_eq_true rfl) dL_law_799 (wput_all wA_l wA_l) ?_
  refine j_aload_n C dL_law_802 rfl ?_
  refine j_aload_n C dL_law_803 rfl ?_
  refine j_iload_n C dL_law_804 rfl ?_
  refine j_iconst C 1 dL_law_805 ki_1 ?_
  refine j_iadd C dL_law_806 ?_
  refine jl_sld C X h1 dL_law_807 ?_
  refine j_callV1 C mk_X10_loose ms_X10_loose kw_1327 (t_X10_loose l D N hom) (by decide) 65 wA_g65 rfl (List.range 84) (hC_all _ wA_l) rfl (wA_a.trans wA_a.symm) rfl rfl (Nat.le_of_ble_eq_true rfl) dL_law_808 (wput_all wA_l wA_l) ?_
  refine jv_icmp_eq C 1159 dL_law_811 (by decide) (fun _ => hnext _ _ hI2 _ hd) (fun hne => absurd heq hne)
set_option maxRecDepth 100000 in
set_option maxHeartbeats 4000000 in
theorem lawc_without {p : Program} {l : Launch} {e : Env} {s : State} {m : MethodId} {below : List Frame} {meth : Method} {c : Code} {D : va_G} {b L cs sl : Nat} {xs : Nat → Int32} {d : Drawn} {q : Nat → Nat} {A I : Nat → Nat → Int32} {x : Int32} (K : LC p s m meth c D b L xs) (hcs : cs ≤ 600000) (hsl : sl ≤ 7302250) {N : Nat} (hN : 8000000 ≤ N) (hI : Inv A I) (hd : s.drawn.sameBut d lw_cs) (h1 : vp_in (x + 1) L) (h2 : vp_in (x + 2) L) (h3 : vp_in (x + 3) L) (h4 : vp_in (x + 4) L) (hnext : ∀ A' I', Inv A' I' → ∀ d', s.drawn.sameBut d' lw_cs → J (gw p l e s m below meth c D b cs sl d') (wALL D q A' I') [(0, .ref b), (1, .ref (q 0)), (2, .ref (q 65)), (3, .int x)] 1159 []) : J (gw p l e s m below meth c D b cs sl d) (wALL D q A I) [(0, .ref b), (1, .ref (q 0)), (2, .ref (q 65)), (3, .int x)] 816 [] := by
  have C := K.cx l e below cs sl hcs hsl d
  have X := K.lx l e below cs sl d
  obtain ⟨oc, hoc, om, hom, heq, hI2⟩ := pm_without hI hN (xs (x + 1).toNatClampNeg)
  refine j_aload_n C dL_law_816 rfl ?_
  refine j_aload_n C dL_law_817 rfl ?_
  refine j_iload_n C dL_law_818 rfl ?_
  refine j_iconst C 1 dL_law_819 ki_1 ?_
  refine j_iadd C dL_law_820 ?_
  refine jl_sld C X h1 dL_law_821 ?_
  refine j_callV1 C mk_X9_without ms_X9_without kw_830 (t_X9_without l D N hoc) (by decide) 0 wA_g0 rfl (List.range 84) (hC_all _ wA_l) rfl (wA_a.trans wA_a.symm) rfl rfl (Nat.le_of_ble_eq_true rfl) dL_law_822 (wput_all wA_l wA_l) ?_
  refine j_aload_n C dL_law_825 rfl ?_
  refine j_aload_n C dL_law_826 rfl ?_
  refine j_iload_n C dL_law_827 rfl ?_
  refine j_iconst C 1 dL_law_828 ki_1 ?_
  refine j_iadd C dL_law_829 ?_
  refine jl_sld C X h1 dL_law_830 ?_
  refine j_callV1 C mk_X10_without ms_X10_without kw_1331 (t_X10_without l D N hom) (by decide) 65 wA_g65 rfl (List.range 84) (hC_all _ wA_l) rfl (wA_a.trans wA_a.symm) rfl rfl (Nat.le_of_ble_eq_true rfl) dL_law_831 (wput_all wA_l wA_l) ?_
  refine jv_icmp_eq C 1159 dL_law_834 (by decide) (fun _ => hnext _ _ hI2 _ hd) (fun hne => absurd heq hne)
set_option maxRecDepth 100000 in
set_option maxHeartbeats 4000000 in
theorem lawc_turned {p : Program} {l : Launch} {e : Env} {s : State} {m : MethodId} {below : List Frame} {meth : Method} {c : Code} {D : va_G} {b L cs sl : Nat} {xs : Nat → Int32} {d : Drawn} {q : Nat → Nat} {A I : Nat → Nat → Int32} {x : Int32} (K : LC p s m meth c D b L xs) (hcs : cs ≤ 600000) (hsl : sl ≤ 7302250) {N : Nat} (hN : 8000000 ≤ N) (hI : Inv A I) (hd : s.drawn.sameBut d lw_cs) (h1 : vp_in (x + 1) L) (h2 : vp_in (x + 2) L) (h3 : vp_in (x + 3) L) (h4 : vp_in (x + 4) L) (hnext : ∀ A' I', Inv A' I' → ∀ d', s.drawn.sameBut d' lw_cs → J (gw p l e s m below meth c D b cs sl d') (wALL D q A' I') [(0, .ref b), (1, .ref (q 0)), (2, .ref (q 65)), (3, .int x)] 1159 []) : J (gw p l e s m below meth c D b cs sl d) (wALL D q A I) [(0, .ref b), (1, .ref (q 0)), (2, .ref (q 65)), (3, .int x)] 839 [] := by
  have C := K.cx l e below cs sl hcs hsl d
  have X := K.lx l e below cs sl d
  obtain ⟨oc, hoc, om, hom, heq, hI2⟩ := pm_turned hI hN (xs (x + 1).toNatClampNeg)
  refine j_aload_n C dL_law_839 rfl ?_
  refine j_aload_n C dL_law_840 rfl ?_
  refine j_iload_n C dL_law_841 rfl ?_
  refine j_iconst C 1 dL_law_842 ki_1 ?_
  refine j_iadd C dL_law_843 ?_
  refine jl_sld C X h1 dL_law_844 ?_
  refine j_callV1 C mk_X9_turned ms_X9_turned kw_846 (t_X9_turned l D N hoc) (by decide) 0 wA_g0 rfl (List.range 84) (hC_all _ wA_l) rfl (wA_a.trans wA_a.symm) rfl rfl (Nat.le_of_ble_eq_true rfl) dL_law_845 (wput_all wA_l wA_l) ?_
  refine j_aload_n C dL_law_848 rfl ?_
  refine j_aload_n C dL_law_849 rfl ?_
  refine j_iload_n C dL_law_850 rfl ?_
  refine j_iconst C 1 dL_law_851 ki_1 ?_
  refine j_iadd C dL_law_852 ?_
  refine jl_sld C X h1 dL_law_853 ?_
  refine j_callV1 C mk_X10_turned ms_X10_turned kw_1339 (t_X10_turned l D N hom) (by decide) 65 wA_g65 rfl (List.range 84) (hC_all _ wA_l) rfl (wA_a.trans wA_a.symm) rfl rfl (Nat.le_of_ble_eq_true rfl) dL_law_854 (wput_all wA_l wA_l) ?_
  refine jv_icmp_eq C 1159 dL_law_857 (by decide) (fun _ => hnext _ _ hI2 _ hd) (fun hne => absurd heq hne)
set_option maxRecDepth 100000 in
set_option maxHeartbeats 4000000 in
theorem lawc_worst {p : Program} {l : Launch} {e : Env} {s : State} {m : MethodId} {below : List Frame} {meth : Method} {c : Code} {D : va_G} {b L cs sl : Nat} {xs : Nat → Int32} {d : Drawn} {q : Nat → Nat} {A I : Nat → Nat → Int32} {x : Int32} (K : LC p s m meth c D b L xs) (hcs : cs ≤ 600000) (hsl : sl ≤ 7302250) {N : Nat} (hN : 8000000 ≤ N) (hI : Inv A I) (hd : s.drawn.sameBut d lw_cs) (h1 : vp_in (x + 1) L) (h2 : vp_in (x + 2) L) (h3 : vp_in (x + 3) L) (h4 : vp_in (x + 4) L) (hnext : ∀ A' I', Inv A' I' → ∀ d', s.drawn.sameBut d' lw_cs → J (gw p l e s m below meth c D b cs sl d') (wALL D q A' I') [(0, .ref b), (1, .ref (q 0)), (2, .ref (q 65)), (3, .int x)] 1159 []) : J (gw p l e s m below meth c D b cs sl d) (wALL D q A I) [(0, .ref b), (1, .ref (q 0)), (2, .ref (q 65)), (3, .int x)] 862 [] := by
  have C := K.cx l e below cs sl hcs hsl d
  have X := K.lx l e below cs sl d
  obtain ⟨oc, hoc, om, hom, heq, hI2⟩ := pm_worst hI hN
  refine j_aload_n C dL_law_862 rfl ?_
  refine j_callV1 C mk_X9_worst ms_X9_worst kw_854 (t_X9_worst l D N hoc) (by decide) 0 wA_g0 rfl (List.range 84) (hC_all _ wA_l) rfl (wA_a.trans wA_a.symm) rfl rfl (Nat.le_of_ble_eq_true rfl) dL_law_863 (wput_all wA_l wA_l) ?_
  refine j_aload_n C dL_law_866 rfl ?_
  refine j_callV1 C mk_X10_worst ms_X10_worst kw_1343 (t_X10_worst l D N hom) (by decide) 65 wA_g65 rfl (List.range 84) (hC_all _ wA_l) rfl (wA_a.trans wA_a.symm) rfl rfl (Nat.le_of_ble_eq_true rfl) dL_law_867 (wput_all wA_l wA_l) ?_
  refine jv_icmp_eq C 1159 dL_law_870 (by decide) (fun _ => hnext _ _ hI2 _ hd) (fun hne => absurd heq hne)
set_option maxRecDepth 100000 in
set_option maxHeartbeats 4000000 in
theorem lawc_shared {p : Program} {l : Launch} {e : Env} {s : State} {m : MethodId} {below : List Frame} {meth : Method} {c : Code} {D : va_G} {b L cs sl : Nat} {xs : Nat → Int32} {d : Drawn} {q : Nat → Nat} {A I : Nat → Nat → Int32} {x : Int32} (K : LC p s m meth c D b L xs) (hcs : cs ≤ 600000) (hsl : sl ≤ 7302250) {N : Nat} (hN : 8000000 ≤ N) (hI : Inv A I) (hd : s.drawn.sameBut d lw_cs) (h1 : vp_in (x + 1) L) (h2 : vp_in (x + 2) L) (h3 : vp_in (x + 3) L) (h4 : vp_in (x + 4) L) (hnext : ∀ A' I', Inv A' I' → ∀ d', s.drawn.sameBut d' lw_cs → J (gw p l e s m below meth c D b cs sl d') (wALL D q A' I') [(0, .ref b), (1, .ref (q 0)), (2, .ref (q 65)), (3, .int x)] 1159 []) : J (gw p l e s m below meth c D b cs sl d) (wALL D q A I) [(0, .ref b), (1, .ref (q 0)), (2, .ref (q 65)), (3, .int x)] 875 [] := by
  have C := K.cx l e below cs sl hcs hsl d
  have X := K.lx l e below cs sl d
  obtain ⟨oc, hoc, om, hom, heq, hI2⟩ := pm_shared hI hN (xs (x + 1).toNatClampNeg) (xs (x + 2).toNatClampNeg)
  refine j_aload_n C dL_law_875 rfl ?_
  refine j_aload_n C dL_law_876 rfl ?_
  refine j_iload_n C dL_law_877 rfl ?_
  refine j_iconst C 1 dL_law_878 ki_1 ?_
  refine j_iadd C dL_law_879 ?_
  refine jl_sld C X h1 dL_law_880 ?_
  refine j_aload_n C dL_law_881 rfl ?_
  refine j_iload_n C dL_law_882 rfl ?_
  refine j_iconst C 2 dL_law_883 ki_2 ?_
  refine j_iadd C dL_law_884 ?_
  refine jl_sld C X h2 dL_law_885 ?_
  refine j_callV1 C mk_X9_shared ms_X9_shared kw_859 (t_X9_shared l D N hoc) (by decide) 0 wA_g0 rfl (List.range 84) (hC_all _ wA_l) rfl (wA_a.trans wA_a.symm) rfl rfl (Nat.le_of_ble_eq_true rfl) dL_law_886 (wput_all wA_l wA_l) ?_
  refine j_aload_n C dL_law_889 rfl ?_
  refine j_aload_n C dL_law_890 rfl ?_
  refine j_iload_n C dL_law_891 rfl ?_
  refine j_iconst C 1 dL_law_892 ki_1 ?_
  refine j_iadd C dL_law_893 ?_
  refine jl_sld C X h1 dL_law_894 ?_
  refine j_aload_n C dL_law_895 rfl ?_
  refine j_iload_n C dL_law_896 rfl ?_
  refine j_iconst C 2 dL_law_897 ki_2 ?_
  refine j_iadd C dL_law_898 ?_
  refine jl_sld C X h2 dL_law_899 ?_
  refine j_callV1 C mk_X10_shared ms_X10_shared kw_1348 (t_X10_shared l D N hom) (by decide) 65 wA_g65 rfl (List.range 84) (hC_all _ wA_l) rfl (wA_a.trans wA_a.symm) rfl rfl (Nat.le_of_ble_eq_true rfl) dL_law_900 (wput_all wA_l wA_l) ?_
  refine jv_icmp_eq C 1159 dL_law_903 (by decide) (fun _ => hnext _ _ hI2 _ hd) (fun hne => absurd heq hne)
set_option maxRecDepth 100000 in
set_option maxHeartbeats 4000000 in
theorem lawc_dealt {p : Program} {l : Launch} {e : Env} {s : State} {m : MethodId} {below : List Frame} {meth : Method} {c : Code} {D : va_G} {b L cs sl : Nat} {xs : Nat → Int32} {d : Drawn} {q : Nat → Nat} {A I : Nat → Nat → Int32} {x : Int32} (K : LC p s m meth c D b L xs) (hcs : cs ≤ 600000) (hsl : sl ≤ 7302250) {N : Nat} (hN : 8000000 ≤ N) (hI : Inv A I) (hd : s.drawn.sameBut d lw_cs) (h1 : vp_in (x + 1) L) (h2 : vp_in (x + 2) L) (h3 : vp_in (x + 3) L) (h4 : vp_in (x + 4) L) (hnext : ∀ A' I', Inv A' I' → ∀ d', s.drawn.sameBut d' lw_cs → J (gw p l e s m below meth c D b cs sl d') (wALL D q A' I') [(0, .ref b), (1, .ref (q 0)), (2, .ref (q 65)), (3, .int x)] 1159 []) : J (gw p l e s m below meth c D b cs sl d) (wALL D q A I) [(0, .ref b), (1, .ref (q 0)), (2, .ref (q 65)), (3, .int x)] 908 [] := by
  have C := K.cx l e below cs sl hcs hsl d
  have X := K.lx l e below cs sl d
  obtain ⟨oc, hoc, om, hom, heq, hI2⟩ := pm_dealt hI hN (xs (x + 1).toNatClampNeg) (xs (x + 2).toNatClampNeg)
  refine j_aload_n C dL_law_908 rfl ?_
  refine j_aload_n C dL_law_909 rfl ?_
  refine j_iload_n C dL_law_910 rfl ?_
  refine j_iconst C 1 dL_law_911 ki_1 ?_
  refine j_iadd C dL_law_912 ?_
  refine jl_sld C X h1 dL_law_913 ?_
  refine j_aload_n C dL_law_914 rfl ?_
  refine j_iload_n C dL_law_915 rfl ?_
  refine j_iconst C 2 dL_law_916 ki_2 ?_
  refine j_iadd C dL_law_917 ?_
  refine jl_sld C X h2 dL_law_918 ?_
  refine j_callV1 C mk_X9_dealt ms_X9_dealt kw_896 (t_X9_dealt l D N hoc) (by decide) 0 wA_g0 rfl (List.range 84) (hC_all _ wA_l) rfl (wA_a.trans wA_a.symm) rfl rfl (Nat.le_of_ble_eq_true rfl) dL_law_919 (wput_all wA_l wA_l) ?_
  refine j_aload_n C dL_law_922 rfl ?_
  refine j_aload_n C dL_law_923 rfl ?_
  refine j_iload_n C dL_law_924 rfl ?_
  refine j_iconst C 1 dL_law_925 ki_1 ?_
  refine j_iadd C dL_law_926 ?_
  refine jl_sld C X h1 dL_law_927 ?_
  refine j_aload_n C dL_law_928 rfl ?_
  refine j_iload_n C dL_law_929 rfl ?_
  refine j_iconst C 2 dL_law_930 ki_2 ?_
  refine j_iadd C dL_law_931 ?_
  refine jl_sld C X h2 dL_law_932 ?_
  refine j_callV1 C mk_X10_dealt ms_X10_dealt kw_1361 (t_X10_dealt l D N hom) (by decide) 65 wA_g65 rfl (List.range 84) (hC_all _ wA_l) rfl (wA_a.trans wA_a.symm) rfl rfl (Nat.le_of_ble_eq_true rfl) dL_law_933 (wput_all wA_l wA_l) ?_
  refine jv_icmp_eq C 1159 dL_law_936 (by decide) (fun _ => hnext _ _ hI2 _ hd) (fun hne => absurd heq hne)
set_option maxRecDepth 100000 in
set_option maxHeartbeats 4000000 in
theorem lawc_lost {p : Program} {l : Launch} {e : Env} {s : State} {m : MethodId} {below : List Frame} {meth : Method} {c : Code} {D : va_G} {b L cs sl : Nat} {xs : Nat → Int32} {d : Drawn} {q : Nat → Nat} {A I : Nat → Nat → Int32} {x : Int32} (K : LC p s m meth c D b L xs) (hcs : cs ≤ 600000) (hsl : sl ≤ 7302250) {N : Nat} (hN : 8000000 ≤ N) (hI : Inv A I) (hd : s.drawn.sameBut d lw_cs) (h1 : vp_in (x + 1) L) (h2 : vp_in (x + 2) L) (h3 : vp_in (x + 3) L) (h4 : vp_in (x + 4) L) (hnext : ∀ A' I', Inv A' I' → ∀ d', s.drawn.sameBut d' lw_cs → J (gw p l e s m below meth c D b cs sl d') (wALL D q A' I') [(0, .ref b), (1, .ref (q 0)), (2, .ref (q 65)), (3, .int x)] 1159 []) : J (gw p l e s m below meth c D b cs sl d) (wALL D q A I) [(0, .ref b), (1, .ref (q 0)), (2, .ref (q 65)), (3, .int x)] 941 [] := by
  have C := K.cx l e below cs sl hcs hsl d
  have X := K.lx l e below cs sl d
  obtain ⟨oc, hoc, om, hom, heq, hI2⟩ := pm_lost hI hN (xs (x + 1).toNatClampNeg) (xs (x + 2).toNatClampNeg) (xs (x + 3).toNatClampNeg)
  refine j_aload_n C dL_law_941 rfl ?_
  refine j_aload_n C dL_law_942 rfl ?_
  refine j_iload_n C dL_law_943 rfl ?_
  refine j_iconst C 1 dL_law_944 ki_1 ?_
  refine j_iadd C dL_law_945 ?_
  refine jl_sld C X h1 dL_law_946 ?_
  refine j_aload_n C dL_law_947 rfl ?_
  refine j_iload_n C dL_law_948 rfl ?_
  refine j_iconst C 2 dL_law_949 ki_2 ?_
  refine j_iadd C dL_law_950 ?_
  refine jl_sld C X h2 dL_law_951 ?_
  refine j_aload_n C dL_law_952 rfl ?_
  refine j_iload_n C dL_law_953 rfl ?_
  refine j_iconst C 3 dL_law_954 ki_3 ?_
  refine j_iadd C dL_law_955 ?_
  refine jl_sld C X h3 dL_law_956 ?_
  refine j_callV1 C mk_X9_lost ms_X9_lost kw_900 (t_X9_lost l D N hoc) (by decide) 0 wA_g0 rfl (List.range 84) (hC_all _ wA_l) rfl (wA_a.trans wA_a.symm) rfl rfl (Nat.le_of_ble_eq_true rfl) dL_law_957 (wput_all wA_l wA_l) ?_
  refine j_aload_n C dL_law_960 rfl ?_
  refine j_aload_n C dL_law_961 rfl ?_
  refine j_iload_n C dL_law_962 rfl ?_
  refine j_iconst C 1 dL_law_963 ki_1 ?_
  refine j_iadd C dL_law_964 ?_
  refine jl_sld C X h1 dL_law_965 ?_
  refine j_aload_n C dL_law_966 rfl ?_
  refine j_iload_n C dL_law_967 rfl ?_
  refine j_iconst C 2 dL_law_968 ki_2 ?_
  refine j_iadd C dL_law_969 ?_
  refine jl_sld C X h2 dL_law_970 ?_
  refine j_aload_n C dL_law_971 rfl ?_
  refine j_iload_n C dL_law_972 rfl ?_
  refine j_iconst C 3 dL_law_973 ki_3 ?_
  refine j_iadd C dL_law_974 ?_
  refine jl_sld C X h3 dL_law_975 ?_
  refine j_callV1 C mk_X10_lost ms_X10_lost kw_1365 (t_X10_lost l D N hom) (by decide) 65 wA_g65 rfl (List.range 84) (hC_all _ wA_l) rfl (wA_a.trans wA_a.symm) rfl rfl (Nat.le_of_ble_eq_true rfl) dL_law_976 (wput_all wA_l wA_l) ?_
  refine j_lcmp C dL_law_979 ?_
  refine jv_if_eq C 1159 dL_law_980 (by decide) (fun _ => hnext _ _ hI2 _ hd) (fun hne => absurd (by rw [heq]; exact lg_cmp_self _) hne)
set_option maxRecDepth 100000 in
set_option maxHeartbeats 4000000 in
theorem lawc_whatIs {p : Program} {l : Launch} {e : Env} {s : State} {m : MethodId} {below : List Frame} {meth : Method} {c : Code} {D : va_G} {b L cs sl : Nat} {xs : Nat → Int32} {d : Drawn} {q : Nat → Nat} {A I : Nat → Nat → Int32} {x : Int32} (K : LC p s m meth c D b L xs) (hcs : cs ≤ 600000) (hsl : sl ≤ 7302250) {N : Nat} (hN : 8000000 ≤ N) (hI : Inv A I) (hd : s.drawn.sameBut d lw_cs) (h1 : vp_in (x + 1) L) (h2 : vp_in (x + 2) L) (h3 : vp_in (x + 3) L) (h4 : vp_in (x + 4) L) (hnext : ∀ A' I', Inv A' I' → ∀ d', s.drawn.sameBut d' lw_cs → J (gw p l e s m below meth c D b cs sl d') (wALL D q A' I') [(0, .ref b), (1, .ref (q 0)), (2, .ref (q 65)), (3, .int x)] 1159 []) : J (gw p l e s m below meth c D b cs sl d) (wALL D q A I) [(0, .ref b), (1, .ref (q 0)), (2, .ref (q 65)), (3, .int x)] 985 [] := by
  have C := K.cx l e below cs sl hcs hsl d
  have X := K.lx l e below cs sl d
  obtain ⟨oc, hoc, om, hom, heq, hI2⟩ := pm_whatIs hI hN (xs (x + 1).toNatClampNeg) (xs (x + 2).toNatClampNeg)
  refine j_aload_n C dL_law_985 rfl ?_
  refine j_aload_n C dL_law_986 rfl ?_
  refine j_iload_n C dL_law_987 rfl ?_
  refine j_iconst C 1 dL_law_988 ki_1 ?_
  refine j_iadd C dL_law_989 ?_
  refine jl_sld C X h1 dL_law_990 ?_
  refine j_aload_n C dL_law_991 rfl ?_
  refine j_iload_n C dL_law_992 rfl ?_
  refine j_iconst C 2 dL_law_993 ki_2 ?_
  refine j_iadd C dL_law_994 ?_
  refine jl_sld C X h2 dL_law_995 ?_
  refine j_callV1 C mk_X9_whatIs ms_X9_whatIs kw_920 (t_X9_whatIs l D N hoc) (by decide) 0 wA_g0 rfl (List.range 84) (hC_all _ wA_l) rfl (wA_a.trans wA_a.symm) rfl rfl (Nat.le_of_ble_eq_true rfl) dL_law_996 (wput_all wA_l wA_l) ?_
  refine j_aload_n C dL_law_999 rfl ?_
  refine j_aload_n C dL_law_1000 rfl ?_
  refine j_iload_n C dL_law_1001 rfl ?_
  refine j_iconst C 1 dL_law_1002 ki_1 ?_
  refine j_iadd C dL_law_1003 ?_
  refine jl_sld C X h1 dL_law_1004 ?_
  refine j_aload_n C dL_law_1005 rfl ?_
  refine j_iload_n C dL_law_1006 rfl ?_
  refine j_iconst C 2 dL_law_1007 ki_2 ?_
  refine j_iadd C dL_law_1008 ?_
  refine jl_sld C X h2 dL_law_1009 ?_
  refine j_callV1 C mk_X10_whatIs ms_X10_whatIs kw_1377 (t_X10_whatIs l D N hom) (by decide) 65 wA_g65 rfl (List.range 84) (hC_all _ wA_l) rfl (wA_a.trans wA_a.symm) rfl rfl (Nat.le_of_ble_eq_true rfl) dL_law_1010 (wput_all wA_l wA_l) ?_
  refine jv_icmp_eq C 1159 dL_law_1013 (by decide) (fun _ => hnext _ _ hI2 _ hd) (fun hne => absurd heq hne)
set_option maxRecDepth 100000 in
set_option maxHeartbeats 4000000 in
theorem lawc_row {p : Program} {l : Launch} {e : Env} {s : State} {m : MethodId} {below : List Frame} {meth : Method} {c : Code} {D : va_G} {b L cs sl : Nat} {xs : Nat → Int32} {d : Drawn} {q : Nat → Nat} {A I : Nat → Nat → Int32} {x : Int32} (K : LC p s m meth c D b L xs) (hcs : cs ≤ 600000) (hsl : sl ≤ 7302250) {N : Nat} (hN : 8000000 ≤ N) (hI : Inv A I) (hd : s.drawn.sameBut d lw_cs) (h1 : vp_in (x + 1) L) (h2 : vp_in (x + 2) L) (h3 : vp_in (x + 3) L) (h4 : vp_in (x + 4) L) (hnext : ∀ A' I', Inv A' I' → ∀ d', s.drawn.sameBut d' lw_cs → J (gw p l e s m below meth c D b cs sl d') (wALL D q A' I') [(0, .ref b), (1, .ref (q 0)), (2, .ref (q 65)), (3, .int x)] 1159 []) : J (gw p l e s m below meth c D b cs sl d) (wALL D q A I) [(0, .ref b), (1, .ref (q 0)), (2, .ref (q 65)), (3, .int x)] 1018 [] := by
  have C := K.cx l e below cs sl hcs hsl d
  have X := K.lx l e below cs sl d
  obtain ⟨oc, hoc, om, hom, heq, hI2⟩ := pm_row hI hN (xs (x + 1).toNatClampNeg)
  refine j_aload_n C dL_law_1018 rfl ?_
  refine j_aload_n C dL_law_1019 rfl ?_
  refine j_iload_n C dL_law_1020 rfl ?_
  refine j_iconst C 1 dL_law_1021 ki_1 ?_
  refine j_iadd C dL_law_1022 ?_
  refine jl_sld C X h1 dL_law_1023 ?_
  refine j_callV1 C mk_X9_row ms_X9_row kw_936 (t_X9_row l D hoc) (by decide) 0 wA_g0 rfl (List.range 84) (hC_all _ wA_l) rfl (wA_a.trans wA_a.symm) rfl rfl (Nat.le_of_ble_eq_true rfl) dL_law_1024 (wput_all wA_l wA_l) ?_
  refine j_aload_n C dL_law_1027 rfl ?_
  refine j_aload_n C dL_law_1028 rfl ?_
  refine j_iload_n C dL_law_1029 rfl ?_
  refine j_iconst C 1 dL_law_1030 ki_1 ?_
  refine j_iadd C dL_law_1031 ?_
  refine jl_sld C X h1 dL_law_1032 ?_
  refine j_callV1 C mk_X10_row ms_X10_row kw_1389 (t_X10_row l D hom) (by decide) 65 wA_g65 rfl (List.range 84) (hC_all _ wA_l) rfl (wA_a.trans wA_a.symm) rfl rfl (Nat.le_of_ble_eq_true rfl) dL_law_1033 (wput_all wA_l wA_l) ?_
  refine jv_icmp_eq C 1159 dL_law_1036 (by decide) (fun _ => hnext _ _ hI2 _ hd) (fun hne => absurd heq hne)
set_option maxRecDepth 100000 in
set_option maxHeartbeats 4000000 in
theorem lawc_judge {p : Program} {l : Launch} {e : Env} {s : State} {m : MethodId} {below : List Frame} {meth : Method} {c : Code} {D : va_G} {b L cs sl : Nat} {xs : Nat → Int32} {d : Drawn} {q : Nat → Nat} {A I : Nat → Nat → Int32} {x : Int32} (K : LC p s m meth c D b L xs) (hcs : cs ≤ 600000) (hsl : sl ≤ 7302250) {N : Nat} (hN : 8000000 ≤ N) (hI : Inv A I) (hd : s.drawn.sameBut d lw_cs) (h1 : vp_in (x + 1) L) (h2 : vp_in (x + 2) L) (h3 : vp_in (x + 3) L) (h4 : vp_in (x + 4) L) (hnext : ∀ A' I', Inv A' I' → ∀ d', s.drawn.sameBut d' lw_cs → J (gw p l e s m below meth c D b cs sl d') (wALL D q A' I') [(0, .ref b), (1, .ref (q 0)), (2, .ref (q 65)), (3, .int x)] 1159 []) : J (gw p l e s m below meth c D b cs sl d) (wALL D q A I) [(0, .ref b), (1, .ref (q 0)), (2, .ref (q 65)), (3, .int x)] 1041 [] := by
  have C := K.cx l e below cs sl hcs hsl d
  have X := K.lx l e below cs sl d
  obtain ⟨oc, hoc, om, hom, heq, hI2⟩ := pm_judge hI hN
  refine j_aload_n C dL_law_1041 rfl ?_
  refine j_callV1 C mk_X9_judge ms_X9_judge kw_940 (t_X9_judge l D N hoc) (by decide) 0 wA_g0 rfl (List.range 84) (hC_all _ wA_l) rfl (wA_a.trans wA_a.symm) rfl rfl (Nat.le_of_ble_eq_true rfl) dL_law_1042 (wput_all wA_l wA_l) ?_
  refine j_aload_n C dL_law_1045 rfl ?_
  refine j_callV1 C mk_X10_judge ms_X10_judge kw_1393 (t_X10_judge l D N hom) (by decide) 65 wA_g65 rfl (List.range 84) (hC_all _ wA_l) rfl (wA_a.trans wA_a.symm) rfl rfl (Nat.le_of_ble_eq_true rfl) dL_law_1046 (wput_all wA_l wA_l) ?_
  refine jv_icmp_eq C 1159 dL_law_1049 (by decide) (fun _ => hnext _ _ hI2 _ hd) (fun hne => absurd heq hne)
set_option maxRecDepth 100000 in
set_option maxHeartbeats 4000000 in
theorem lawc_clear {p : Program} {l : Launch} {e : Env} {s : State} {m : MethodId} {below : List Frame} {meth : Method} {c : Code} {D : va_G} {b L cs sl : Nat} {xs : Nat → Int32} {d : Drawn} {q : Nat → Nat} {A I : Nat → Nat → Int32} {x : Int32} (K : LC p s m meth c D b L xs) (hcs : cs ≤ 600000) (hsl : sl ≤ 7302250) {N : Nat} (hN : 8000000 ≤ N) (hI : Inv A I) (hd : s.drawn.sameBut d lw_cs) (h1 : vp_in (x + 1) L) (h2 : vp_in (x + 2) L) (h3 : vp_in (x + 3) L) (h4 : vp_in (x + 4) L) (hnext : ∀ A' I', Inv A' I' → ∀ d', s.drawn.sameBut d' lw_cs → J (gw p l e s m below meth c D b cs sl d') (wALL D q A' I') [(0, .ref b), (1, .ref (q 0)), (2, .ref (q 65)), (3, .int x)] 1159 []) : J (gw p l e s m below meth c D b cs sl d) (wALL D q A I) [(0, .ref b), (1, .ref (q 0)), (2, .ref (q 65)), (3, .int x)] 1054 [] := by
  have C := K.cx l e below cs sl hcs hsl d
  have X := K.lx l e below cs sl d
  obtain ⟨oc, hoc, om, hom, heq, hI2⟩ := pm_clear hI hN
  refine j_aload_n C dL_law_1054 rfl ?_
  refine j_callV1 C mk_X9_clear ms_X9_clear kw_944 (t_X9_clear l D hoc) (by decide) 0 wA_g0 rfl (List.range 84) (hC_all _ wA_l) rfl (wA_a.trans wA_a.symm) rfl rfl (Nat.le_of_ble_eq_true rfl) dL_law_1055 (wput_all wA_l wA_l) ?_
  refine j_aload_n C dL_law_1058 rfl ?_
  refine j_callV1 C mk_X10_clear ms_X10_clear kw_1397 (t_X10_clear l D hom) (by decide) 65 wA_g65 rfl (List.range 84) (hC_all _ wA_l) rfl (wA_a.trans wA_a.symm) rfl rfl (Nat.le_of_ble_eq_true rfl) dL_law_1059 (wput_all wA_l wA_l) ?_
  refine jv_icmp_eq C 1159 dL_law_1062 (by decide) (fun _ => hnext _ _ hI2 _ hd) (fun hne => absurd heq hne)
set_option maxRecDepth 100000 in
set_option maxHeartbeats 4000000 in
theorem lawc_lots {p : Program} {l : Launch} {e : Env} {s : State} {m : MethodId} {below : List Frame} {meth : Method} {c : Code} {D : va_G} {b L cs sl : Nat} {xs : Nat → Int32} {d : Drawn} {q : Nat → Nat} {A I : Nat → Nat → Int32} {x : Int32} (K : LC p s m meth c D b L xs) (hcs : cs ≤ 600000) (hsl : sl ≤ 7302250) {N : Nat} (hN : 8000000 ≤ N) (hI : Inv A I) (hd : s.drawn.sameBut d lw_cs) (h1 : vp_in (x + 1) L) (h2 : vp_in (x + 2) L) (h3 : vp_in (x + 3) L) (h4 : vp_in (x + 4) L) (hnext : ∀ A' I', Inv A' I' → ∀ d', s.drawn.sameBut d' lw_cs → J (gw p l e s m below meth c D b cs sl d') (wALL D q A' I') [(0, .ref b), (1, .ref (q 0)), (2, .ref (q 65)), (3, .int x)] 1159 []) : J (gw p l e s m below meth c D b cs sl d) (wALL D q A I) [(0, .ref b), (1, .ref (q 0)), (2, .ref (q 65)), (3, .int x)] 1067 [] := by
  have C := K.cx l e below cs sl hcs hsl d
  have X := K.lx l e below cs sl d
  obtain ⟨oc, hoc, om, hom, heq, hI2⟩ := pm_lots hI hN (xs (x + 1).toNatClampNeg) (xs (x + 2).toNatClampNeg) (xs (x + 3).toNatClampNeg)
  refine j_aload_n C dL_law_1067 rfl ?_
  refine j_aload_n C dL_law_1068 rfl ?_
  refine j_iload_n C dL_law_1069 rfl ?_
  refine j_iconst C 1 dL_law_1070 ki_1 ?_
  refine j_iadd C dL_law_1071 ?_
  refine jl_sld C X h1 dL_law_1072 ?_
  refine j_aload_n C dL_law_1073 rfl ?_
  refine j_iload_n C dL_law_1074 rfl ?_
  refine j_iconst C 2 dL_law_1075 ki_2 ?_
  refine j_iadd C dL_law_1076 ?_
  refine jl_sld C X h2 dL_law_1077 ?_
  refine j_aload_n C dL_law_1078 rfl ?_
  refine j_iload_n C dL_law_1079 rfl ?_
  refine j_iconst C 3 dL_law_1080 ki_3 ?_
  refine j_iadd C dL_law_1081 ?_
  refine jl_sld C X h3 dL_law_1082 ?_
  refine j_callV1 C mk_X9_lots ms_X9_lots kw_948 (t_X9_lots l D N hoc) (by decide) 0 wA_g0 rfl (List.range 84) (hC_all _ wA_l) rfl (wA_a.trans wA_a.symm) rfl rfl (Nat.le_of_ble_eq_true rfl) dL_law_1083 (wput_all wA_l wA_l) ?_
  refine j_aload_n C dL_law_1086 rfl ?_
  refine j_aload_n C dL_law_1087 rfl ?_
  refine j_iload_n C dL_law_1088 rfl ?_
  refine j_iconst C 1 dL_law_1089 ki_1 ?_
  refine j_iadd C dL_law_1090 ?_
  refine jl_sld C X h1 dL_law_1091 ?_
  refine j_aload_n C dL_law_1092 rfl ?_
  refine j_iload_n C dL_law_1093 rfl ?_
  refine j_iconst C 2 dL_law_1094 ki_2 ?_
  refine j_iadd C dL_law_1095 ?_
  refine jl_sld C X h2 dL_law_1096 ?_
  refine j_aload_n C dL_law_1097 rfl ?_
  refine j_iload_n C dL_law_1098 rfl ?_
  refine j_iconst C 3 dL_law_1099 ki_3 ?_
  refine j_iadd C dL_law_1100 ?_
  refine jl_sld C X h3 dL_law_1101 ?_
  refine j_callV1 C mk_X10_lots ms_X10_lots kw_1401 (t_X10_lots l D N hom) (by decide) 65 wA_g65 rfl (List.range 84) (hC_all _ wA_l) rfl (wA_a.trans wA_a.symm) rfl rfl (Nat.le_of_ble_eq_true rfl) dL_law_1102 (wput_all wA_l wA_l) ?_
  refine jv_icmp_eq C 1159 dL_law_1105 (by decide) (fun _ => hnext _ _ hI2 _ hd) (fun hne => absurd heq hne)
set_option maxRecDepth 100000 in
set_option maxHeartbeats 4000000 in
theorem lawc_image {p : Program} {l : Launch} {e : Env} {s : State} {m : MethodId} {below : List Frame} {meth : Method} {c : Code} {D : va_G} {b L cs sl : Nat} {xs : Nat → Int32} {d : Drawn} {q : Nat → Nat} {A I : Nat → Nat → Int32} {x : Int32} (K : LC p s m meth c D b L xs) (hcs : cs ≤ 600000) (hsl : sl ≤ 7302250) {N : Nat} (hN : 8000000 ≤ N) (hI : Inv A I) (hd : s.drawn.sameBut d lw_cs) (h1 : vp_in (x + 1) L) (h2 : vp_in (x + 2) L) (h3 : vp_in (x + 3) L) (h4 : vp_in (x + 4) L) (hnext : ∀ A' I', Inv A' I' → ∀ d', s.drawn.sameBut d' lw_cs → J (gw p l e s m below meth c D b cs sl d') (wALL D q A' I') [(0, .ref b), (1, .ref (q 0)), (2, .ref (q 65)), (3, .int x)] 1159 []) : J (gw p l e s m below meth c D b cs sl d) (wALL D q A I) [(0, .ref b), (1, .ref (q 0)), (2, .ref (q 65)), (3, .int x)] 1110 [] := by
  have C := K.cx l e below cs sl hcs hsl d
  have X := K.lx l e below cs sl d
  obtain ⟨oc, hoc, om, hom, heq, hI2⟩ := pm_image hI hN
  refine j_aload_n C dL_law_1110 rfl ?_
  refine j_callV1 C mk_X9_image ms_X9_image kw_958 (t_X9_image l D hoc) (by decide) 0 wA_g0 rfl (List.range 84) (hC_all _ wA_l) rfl (wA_a.trans wA_a.symm) rfl rfl (Nat.le_of_ble_eq_true rfl) dL_law_1111 (wput_all wA_l wA_l) ?_
  refine j_aload_n C dL_law_1114 rfl ?_
  refine j_callV1 C mk_X10_image ms_X10_image kw_1413 (t_X10_image l D N hom) (by decide) 65 wA_g65 rfl (List.range 84) (hC_all _ wA_l) rfl (wA_a.trans wA_a.symm) rfl rfl (Nat.le_of_ble_eq_true rfl) dL_law_1115 (wput_all wA_l wA_l) ?_
  refine jv_icmp_eq C 1159 dL_law_1118 (by decide) (fun _ => hnext _ _ hI2 _ hd) (fun hne => absurd heq hne)
set_option maxRecDepth 100000 in
set_option maxHeartbeats 4000000 in
theorem lawc_on {p : Program} {l : Launch} {e : Env} {s : State} {m : MethodId} {below : List Frame} {meth : Method} {c : Code} {D : va_G} {b L cs sl : Nat} {xs : Nat → Int32} {d : Drawn} {q : Nat → Nat} {A I : Nat → Nat → Int32} {x : Int32} (K : LC p s m meth c D b L xs) (hcs : cs ≤ 600000) (hsl : sl ≤ 7302250) {N : Nat} (hN : 8000000 ≤ N) (hI : Inv A I) (hd : s.drawn.sameBut d lw_cs) (h1 : vp_in (x + 1) L) (h2 : vp_in (x + 2) L) (h3 : vp_in (x + 3) L) (h4 : vp_in (x + 4) L) (hnext : ∀ A' I', Inv A' I' → ∀ d', s.drawn.sameBut d' lw_cs → J (gw p l e s m below meth c D b cs sl d') (wALL D q A' I') [(0, .ref b), (1, .ref (q 0)), (2, .ref (q 65)), (3, .int x)] 1159 []) : J (gw p l e s m below meth c D b cs sl d) (wALL D q A I) [(0, .ref b), (1, .ref (q 0)), (2, .ref (q 65)), (3, .int x)] 1123 [] := by
  have C := K.cx l e below cs sl hcs hsl d
  have X := K.lx l e below cs sl d
  obtain ⟨oc, hoc, om, hom, heq, hI2⟩ := pm_on hI hN
  refine j_aload_n C dL_law_1123 rfl ?_
  refine j_callV1 C mk_X9_on ms_X9_on kw_962 (t_X9_on l D hoc) (by decide) 0 wA_g0 rfl (List.range 84) (hC_all _ wA_l) rfl (wA_a.trans wA_a.symm) rfl rfl (Nat.le_of_ble_eq_true rfl) dL_law_1124 (wput_all wA_l wA_l) ?_
  refine j_aload_n C dL_law_1127 rfl ?_
  refine j_callV1 C mk_X10_on ms_X10_on kw_1417 (t_X10_on l D N hom) (by decide) 65 wA_g65 rfl (List.range 84) (hC_all _ wA_l) rfl (wA_a.trans wA_a.symm) rfl rfl (Nat.le_of_ble_eq_true rfl) dL_law_1128 (wput_all wA_l wA_l) ?_
  refine jv_icmp_eq C 1159 dL_law_1131 (by decide) (fun _ => hnext _ _ hI2 _ hd) (fun hne => absurd heq hne)
set_option maxRecDepth 100000 in
set_option maxHeartbeats 4000000 in
theorem lawc_count {p : Program} {l : Launch} {e : Env} {s : State} {m : MethodId} {below : List Frame} {meth : Method} {c : Code} {D : va_G} {b L cs sl : Nat} {xs : Nat → Int32} {d : Drawn} {q : Nat → Nat} {A I : Nat → Nat → Int32} {x : Int32} (K : LC p s m meth c D b L xs) (hcs : cs ≤ 600000) (hsl : sl ≤ 7302250) {N : Nat} (hN : 8000000 ≤ N) (hI : Inv A I) (hd : s.drawn.sameBut d lw_cs) (h1 : vp_in (x + 1) L) (h2 : vp_in (x + 2) L) (h3 : vp_in (x + 3) L) (h4 : vp_in (x + 4) L) (hnext : ∀ A' I', Inv A' I' → ∀ d', s.drawn.sameBut d' lw_cs → J (gw p l e s m below meth c D b cs sl d') (wALL D q A' I') [(0, .ref b), (1, .ref (q 0)), (2, .ref (q 65)), (3, .int x)] 1159 []) : J (gw p l e s m below meth c D b cs sl d) (wALL D q A I) [(0, .ref b), (1, .ref (q 0)), (2, .ref (q 65)), (3, .int x)] 1136 [] := by
  have C := K.cx l e below cs sl hcs hsl d
  have X := K.lx l e below cs sl d
  obtain ⟨oc, hoc, om, hom, heq, hI2⟩ := pm_count hI hN (xs (x + 1).toNatClampNeg)
  refine j_aload_n C dL_law_1136 rfl ?_
  refine j_aload_n C dL_law_1137 rfl ?_
  refine j_iload_n C dL_law_1138 rfl ?_
  refine j_iconst C 1 dL_law_1139 ki_1 ?_
  refine j_iadd C dL_law_1140 ?_
  refine jl_sld C X h1 dL_law_1141 ?_
  refine j_callV1 C mk_X9_count ms_X9_count kw_966 (t_X9_count l D N hoc) (by decide) 0 wA_g0 rfl (List.range 84) (hC_all _ wA_l) rfl (wA_a.trans wA_a.symm) rfl rfl (Nat.le_of_ble_eq_true rfl) dL_law_1142 (wput_all wA_l wA_l) ?_
  refine j_aload_n C dL_law_1145 rfl ?_
  refine j_aload_n C dL_law_1146 rfl ?_
  refine j_iload_n C dL_law_1147 rfl ?_
  refine j_iconst C 1 dL_law_1148 ki_1 ?_
  refine j_iadd C dL_law_1149 ?_
  refine jl_sld C X h1 dL_law_1150 ?_
  refine j_callV1 C mk_X10_count ms_X10_count kw_1421 (t_X10_count l D N hom) (by decide) 65 wA_g65 rfl (List.range 84) (hC_all _ wA_l) rfl (wA_a.trans wA_a.symm) rfl rfl (Nat.le_of_ble_eq_true rfl) dL_law_1151 (wput_all wA_l wA_l) ?_
  refine jv_icmp_eq C 1159 dL_law_1154 (by decide) (fun _ => hnext _ _ hI2 _ hd) (fun hne => absurd heq hne)
theorem tbl_out {y : Int32} (h0 : ¬ y = 0) (h1 : ¬ y = 1) (h2 : ¬ y = 2) (h3 : ¬ y = 3) (h4 : ¬ y = 4) (h5 : ¬ y = 5) (h6 : ¬ y = 6) (h7 : ¬ y = 7) (h8 : ¬ y = 8) (h9 : ¬ y = 9) (h10 : ¬ y = 10) (h11 : ¬ y = 11) (h12 : ¬ y = 12) (h13 : ¬ y = 13) (h14 : ¬ y = 14) (h15 : ¬ y = 15) (h16 : ¬ y = 16) (h17 : ¬ y = 17) (h18 : ¬ y = 18) (h19 : ¬ y = 19) (h20 : ¬ y = 20) (h21 : ¬ y = 21) (h22 : ¬ y = 22) (h23 : ¬ y = 23) (h24 : ¬ y = 24) (h25 : ¬ y = 25) (h26 : ¬ y = 26) (h27 : ¬ y = 27) (h28 : ¬ y = 28) (h29 : ¬ y = 29) (h30 : ¬ y = 30) (h31 : ¬ y = 31) (h32 : ¬ y = 32) (h33 : ¬ y = 33) (h34 : ¬ y = 34) (h35 : ¬ y = 35) (h36 : ¬ y = 36) : y.toInt < 0 ∨ 36 < y.toInt := by
  rcases Int.lt_or_le y.toInt 0 with h | h
  · exact Or.inl h
  rcases Int.lt_or_le 36 y.toInt with g | g
  · exact Or.inr g
  exfalso
  obtain ⟨k, hk⟩ : ∃ k : Nat, y.toInt = k := ⟨y.toInt.toNat, by omega⟩
  have hk36 : k ≤ 36 := by omega
  have hy : y = nI k := by
    apply Int32.toInt_inj.mp
    rw [hk, nI_toInt (by omega)]
  match k, hk36, hy with
  | 0, _, hy => exact h0 hy
  | 1, _, hy => exact h1 hy
  | 2, _, hy => exact h2 hy
  | 3, _, hy => exact h3 hy
  | 4, _, hy => exact h4 hy
  | 5, _, hy => exact h5 hy
  | 6, _, hy => exact h6 hy
  | 7, _, hy => exact h7 hy
  | 8, _, hy => exact h8 hy
  | 9, _, hy => exact h9 hy
  | 10, _, hy => exact h10 hy
  | 11, _, hy => exact h11 hy
  | 12, _, hy => exact h12 hy
  | 13, _, hy => exact h13 hy
  | 14, _, hy => exact h14 hy
  | 15, _, hy => exact h15 hy
  | 16, _, hy => exact h16 hy
  | 17, _, hy => exact h17 hy
  | 18, _, hy => exact h18 hy
  | 19, _, hy => exact h19 hy
  | 20, _, hy => exact h20 hy
  | 21, _, hy => exact h21 hy
  | 22, _, hy => exact h22 hy
  | 23, _, hy => exact h23 hy
  | 24, _, hy => exact h24 hy
  | 25, _, hy => exact h25 hy
  | 26, _, hy => exact h26 hy
  | 27, _, hy => exact h27 hy
  | 28, _, hy => exact h28 hy
  | 29, _, hy => exact h29 hy
  | 30, _, hy => exact h30 hy
  | 31, _, hy => exact h31 hy
  | 32, _, hy => exact h32 hy
  | 33, _, hy => exact h33 hy
  | 34, _, hy => exact h34 hy
  | 35, _, hy => exact h35 hy
  | 36, _, hy => exact h36 hy
  | k + 37, h36, _ => exact absurd h36 (by omega)
set_option maxRecDepth 100000 in
set_option maxHeartbeats 4000000 in
theorem law_loop {p : Program} {l : Launch} {e : Env} {s : State} {m : MethodId} {below : List Frame} {meth : Method} {c : Code} {D : va_G} {b L cs sl : Nat} {xs : Nat → Int32} {q : Nat → Nat} (hL : L ≤ 2560) (K : LC p s m meth c D b L xs) (hcs : cs ≤ 600000) (hsl : sl ≤ 7302250) {N : Nat} (hN : 8000000 ≤ N) :
    ∀ (n i : Nat), L + 1 ≤ 5 * i + n → 5 * i ≤ L → ∀ (A I : Nat → Nat → Int32) (d : Drawn), Inv A I → s.drawn.sameBut d lw_cs → J (gw p l e s m below meth c D b cs sl d) (wALL D q A I) [(0, .ref b), (1, .ref (q 0)), (2, .ref (q 65)), (3, .int (nI (5 * i)))] 18 [] := by
  intro n
  induction n using Nat.strongRecOn with
  | ind n ih =>
  intro i hn hi A I d hI hd
  have C := K.cx l e below cs sl hcs hsl d
  have X := K.lx l e below cs sl d
  refine j_iload_n C dL_law_18 rfl ?_
  refine j_aload_n C dL_law_19 rfl ?_
  refine jl_slen C X dL_law_20 ?_
  refine j_iconst C 5 dL_law_21 ki_5 ?_
  refine j_isub C dL_law_22 ?_
  refine jv_icmp_gt C 1165 dL_law_23 (by decide) (fun hc => ?_) (fun hc => ?_)
  · refine j_iconst C 1 dL_law_1165 ki_1 ?_
    exact K.ret hcs hsl hd dL_law_1166
  · have hle : 5 * i + 5 ≤ L := by
      rcases Nat.lt_or_ge L (5 * i + 5) with h | h
      · exfalso
        apply hc
        show nI L - nI 5 < nI (5 * i)
        rcases Nat.lt_or_ge L 5 with h5 | h5
        · have h6 := pk_sneg (a := L) (b := 5) (by decide) h5
          have h7 : ¬ nI (5 * i) < 0 := nI_pos (by omega)
          exact Int32.lt_of_lt_of_le h6 (Int32.not_lt.mp h7)
        · rw [pk_sub h5]
          exact nI_lt (by omega) (by omega)
      · exact h
    have hin : ∀ k : Nat, k < 5 → vp_in (nI (5 * i) + nI k) L := fun k hk => by rw [nI_add]; exact vp_in_nI (by omega) (by omega)
    have hnext : ∀ A' I', Inv A' I' → ∀ d', s.drawn.sameBut d' lw_cs → J (gw p l e s m below meth c D b cs sl d') (wALL D q A' I') [(0, .ref b), (1, .ref (q 0)), (2, .ref (q 65)), (3, .int (nI (5 * i)))] 1159 [] := by
      intro A' I' hI' d' hd'
      have C' := K.cx l e below cs sl hcs hsl d'
      refine j_inc C' 5 dL_law_1159 rfl ki_5 (by decide) ?_
      refine j_goto C' 18 dL_law_1162 (by decide) ?_
      have h9 := ih (n - 5) (by omega) (i + 1) (by omega) (by omega) A' I' d' hI' hd'
      have e9 : nI (5 * (i + 1)) = nI (5 * i) + 5 := by rw [show 5 * (i + 1) = 5 * i + 5 by omega, ← nI_add]; rfl
      rw [e9] at h9
      exact j_lw h9 rfl
    refine j_aload_n C dL_law_26 rfl ?_
    refine j_iload_n C dL_law_27 rfl ?_
    refine jl_sld C X (by have := hin 0 (by omega); rw [show nI (5 * i) + nI 0 = nI (5 * i) by rw [nI_add]; rfl] at this; exact this) dL_law_28 ?_
    refine j_bipush C 63 dL_law_29 kb_63 ?_
    refine j_iand C dL_law_31 ?_
    generalize xs (nI (5 * i)).toNatClampNeg &&& 63 = y
    by_cases hc0 : y = 0
    · refine j_tableIn C 196 (v := 0) (by rw [hc0] <;> decide) dL_law_32 (by decide) (by decide) rfl (by decide) ?_
      exact lawc_letter K hcs hsl hN hI hd (hin 1 (by omega)) (hin 2 (by omega)) (hin 3 (by omega)) (hin 4 (by omega)) hnext
    by_cases hc1 : y = 1
    · refine j_tableIn C 219 (v := 1) (by rw [hc1] <;> decide) dL_law_32 (by decide) (by decide) rfl (by decide) ?_
      exact lawc_map K hcs hsl hN hI hd (hin 1 (by omega)) (hin 2 (by omega)) (hin 3 (by omega)) (hin 4 (by omega)) hnext
    by_cases hc2 : y = 2
    · refine j_tableIn C 232 (v := 2) (by rw [hc2] <;> decide) dL_law_32 (by decide) (by decide) rfl (by decide) ?_
      exact lawc_streets K hcs hsl hN hI hd (hin 1 (by omega)) (hin 2 (by omega)) (hin 3 (by omega)) (hin 4 (by omega)) hnext
    by_cases hc3 : y = 3
    · refine j_tableIn C 275 (v := 3) (by rw [hc3] <;> decide) dL_law_32 (by decide) (by decide) rfl (by decide) ?_
      exact lawc_turns K hcs hsl hN hI hd (hin 1 (by omega)) (hin 2 (by omega)) (hin 3 (by omega)) (hin 4 (by omega)) hnext
    by_cases hc4 : y = 4
    · refine j_tableIn C 298 (v := 4) (by rw [hc4] <;> decide) dL_law_32 (by decide) (by decide) rfl (by decide) ?_
      exact lawc_length K hcs hsl hN hI hd (hin 1 (by omega)) (hin 2 (by omega)) (hin 3 (by omega)) (hin 4 (by omega)) hnext
    by_cases hc5 : y = 5
    · refine j_tableIn C 331 (v := 5) (by rw [hc5] <;> decide) dL_law_32 (by decide) (by decide) rfl (by decide) ?_
      exact lawc_kind K hcs hsl hN hI hd (hin 1 (by omega)) (hin 2 (by omega)) (hin 3 (by omega)) (hin 4 (by omega)) hnext
    by_cases hc6 : y = 6
    · refine j_tableIn C 374 (v := 6) (by rw [hc6] <;> decide) dL_law_32 (by decide) (by decide) rfl (by decide) ?_
      exact lawc_home K hcs hsl hN hI hd (hin 1 (by omega)) (hin 2 (by omega)) (hin 3 (by omega)) (hin 4 (by omega)) hnext
    by_cases hc7 : y = 7
    · refine j_tableIn C 397 (v := 7) (by rw [hc7] <;> decide) dL_law_32 (by decide) (by decide) rfl (by decide) ?_
      exact lawc_street K hcs hsl hN hI hd (hin 1 (by omega)) (hin 2 (by omega)) (hin 3 (by omega)) (hin 4 (by omega)) hnext
    by_cases hc8 : y = 8
    · refine j_tableIn C 430 (v := 8) (by rw [hc8] <;> decide) dL_law_32 (by decide) (by decide) rfl (by decide) ?_
      exact lawc_corner K hcs hsl hN hI hd (hin 1 (by omega)) (hin 2 (by omega)) (hin 3 (by omega)) (hin 4 (by omega)) hnext
    by_cases hc9 : y = 9
    · refine j_tableIn C 463 (v := 9) (by rw [hc9] <;> decide) dL_law_32 (by decide) (by decide) rfl (by decide) ?_
      exact lawc_distance K hcs hsl hN hI hd (hin 1 (by omega)) (hin 2 (by omega)) (hin 3 (by omega)) (hin 4 (by omega)) hnext
    by_cases hc10 : y = 10
    · refine j_tableIn C 496 (v := 10) (by rw [hc10] <;> decide) dL_law_32 (by decide) (by decide) rfl (by decide) ?_
      exact lawc_next K hcs hsl hN hI hd (hin 1 (by omega)) (hin 2 (by omega)) (hin 3 (by omega)) (hin 4 (by omega)) hnext
    by_cases hc11 : y = 11
    · refine j_tableIn C 529 (v := 11) (by rw [hc11] <;> decide) dL_law_32 (by decide) (by decide) rfl (by decide) ?_
      exact lawc_round K hcs hsl hN hI hd (hin 1 (by omega)) (hin 2 (by omega)) (hin 3 (by omega)) (hin 4 (by omega)) hnext
    by_cases hc12 : y = 12
    · refine j_tableIn C 552 (v := 12) (by rw [hc12] <;> decide) dL_law_32 (by decide) (by decide) rfl (by decide) ?_
      exact lawc_step K hcs hsl hN hI hd (hin 1 (by omega)) (hin 2 (by omega)) (hin 3 (by omega)) (hin 4 (by omega)) hnext
    by_cases hc13 : y = 13
    · refine j_tableIn C 585 (v := 13) (by rw [hc13] <;> decide) dL_law_32 (by decide) (by decide) rfl (by decide) ?_
      exact lawc_time K hcs hsl hN hI hd (hin 1 (by omega)) (hin 2 (by omega)) (hin 3 (by omega)) (hin 4 (by omega)) hnext
    by_cases hc14 : y = 14
    · refine j_tableIn C 618 (v := 14) (by rw [hc14] <;> decide) dL_law_32 (by decide) (by decide) rfl (by decide) ?_
      exact lawc_rank K hcs hsl hN hI hd (hin 1 (by omega)) (hin 2 (by omega)) (hin 3 (by omega)) (hin 4 (by omega)) hnext
    by_cases hc15 : y = 15
    · refine j_tableIn C 671 (v := 15) (by rw [hc15] <;> decide) dL_law_32 (by decide) (by decide) rfl (by decide) ?_
      exact lawc_mean K hcs hsl hN hI hd (hin 1 (by omega)) (hin 2 (by omega)) (hin 3 (by omega)) (hin 4 (by omega)) hnext
    by_cases hc16 : y = 16
    · refine j_tableIn C 685 (v := 16) (by rw [hc16] <;> decide) dL_law_32 (by decide) (by decide) rfl (by decide) ?_
      exact lawc_odd K hcs hsl hN hI hd (hin 1 (by omega)) (hin 2 (by omega)) (hin 3 (by omega)) (hin 4 (by omega)) hnext
    by_cases hc17 : y = 17
    · refine j_tableIn C 698 (v := 17) (by rw [hc17] <;> decide) dL_law_32 (by decide) (by decide) rfl (by decide) ?_
      exact lawc_matched K hcs hsl hN hI hd (hin 1 (by omega)) (hin 2 (by omega)) (hin 3 (by omega)) (hin 4 (by omega)) hnext
    by_cases hc18 : y = 18
    · refine j_tableIn C 721 (v := 18) (by rw [hc18] <;> decide) dL_law_32 (by decide) (by decide) rfl (by decide) ?_
      exact lawc_matching K hcs hsl hN hI hd (hin 1 (by omega)) (hin 2 (by omega)) (hin 3 (by omega)) (hin 4 (by omega)) hnext
    by_cases hc19 : y = 19
    · refine j_tableIn C 734 (v := 19) (by rw [hc19] <;> decide) dL_law_32 (by decide) (by decide) rfl (by decide) ?_
      exact lawc_spliced K hcs hsl hN hI hd (hin 1 (by omega)) (hin 2 (by omega)) (hin 3 (by omega)) (hin 4 (by omega)) hnext
    by_cases hc20 : y = 20
    · refine j_tableIn C 757 (v := 20) (by rw [hc20] <;> decide) dL_law_32 (by decide) (by decide) rfl (by decide) ?_
      exact lawc_balance K hcs hsl hN hI hd (hin 1 (by omega)) (hin 2 (by omega)) (hin 3 (by omega)) (hin 4 (by omega)) hnext
    by_cases hc21 : y = 21
    · refine j_tableIn C 780 (v := 21) (by rw [hc21] <;> decide) dL_law_32 (by decide) (by decide) rfl (by decide) ?_
      exact lawc_flow K hcs hsl hN hI hd (hin 1 (by omega)) (hin 2 (by omega)) (hin 3 (by omega)) (hin 4 (by omega)) hnext
    by_cases hc22 : y = 22
    · refine j_tableIn C 793 (v := 22) (by rw [hc22] <;> decide) dL_law_32 (by decide) (by decide) rfl (by decide) ?_
      exact lawc_loose K hcs hsl hN hI hd (hin 1 (by omega)) (hin 2 (by omega)) (hin 3 (by omega)) (hin 4 (by omega)) hnext
    by_cases hc23 : y = 23
    · refine j_tableIn C 816 (v := 23) (by rw [hc23] <;> decide) dL_law_32 (by decide) (by decide) rfl (by decide) ?_
      exact lawc_without K hcs hsl hN hI hd (hin 1 (by omega)) (hin 2 (by omega)) (hin 3 (by omega)) (hin 4 (by omega)) hnext
    by_cases hc24 : y = 24
    · refine j_tableIn C 839 (v := 24) (by rw [hc24] <;> decide) dL_law_32 (by decide) (by decide) rfl (by decide) ?_
      exact lawc_turned K hcs hsl hN hI hd (hin 1 (by omega)) (hin 2 (by omega)) (hin 3 (by omega)) (hin 4 (by omega)) hnext
    by_cases hc25 : y = 25
    · refine j_tableIn C 862 (v := 25) (by rw [hc25] <;> decide) dL_law_32 (by decide) (by decide) rfl (by decide) ?_
      exact lawc_worst K hcs hsl hN hI hd (hin 1 (by omega)) (hin 2 (by omega)) (hin 3 (by omega)) (hin 4 (by omega)) hnext
    by_cases hc26 : y = 26
    · refine j_tableIn C 875 (v := 26) (by rw [hc26] <;> decide) dL_law_32 (by decide) (by decide) rfl (by decide) ?_
      exact lawc_shared K hcs hsl hN hI hd (hin 1 (by omega)) (hin 2 (by omega)) (hin 3 (by omega)) (hin 4 (by omega)) hnext
    by_cases hc27 : y = 27
    · refine j_tableIn C 908 (v := 27) (by rw [hc27] <;> decide) dL_law_32 (by decide) (by decide) rfl (by decide) ?_
      exact lawc_dealt K hcs hsl hN hI hd (hin 1 (by omega)) (hin 2 (by omega)) (hin 3 (by omega)) (hin 4 (by omega)) hnext
    by_cases hc28 : y = 28
    · refine j_tableIn C 941 (v := 28) (by rw [hc28] <;> decide) dL_law_32 (by decide) (by decide) rfl (by decide) ?_
      exact lawc_lost K hcs hsl hN hI hd (hin 1 (by omega)) (hin 2 (by omega)) (hin 3 (by omega)) (hin 4 (by omega)) hnext
    by_cases hc29 : y = 29
    · refine j_tableIn C 985 (v := 29) (by rw [hc29] <;> decide) dL_law_32 (by decide) (by decide) rfl (by decide) ?_
      exact lawc_whatIs K hcs hsl hN hI hd (hin 1 (by omega)) (hin 2 (by omega)) (hin 3 (by omega)) (hin 4 (by omega)) hnext
    by_cases hc30 : y = 30
    · refine j_tableIn C 1018 (v := 30) (by rw [hc30] <;> decide) dL_law_32 (by decide) (by decide) rfl (by decide) ?_
      exact lawc_row K hcs hsl hN hI hd (hin 1 (by omega)) (hin 2 (by omega)) (hin 3 (by omega)) (hin 4 (by omega)) hnext
    by_cases hc31 : y = 31
    · refine j_tableIn C 1041 (v := 31) (by rw [hc31] <;> decide) dL_law_32 (by decide) (by decide) rfl (by decide) ?_
      exact lawc_judge K hcs hsl hN hI hd (hin 1 (by omega)) (hin 2 (by omega)) (hin 3 (by omega)) (hin 4 (by omega)) hnext
    by_cases hc32 : y = 32
    · refine j_tableIn C 1054 (v := 32) (by rw [hc32] <;> decide) dL_law_32 (by decide) (by decide) rfl (by decide) ?_
      exact lawc_clear K hcs hsl hN hI hd (hin 1 (by omega)) (hin 2 (by omega)) (hin 3 (by omega)) (hin 4 (by omega)) hnext
    by_cases hc33 : y = 33
    · refine j_tableIn C 1067 (v := 33) (by rw [hc33] <;> decide) dL_law_32 (by decide) (by decide) rfl (by decide) ?_
      exact lawc_lots K hcs hsl hN hI hd (hin 1 (by omega)) (hin 2 (by omega)) (hin 3 (by omega)) (hin 4 (by omega)) hnext
    by_cases hc34 : y = 34
    · refine j_tableIn C 1110 (v := 34) (by rw [hc34] <;> decide) dL_law_32 (by decide) (by decide) rfl (by decide) ?_
      exact lawc_image K hcs hsl hN hI hd (hin 1 (by omega)) (hin 2 (by omega)) (hin 3 (by omega)) (hin 4 (by omega)) hnext
    by_cases hc35 : y = 35
    · refine j_tableIn C 1123 (v := 35) (by rw [hc35] <;> decide) dL_law_32 (by decide) (by decide) rfl (by decide) ?_
      exact lawc_on K hcs hsl hN hI hd (hin 1 (by omega)) (hin 2 (by omega)) (hin 3 (by omega)) (hin 4 (by omega)) hnext
    by_cases hc36 : y = 36
    · refine j_tableIn C 1136 (v := 36) (by rw [hc36] <;> decide) dL_law_32 (by decide) (by decide) rfl (by decide) ?_
      exact lawc_count K hcs hsl hN hI hd (hin 1 (by omega)) (hin 2 (by omega)) (hin 3 (by omega)) (hin 4 (by omega)) hnext
    refine j_tableOut C 1159 dL_law_32 (tbl_out hc0 hc1 hc2 hc3 hc4 hc5 hc6 hc7 hc8 hc9 hc10 hc11 hc12 hc13 hc14 hc15 hc16 hc17 hc18 hc19 hc20 hc21 hc22 hc23 hc24 hc25 hc26 hc27 hc28 hc29 hc30 hc31 hc32 hc33 hc34 hc35 hc36) (by decide) ?_
    exact hnext _ _ hI _ hd
