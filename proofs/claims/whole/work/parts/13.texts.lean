def stx (i : Nat) : List Int32 := ([[99, 99, 100, 100, 59], [100, 100, 100, 59], [100, 59], [99, 59], []] : List (List Int32)).getD i []
def slen (i : Nat) : Nat := ([5, 4, 2, 2, 0] : List Nat).getD i 0
def sch (i : Nat) (k : Int32) : Int32 := (stx i).getD k.toNatClampNeg 0
theorem sch_c : ∀ i, i < 5 → ∀ k, k < slen i → (((stx i).getD k 0 &&& 255).toUInt32 % 65536).toInt32 = (stx i).getD k 0 := by decide +kernel
theorem sch_n : ∀ i, i < 5 → ∀ k, k < slen i → narrow .char (.int ((stx i).getD k 0)) = .int ((stx i).getD k 0) := by decide +kernel
/-- a text's number is below 5 -/
def gs {α : Type} (i : Nat) (X : Option α) : Option α := if i < 5 then X else none
theorem of_gs {α : Type} {i : Nat} {X : Option α} {o : α} (h : gs i X = some o) : i < 5 ∧ X = some o := by
  unfold gs at h
  split at h
  · rename_i hc; exact ⟨hc, h⟩
  · cases h
theorem j_tret {g : GT} {own : String} {cc : ByteArray} {k nL9 : Nat} {ws : va_W} {lv : List (Nat × Value)} {pc : Nat} {v : Int32} {ty : FieldType} (C : Cx g own cc k nL9) (E : En g (some ty) ws (some (.int v))) (hn : narrow ty (.int v) = .int v) (hdg : decode cc pc = .ok (.ireturn, 1)) : J g ws lv pc [.int v] := by
  obtain ⟨p, l, e, R, s, m, args, below, meth, c, D, A, Q, cells, slots, nL⟩ := g
  obtain ⟨rfl, hx, hb, -⟩ := C
  obtain ⟨hr, hlocks, Qc, free, rfl, hfr, hq⟩ := E
  intro H locs ls hP hD hS hl
  exact W.zret hx hb hr hn (fun t ht hW => hq t H locs hP hS ht hW) (fun q h => hfr _ (hS.2.2 q h)) hdg hlocks
theorem j_getCS {g : GT} {own : String} {cc : ByteArray} {k nL9 : Nat} {ws : va_W} {lv : List (Nat × Value)} {pc : Nat} {st : List Value} {idx : Nat} (C : Cx g own cc k nL9) (hlk : Cond.fieldLink own idx "java/lang/String" "COMPACT_STRINGS" "Z" ∈ lw_gd) (hdg : decode cc pc = .ok (.getstatic idx, 3)) (kk : J g ws lv (pc + 3) (.int 1 :: st)) : J g ws lv pc st := by
  obtain ⟨p, l, e, R, s, m, args, below, meth, c, D, A, Q, cells, slots, nL⟩ := g
  obtain ⟨rfl, hx, hb, hml, hown, hts, hK, hkf, hkl, hce, hsl, hA, hF⟩ := C
  intro H locs ls hP hD hS hl
  exact va_gets hx hb hF.2.2.2.2.1 hS hown (hts _ hlk) (fun _ h9 => h9) hdg (kk H locs ls hP hD hS hl)
theorem j_getFM {g : GT} {own : String} {cc : ByteArray} {k nL9 : Nat} {ws : va_W} {lv : List (Nat × Value)} {pc : Nat} {st : List Value} {idx : Nat} (C : Cx g own cc k nL9) (hlk : Cond.fieldLink own idx "jdk/internal/util/Preconditions" "SIOOBE_FORMATTER" "Ljava/util/function/BiFunction;" ∈ lw_gd) (hdg : decode cc pc = .ok (.getstatic idx, 3)) (kk : ∀ v : Value, v.category = 1 → J g ws lv (pc + 3) (v :: st)) : J g ws lv pc st := by
  obtain ⟨p, l, e, R, s, m, args, below, meth, c, D, A, Q, cells, slots, nL⟩ := g
  obtain ⟨rfl, hx, hb, hml, hown, hts, hK, hkf, hkl, hce, hsl, hA, hF⟩ := C
  intro H locs ls hP hD hS hl
  rcases hF.2.2.2.2.2.1 with hz | ⟨t, hz⟩
  · exact va_gets hx hb hz hS hown (hts _ hlk) (fun _ h9 => h9) hdg (kk _ rfl H locs ls hP hD hS hl)
  · exact va_gets hx hb hz hS hown (hts _ hlk) (fun _ h9 => h9) hdg (kk _ rfl H locs ls hP hD hS hl)
theorem j_scoder {g : GT} {own : String} {cc : ByteArray} {k nL9 : Nat} {ws : va_W} {lv : List (Nat × Value)} {pc : Nat} {st : List Value} {idx i : Nat} (hi : i < 5) (C : Cx g own cc k nL9) (hlk : Cond.fieldLink own idx "java/lang/String" "coder" "B" ∈ lw_gd) (hdg : decode cc pc = .ok (.getfield idx, 3)) (kk : J g ws lv (pc + 3) (.int 0 :: st)) : J g ws lv pc (.ref ((gD g).2 101 i) :: st) := by
  obtain ⟨p, l, e, R, s, m, args, below, meth, c, D, A, Q, cells, slots, nL⟩ := g
  obtain ⟨rfl, hx, hb, hml, hown, hts, hK, hkf, hkl, hce, hsl, hA, hF⟩ := C
  intro H locs ls hP hD hS hl
  exact vk_getf hx hb (hF.2.2.2.1.1 i hi).2.1 hS hown (hts _ hlk) (fun _ h9 => h9) hdg (kk H locs ls hP hD hS hl)
theorem j_svalue {g : GT} {own : String} {cc : ByteArray} {k nL9 : Nat} {ws : va_W} {lv : List (Nat × Value)} {pc : Nat} {st : List Value} {idx i : Nat} (hi : i < 5) (C : Cx g own cc k nL9) (hlk : Cond.fieldLink own idx "java/lang/String" "value" "[B" ∈ lw_gd) (hdg : decode cc pc = .ok (.getfield idx, 3)) (kk : J g ws lv (pc + 3) (.ref ((gD g).2 102 i) :: st)) : J g ws lv pc (.ref ((gD g).2 101 i) :: st) := by
  obtain ⟨p, l, e, R, s, m, args, below, meth, c, D, A, Q, cells, slots, nL⟩ := g
  obtain ⟨rfl, hx, hb, hml, hown, hts, hK, hkf, hkl, hce, hsl, hA, hF⟩ := C
  intro H locs ls hP hD hS hl
  exact vk_getf hx hb (hF.2.2.2.1.1 i hi).2.2.1 hS hown (hts _ hlk) (fun _ h9 => h9) hdg (kk H locs ls hP hD hS hl)
theorem j_salen {g : GT} {own : String} {cc : ByteArray} {k nL9 : Nat} {ws : va_W} {lv : List (Nat × Value)} {pc : Nat} {st : List Value} {i : Nat} (hi : i < 5) (C : Cx g own cc k nL9) (hdg : decode cc pc = .ok (.arraylength, 1)) (kk : J g ws lv (pc + 1) (.int (Int32.ofNat (slen i)) :: st)) : J g ws lv pc (.ref ((gD g).2 102 i) :: st) := by
  obtain ⟨p, l, e, R, s, m, args, below, meth, c, D, A, Q, cells, slots, nL⟩ := g
  obtain ⟨rfl, hx, hb, hml, hown, hts, hK, hkf, hkl, hce, hsl, hA, hF⟩ := C
  intro H locs ls hP hD hS hl
  exact va_tlen hx hb (hF.2.2.2.1.1 i hi).2.2.2 hS rfl hdg (kk H locs ls hP hD hS hl)
theorem j_sbald {g : GT} {own : String} {cc : ByteArray} {k nL9 : Nat} {ws : va_W} {lv : List (Nat × Value)} {pc : Nat} {st : List Value} {i : Nat} {x : Int32} (hi : i < 5) (C : Cx g own cc k nL9) (hin : vp_in x (slen i)) (hdg : decode cc pc = .ok (.baload, 1)) (kk : J g ws lv (pc + 1) (.int (sch i x) :: st)) : J g ws lv pc (.int x :: .ref ((gD g).2 102 i) :: st) := by
  obtain ⟨p, l, e, R, s, m, args, below, meth, c, D, A, Q, cells, slots, nL⟩ := g
  obtain ⟨rfl, hx, hb, hml, hown, hts, hK, hkf, hkl, hce, hsl, hA, hF⟩ := C
  intro H locs ls hP hD hS hl
  exact va_tb hx hb (hF.2.2.2.1.1 i hi).2.2.2 hS hin rfl hdg (kk H locs ls hP hD hS hl)
theorem j_i2c {g : GT} {own : String} {cc : ByteArray} {k nL9 : Nat} {ws : va_W} {lv : List (Nat × Value)} {pc : Nat} {st : List Value} {x : Int32} (C : Cx g own cc k nL9) (hdg : decode cc pc = .ok (.i2c, 1)) (kk : J g ws lv (pc + 1) (.int ((x.toUInt32 % 65536).toInt32) :: st)) : J g ws lv pc (.int x :: st) := by
  obtain ⟨p, l, e, R, s, m, args, below, meth, c, D, A, Q, cells, slots, nL⟩ := g
  obtain ⟨rfl, hx, hb, hml, hown, hts, hK, hkf, hkl, hce, hsl, hA, hF⟩ := C
  intro H locs ls hP hD hS hl
  exact lv_i2c hx hb hdg rfl (kk H locs ls hP hD hS hl)
theorem j_ldcs22 {g : GT} {own : String} {cc : ByteArray} {k nL9 : Nat} {ws : va_W} {lv : List (Nat × Value)} {pc : Nat} {st : List Value} (C : Cx g own cc k nL9) (hown9 : own = "PostmanRounds$Reader") (hdg : decode cc pc = .ok (.ldc 22, 2)) (kk : J g ws lv (pc + 2) (.ref ((gD g).2 101 0) :: st)) : J g ws lv pc st := by
  obtain ⟨p, l, e, R, s, m, args, below, meth, c, D, A, Q, cells, slots, nL⟩ := g
  obtain ⟨rfl, hx, hb, hml, hown, hts, hK, hkf, hkl, hce, hsl, hA, hF⟩ := C
  intro H locs ls hP hD hS hl
  subst hown9
  exact va_ldcS hx hb hown hF.2.2.2.2.2.2.1.1 hdg (kk H locs ls hP hD hS hl)
theorem j_ldcs24 {g : GT} {own : String} {cc : ByteArray} {k nL9 : Nat} {ws : va_W} {lv : List (Nat × Value)} {pc : Nat} {st : List Value} (C : Cx g own cc k nL9) (hown9 : own = "PostmanRounds$Reader") (hdg : decode cc pc = .ok (.ldc 24, 2)) (kk : J g ws lv (pc + 2) (.ref ((gD g).2 101 1) :: st)) : J g ws lv pc st := by
  obtain ⟨p, l, e, R, s, m, args, below, meth, c, D, A, Q, cells, slots, nL⟩ := g
  obtain ⟨rfl, hx, hb, hml, hown, hts, hK, hkf, hkl, hce, hsl, hA, hF⟩ := C
  intro H locs ls hP hD hS hl
  subst hown9
  exact va_ldcS hx hb hown hF.2.2.2.2.2.2.1.2.1 hdg (kk H locs ls hP hD hS hl)
theorem j_ldcs26 {g : GT} {own : String} {cc : ByteArray} {k nL9 : Nat} {ws : va_W} {lv : List (Nat × Value)} {pc : Nat} {st : List Value} (C : Cx g own cc k nL9) (hown9 : own = "PostmanRounds$Reader") (hdg : decode cc pc = .ok (.ldc 26, 2)) (kk : J g ws lv (pc + 2) (.ref ((gD g).2 101 2) :: st)) : J g ws lv pc st := by
  obtain ⟨p, l, e, R, s, m, args, below, meth, c, D, A, Q, cells, slots, nL⟩ := g
  obtain ⟨rfl, hx, hb, hml, hown, hts, hK, hkf, hkl, hce, hsl, hA, hF⟩ := C
  intro H locs ls hP hD hS hl
  subst hown9
  exact va_ldcS hx hb hown hF.2.2.2.2.2.2.1.2.2.1 hdg (kk H locs ls hP hD hS hl)
theorem j_ldcs28 {g : GT} {own : String} {cc : ByteArray} {k nL9 : Nat} {ws : va_W} {lv : List (Nat × Value)} {pc : Nat} {st : List Value} (C : Cx g own cc k nL9) (hown9 : own = "PostmanRounds$Reader") (hdg : decode cc pc = .ok (.ldc 28, 2)) (kk : J g ws lv (pc + 2) (.ref ((gD g).2 101 3) :: st)) : J g ws lv pc st := by
  obtain ⟨p, l, e, R, s, m, args, below, meth, c, D, A, Q, cells, slots, nL⟩ := g
  obtain ⟨rfl, hx, hb, hml, hown, hts, hK, hkf, hkl, hce, hsl, hA, hF⟩ := C
  intro H locs ls hP hD hS hl
  subst hown9
  exact va_ldcS hx hb hown hF.2.2.2.2.2.2.1.2.2.2.1 hdg (kk H locs ls hP hD hS hl)
theorem j_ldcs30 {g : GT} {own : String} {cc : ByteArray} {k nL9 : Nat} {ws : va_W} {lv : List (Nat × Value)} {pc : Nat} {st : List Value} (C : Cx g own cc k nL9) (hown9 : own = "PostmanRounds$Reader") (hdg : decode cc pc = .ok (.ldc 30, 2)) (kk : J g ws lv (pc + 2) (.ref ((gD g).2 101 4) :: st)) : J g ws lv pc st := by
  obtain ⟨p, l, e, R, s, m, args, below, meth, c, D, A, Q, cells, slots, nL⟩ := g
  obtain ⟨rfl, hx, hb, hml, hown, hts, hK, hkf, hkl, hce, hsl, hA, hF⟩ := C
  intro H locs ls hP hD hS hl
  subst hown9
  exact va_ldcS hx hb hown hF.2.2.2.2.2.2.1.2.2.2.2 hdg (kk H locs ls hP hD hS hl)
theorem j_callT1 {g : GT} {own : String} {cc : ByteArray} {k nL9 : Nat} {ws : va_W} {lv : List (Nat × Value)} {pc : Nat} {st st0 : List Value} {y : MethodName} {b : ByteArray} {nn na k1 idx i : Nat} {ret : Option FieldType} {As : List Value} {vr : Value} (hi : i < 5) (C : Cx g own cc k nL9) (M : MOK y b nn ret na) (hV : Cond.instanceMethod y ∈ lw_gd ∧ Cond.selects y.cls y y ∈ lw_gd) (hlk : Cond.methodLink own idx y ∈ lw_gd) (K : CT (gl g) (gD g) y b nn ret k1 (.ref ((gD g).2 101 i) :: As) [] [] (some vr)) (hk : k1 < k) (hy : y.cls = "java/lang/String") (hna : As.length = na) (hst : st0 = As.reverse ++ .ref ((gD g).2 101 i) :: st) (hcat : (st.map fun v => v.category).sum ≤ 8) (hdg : decode cc pc = .ok (.invokevirtual idx, 3)) (kk : J g ws lv (pc + 3) (vr :: st)) : J g ws lv pc st0 := by
  obtain ⟨p, l, e, R, s, m, args, below, meth, c, D, A, Q, cells, slots, nL⟩ := g
  obtain ⟨rfl, hx, hb, hml, hown, hts, hK, hkf, hkl, hce, hsl, hA, hF⟩ := C
  obtain ⟨M1, M2, M3, M4, M5⟩ := M
  intro H locs ls hP hD hS hl
  have hpre := j_pre (l := l) (As := .ref (D.2 101 i) :: As) (W1 := []) (is := []) hK hP hD hS hA hF rfl rfl
  have hrc := vk_recv hF.2.2.2.1 hi hS
  rw [← hy] at hrc
  exact j_back (l := l) (W1 := []) (W2 := []) (is := []) hP hD hS hA hl rfl rfl (va_runV (As := As) (rest := st) (g := F0 m pc ls st0) ⟨hx, hb, hml, hown, hts⟩ (K H.size)
    ⟨callB_of na hts (wsU_good M1) rfl rfl rfl (hts _ M2) (hts _ hlk) M3 ⟨by show k1 + 1 ≤ R.frames; omega, by show 8 + (nn + 11) + 40 * k1 ≤ R.locals; omega⟩, hts _ hV.1, hts _ hV.2⟩
    ⟨hpre.1, hrc, hpre.2⟩ rfl hna hl.1 hst (lv_room hcat) hdg ⟨hce, hsl⟩) kk
set_option maxRecDepth 100000 in
set_option maxHeartbeats 4000000 in
theorem c_coder (l : Launch) (D : va_G) {i : Nat} (hi : i < 5) : CT l D yJ0_coder_7d493 cJ0_coder_7d493 1 (some .byte) 0 [.ref (D.2 101 i)] [] [] (some (.int 0)) := by
  refine CT.of mk_J0_coder_7d493 (Nat.le_of_ble_eq_true rfl) (fun g hl hD C E => ?_)
  subst hl
  subst hD
  refine j_getCS C kw_358 dJ0_coder_7d493_0 ?_
  refine jv_if_eq C 13 dJ0_coder_7d493_3 (by decide) (fun hc => absurd hc (by decide)) (fun hc => ?_)
  refine j_aload_n C dJ0_coder_7d493_6 rfl ?_
  refine j_scoder hi C kw_1428 dJ0_coder_7d493_7 ?_
  refine j_goto C 14 dJ0_coder_7d493_10 (by decide) ?_
  exact j_tret C E rfl dJ0_coder_7d493_14
set_option maxRecDepth 100000 in
set_option maxHeartbeats 4000000 in
theorem c_isLatin1 (l : Launch) (D : va_G) {i : Nat} (hi : i < 5) : CT l D yJ0_isLatin1_aae02 cJ0_isLatin1_aae02 1 (some .boolean) 0 [.ref (D.2 101 i)] [] [] (some (.int 1)) := by
  refine CT.of mk_J0_isLatin1_aae02 (Nat.le_of_ble_eq_true rfl) (fun g hl hD C E => ?_)
  subst hl
  subst hD
  refine j_getCS C kw_358 dJ0_isLatin1_aae02_0 ?_
  refine jv_if_eq C 17 dJ0_isLatin1_aae02_3 (by decide) (fun hc => absurd hc (by decide)) (fun hc => ?_)
  refine j_aload_n C dJ0_isLatin1_aae02_6 rfl ?_
  refine j_scoder hi C kw_1428 dJ0_isLatin1_aae02_7 ?_
  refine jv_if_ne C 17 dJ0_isLatin1_aae02_10 (by decide) (fun hc => ?_) (fun hc => absurd rfl hc)
  refine j_iconst C 1 dJ0_isLatin1_aae02_13 ki_1 ?_
  refine j_goto C 18 dJ0_isLatin1_aae02_14 (by decide) ?_
  exact j_tret C E rfl dJ0_isLatin1_aae02_18
set_option maxRecDepth 100000 in
set_option maxHeartbeats 4000000 in
theorem c_slen (l : Launch) (D : va_G) {i : Nat} (hi : i < 5) : CT l D yJ0_length_8abf5 cJ0_length_8abf5 1 (some .int) 1 [.ref (D.2 101 i)] [] [] (some (.int (Int32.ofNat (slen i)))) := by
  refine CT.of mk_J0_length_8abf5 (Nat.le_of_ble_eq_true rfl) (fun g hl hD C E => ?_)
  subst hl
  subst hD
  refine j_aload_n C dJ0_length_8abf5_0 rfl ?_
  refine j_svalue hi C kw_1427 dJ0_length_8abf5_1 ?_
  refine j_salen hi C dJ0_length_8abf5_4 ?_
  refine j_aload_n C dJ0_length_8abf5_5 rfl ?_
  refine j_callT1 hi C mk_J0_coder_7d493 ms_J0_coder_7d493 kw_354 (c_coder (gl g) (gD g) hi) (by decide) rfl rfl rfl (Nat.le_of_ble_eq_true rfl) dJ0_length_8abf5_6 ?_
  refine j_ishr C dJ0_length_8abf5_9 ?_
  rw [sb_shr0]
  exact j_iret C E dJ0_length_8abf5_10
set_option maxRecDepth 100000 in
set_option maxHeartbeats 4000000 in
theorem c_sempty (l : Launch) (D : va_G) {i : Nat} (hi : i < 5) : CT l D yJ0_isEmpty_aae02 cJ0_isEmpty_aae02 1 (some .boolean) 0 [.ref (D.2 101 i)] [] [] (some (.int (if Int32.ofNat (slen i) = 0 then 1 else 0))) := by
  refine CT.of mk_J0_isEmpty_aae02 (Nat.le_of_ble_eq_true rfl) (fun g hl hD C E => ?_)
  subst hl
  subst hD
  refine j_aload_n C dJ0_isEmpty_aae02_0 rfl ?_
  refine j_svalue hi C kw_1427 dJ0_isEmpty_aae02_1 ?_
  refine j_salen hi C dJ0_isEmpty_aae02_4 ?_
  refine jv_if_ne C 12 dJ0_isEmpty_aae02_5 (by decide) (fun hc => ?_) (fun hc => ?_)
  · rw [if_pos hc] at E
    refine j_iconst C 1 dJ0_isEmpty_aae02_8 ki_1 ?_
    refine j_goto C 13 dJ0_isEmpty_aae02_9 (by decide) ?_
    exact j_tret C E rfl dJ0_isEmpty_aae02_13
  · rw [if_neg hc] at E
    refine j_iconst C 0 dJ0_isEmpty_aae02_12 ki_0 ?_
    exact j_tret C E rfl dJ0_isEmpty_aae02_13
theorem vp_in_br {x : Int32} {n : Nat} (hn : n < 2 ^ 31) (h : vp_in x n) : (¬ x < 0) ∧ x < Int32.ofNat n := by
  obtain ⟨j, hj, rfl⟩ := vp_in_of h hn
  exact ⟨nI_pos (by omega), nI_lt hj hn⟩
theorem lg3 {x y : Int32} {v : Value} (hv : v.category = 1) : (lg_sl [.int x, .int y, v]).length ≤ 3 := by cases v <;> first | exact Nat.le_of_ble_eq_true rfl | cases hv
set_option maxRecDepth 100000 in
set_option maxHeartbeats 4000000 in
theorem c_pcheck (l : Launch) (D : va_G) {x : Int32} {n : Nat} {v : Value} (hv : v.category = 1) (hn : n < 2 ^ 31) (h : vp_in x n) : CT l D yJ3_checkIndex_8e157 cJ3_checkIndex_8e157 3 (some .int) 0 [.int x, .int (Int32.ofNat n), v] [] [] (some (.int x)) := by
  refine CT.of mk_J3_checkIndex_8e157 (lg3 hv) (fun g hl hD C E => ?_)
  subst hl
  subst hD
  refine j_iload_n C dJ3_checkIndex_8e157_0 rfl ?_
  refine jv_if_lt C 9 dJ3_checkIndex_8e157_1 (by decide) (fun hc => absurd hc (vp_in_br hn h).1) (fun hc => ?_)
  refine j_iload_n C dJ3_checkIndex_8e157_4 rfl ?_
  refine j_iload_n C dJ3_checkIndex_8e157_5 rfl ?_
  refine jv_icmp_lt C 16 dJ3_checkIndex_8e157_6 (by decide) (fun hc => ?_) (fun hc => absurd (vp_in_br hn h).2 hc)
  refine j_iload_n C dJ3_checkIndex_8e157_16 rfl ?_
  exact j_iret C E dJ3_checkIndex_8e157_17
set_option maxRecDepth 100000 in
set_option maxHeartbeats 4000000 in
theorem c_scheck (l : Launch) (D : va_G) {x : Int32} {n : Nat} (hn : n < 2 ^ 31) (h : vp_in x n) : CT l D yJ0_checkIndex_df160 cJ0_checkIndex_df160 2 none 1 [.int x, .int (Int32.ofNat n)] [] [] (none) := by
  refine CT.of mk_J0_checkIndex_df160 (Nat.le_of_ble_eq_true rfl) (fun g hl hD C E => ?_)
  subst hl
  subst hD
  refine j_iload_n C dJ0_checkIndex_df160_0 rfl ?_
  refine j_iload_n C dJ0_checkIndex_df160_1 rfl ?_
  refine j_getFM C kw_374 dJ0_checkIndex_df160_2 (fun v hv => ?_)
  refine j_callS1 C mk_J3_checkIndex_8e157 ms_J3_checkIndex_8e157 kw_376 (c_pcheck (gl g) (gD g) hv hn h) (by decide) [] rfl rfl rfl rfl rfl (Nat.le_of_ble_eq_true rfl) dJ0_checkIndex_df160_5 rfl ?_
  refine j_pop C dJ0_checkIndex_df160_8 rfl ?_
  exact j_vret C E dJ0_checkIndex_df160_9
theorem slen_lt : ∀ i, i < 5 → slen i < 2 ^ 31 := by decide
theorem vp_lt {x : Int32} {n : Nat} (h : vp_in x n) : x.toNatClampNeg < n := Nat.not_le.mp fun q => h (Or.inr q)
set_option maxRecDepth 100000 in
set_option maxHeartbeats 4000000 in
theorem c_lcharAt (l : Launch) (D : va_G) {i : Nat} {x : Int32} (hi : i < 5) (h : vp_in x (slen i)) : CT l D yJ1_charAt_3b067 cJ1_charAt_3b067 2 (some .char) 2 [.ref (D.2 102 i), .int x] [] [] (some (.int (sch i x))) := by
  refine CT.of mk_J1_charAt_3b067 (Nat.le_of_ble_eq_true rfl) (fun g hl hD C E => ?_)
  subst hl
  subst hD
  refine j_iload_n C dJ1_charAt_3b067_0 rfl ?_
  refine j_aload_n C dJ1_charAt_3b067_1 rfl ?_
  refine j_salen hi C dJ1_charAt_3b067_2 ?_
  refine j_callS0 C mk_J0_checkIndex_df160 ms_J0_checkIndex_df160 kw_371 (c_scheck (gl g) (gD g) (slen_lt i hi) h) (by decide) [] rfl rfl rfl rfl rfl (Nat.le_of_ble_eq_true rfl) dJ1_charAt_3b067_3 rfl ?_
  refine j_aload_n C dJ1_charAt_3b067_6 rfl ?_
  refine j_iload_n C dJ1_charAt_3b067_7 rfl ?_
  refine j_sbald hi C h dJ1_charAt_3b067_8 ?_
  refine j_sipush C 255 dJ1_charAt_3b067_9 kc_255 ?_
  refine j_iand C dJ1_charAt_3b067_12 ?_
  refine j_i2c C dJ1_charAt_3b067_13 ?_
  have e9 : ((sch i x &&& 255).toUInt32 % 65536).toInt32 = sch i x := sch_c i hi _ (vp_lt h)
  rw [e9]
  exact j_tret C E (sch_n i hi _ (vp_lt h)) dJ1_charAt_3b067_14
set_option maxRecDepth 100000 in
set_option maxHeartbeats 4000000 in
theorem c_scharAt (l : Launch) (D : va_G) {i : Nat} {x : Int32} (hi : i < 5) (h : vp_in x (slen i)) : CT l D yJ0_charAt_5068e cJ0_charAt_5068e 2 (some .char) 3 [.ref (D.2 101 i), .int x] [] [] (some (.int (sch i x))) := by
  refine CT.of mk_J0_charAt_5068e (Nat.le_of_ble_eq_true rfl) (fun g hl hD C E => ?_)
  subst hl
  subst hD
  refine j_aload_n C dJ0_charAt_5068e_0 rfl ?_
  refine j_callT1 hi C mk_J0_isLatin1_aae02 ms_J0_isLatin1_aae02 kw_364 (c_isLatin1 (gl g) (gD g) hi) (by decide) rfl rfl rfl (Nat.le_of_ble_eq_true rfl) dJ0_charAt_5068e_1 ?_
  refine jv_if_eq C 16 dJ0_charAt_5068e_4 (by decide) (fun hc => absurd hc (by decide)) (fun hc => ?_)
  refine j_aload_n C dJ0_charAt_5068e_7 rfl ?_
  refine j_svalue hi C kw_1427 dJ0_charAt_5068e_8 ?_
  refine j_iload_n C dJ0_charAt_5068e_11 rfl ?_
  refine j_callS1 C mk_J1_charAt_3b067 ms_J1_charAt_3b067 kw_368 (c_lcharAt (gl g) (gD g) hi h) (by decide) [] rfl rfl rfl rfl rfl (Nat.le_of_ble_eq_true rfl) dJ0_charAt_5068e_12 rfl ?_
  exact j_tret C E (sch_n i hi _ (vp_lt h)) dJ0_charAt_5068e_15
