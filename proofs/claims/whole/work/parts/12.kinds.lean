theorem j_getALL {g : GT} {own : String} {cc : ByteArray} {k nL9 : Nat} {ws : va_W} {lv : List (Nat × Value)} {pc : Nat} {st : List Value} {idx : Nat} (C : Cx g own cc k nL9) (hlk : Cond.fieldLink own idx kE "ALL" "[LPostmanRounds$Kind;" ∈ lw_gd) (hdg : decode cc pc = .ok (.getstatic idx, 3)) (kk : J g ws lv (pc + 3) (.ref ((gD g).2 103 0) :: st)) : J g ws lv pc st := by
  obtain ⟨p, l, e, R, s, m, args, below, meth, c, D, A, Q, cells, slots, nL⟩ := g
  obtain ⟨rfl, hx, hb, hml, hown, hts, hK, hkf, hkl, hce, hsl, hA, hF⟩ := C
  intro H locs ls hP hD hS hl
  exact va_gets hx hb hF.2.1 hS hown (hts _ hlk) (fun _ h9 => h9) hdg (kk H locs ls hP hD hS hl)
theorem j_getK {g : GT} {own : String} {cc : ByteArray} {k nL9 : Nat} {ws : va_W} {lv : List (Nat × Value)} {pc : Nat} {st : List Value} {idx : Nat} {nm9 : String} (i : Nat) (hi : i < kN.length) (hnm : kN.getD i "" = nm9) (C : Cx g own cc k nL9) (hlk : Cond.fieldLink own idx kE nm9 "LPostmanRounds$Kind;" ∈ lw_gd) (hdg : decode cc pc = .ok (.getstatic idx, 3)) (kk : J g ws lv (pc + 3) (.ref ((gD g).2 100 i) :: st)) : J g ws lv pc st := by
  obtain ⟨p, l, e, R, s, m, args, below, meth, c, D, A, Q, cells, slots, nL⟩ := g
  obtain ⟨rfl, hx, hb, hml, hown, hts, hK, hkf, hkl, hce, hsl, hA, hF⟩ := C
  intro H locs ls hP hD hS hl
  subst hnm
  exact va_gets hx hb (hF.1.1 i hi).1 hS hown (hts _ hlk) (fun _ h9 => h9) hdg (kk H locs ls hP hD hS hl)
theorem j_lenALL {g : GT} {own : String} {cc : ByteArray} {k nL9 : Nat} {ws : va_W} {lv : List (Nat × Value)} {pc : Nat} {st : List Value} (C : Cx g own cc k nL9) (hdg : decode cc pc = .ok (.arraylength, 1)) (kk : J g ws lv (pc + 1) (.int 6 :: st)) : J g ws lv pc (.ref ((gD g).2 103 0) :: st) := by
  obtain ⟨p, l, e, R, s, m, args, below, meth, c, D, A, Q, cells, slots, nL⟩ := g
  obtain ⟨rfl, hx, hb, hml, hown, hts, hK, hkf, hkl, hce, hsl, hA, hF⟩ := C
  intro H locs ls hP hD hS hl
  exact va_tlen hx hb hF.2.2.1 hS (by decide) hdg (kk H locs ls hP hD hS hl)
theorem j_atALL {g : GT} {own : String} {cc : ByteArray} {k nL9 : Nat} {ws : va_W} {lv : List (Nat × Value)} {pc : Nat} {st : List Value} {i : Int32} (C : Cx g own cc k nL9) (hin : vp_in i 6) (hdg : decode cc pc = .ok (.aaload, 1)) (kk : J g ws lv (pc + 1) (.ref ((gD g).2 100 i.toNatClampNeg) :: st)) : J g ws lv pc (.int i :: .ref ((gD g).2 103 0) :: st) := by
  obtain ⟨p, l, e, R, s, m, args, below, meth, c, D, A, Q, cells, slots, nL⟩ := g
  obtain ⟨rfl, hx, hb, hml, hown, hts, hK, hkf, hkl, hce, hsl, hA, hF⟩ := C
  intro H locs ls hP hD hS hl
  exact vb_tq hx hb hF.2.2.1 hS hin rfl hdg (kk H locs ls hP hD hS hl)
theorem j_kget {g : GT} {own : String} {cc : ByteArray} {k nL9 : Nat} {ws : va_W} {lv : List (Nat × Value)} {pc : Nat} {st : List Value} {idx n : Nat} {nm9 d9 : String} (j : Nat) (C : Cx g own cc k nL9) (hn : n < 6) (hlk : Cond.fieldLink own idx kE nm9 d9 ∈ lw_gd) (hj : (kF.getD j ("", "", "", [])) ∈ kF ∧ (kF.getD j ("", "", "", [])).1 = kE ∧ (kF.getD j ("", "", "", [])).2.1 = nm9 ∧ (kF.getD j ("", "", "", [])).2.2.1 = d9) (hdg : decode cc pc = .ok (.getfield idx, 3)) (kk : J g ws lv (pc + 3) (.int (kfld j n) :: st)) : J g ws lv pc (.ref ((gD g).2 100 n) :: st) := by
  obtain ⟨p, l, e, R, s, m, args, below, meth, c, D, A, Q, cells, slots, nL⟩ := g
  obtain ⟨rfl, hx, hb, hml, hown, hts, hK, hkf, hkl, hce, hsl, hA, hF⟩ := C
  intro H locs ls hP hD hS hl
  obtain ⟨j1, j2, j3, j4⟩ := hj
  subst j3
  subst j4
  exact va_getE hx hb hF.1 hn hS hown j1 (hts _ hlk) (fun x h9 => by rw [j2] at h9; exact h9) hdg (kk H locs ls hP hD hS hl)
theorem kidx_in {n : Int32} (h : ¬ n < 0) (h2 : ¬ (6 : Int32) ≤ n) : vp_in n 6 ∧ kidx n = n.toNatClampNeg := by
  have a1 : ¬ n.toInt < 0 := fun z => h (Int32.lt_iff_toInt_lt.mpr (by rw [show (0 : Int32).toInt = 0 from rfl]; exact z))
  have a2 : ¬ 6 ≤ n.toInt := fun z => h2 (Int32.le_iff_toInt_le.mpr (by rw [show (6 : Int32).toInt = 6 from rfl]; exact z))
  exact ⟨vp_in_iff.mpr ⟨by omega, by omega⟩, if_pos ⟨by omega, by omega⟩⟩
theorem kidx_lo {n : Int32} (h : n < 0) : kidx n = 0 := by
  have a1 := Int32.lt_iff_toInt_lt.mp h
  rw [show (0 : Int32).toInt = 0 from rfl] at a1
  exact if_neg (fun z => by omega)
theorem kidx_hi {n : Int32} (h : (6 : Int32) ≤ n) : kidx n = 0 := by
  have a1 := Int32.le_iff_toInt_le.mp h
  rw [show (6 : Int32).toInt = 6 from rfl] at a1
  exact if_neg (fun z => by omega)
set_option maxRecDepth 100000 in
set_option maxHeartbeats 4000000 in
theorem c_X2_of (l : Launch) (D : va_G) (n : Int32) : CT l D yX2_of cX2_of 1 (some (.object "PostmanRounds$Kind")) 0 [.int n] [] [] (some (.ref (D.2 100 (kidx n)))) := by
  refine CT.of mk_X2_of (Nat.le_of_ble_eq_true rfl) (fun g hl hD C E => ?_)
  subst hl
  subst hD
  refine j_iload_n C dX2_of_0 rfl ?_
  refine jv_if_lt C 20 dX2_of_1 (by decide) (fun hc => ?_) (fun hc => ?_)
  · refine j_getK 0 (by decide) rfl C kw_515 dX2_of_20 ?_
    rw [kidx_lo hc] at E
    exact j_aret C E (Or.inl ⟨_, rfl⟩) dX2_of_23
  · refine j_iload_n C dX2_of_4 rfl ?_
    refine j_getALL C kw_513 dX2_of_5 ?_
    refine j_lenALL C dX2_of_8 ?_
    refine jv_icmp_ge C 20 dX2_of_9 (by decide) (fun hc2 => ?_) (fun hc2 => ?_)
    · refine j_getK 0 (by decide) rfl C kw_515 dX2_of_20 ?_
      rw [kidx_hi hc2] at E
      exact j_aret C E (Or.inl ⟨_, rfl⟩) dX2_of_23
    · refine j_getALL C kw_513 dX2_of_12 ?_
      refine j_iload_n C dX2_of_15 rfl ?_
      refine j_atALL C (kidx_in hc hc2).1 dX2_of_16 ?_
      refine j_goto C 23 dX2_of_17 (by decide) ?_
      rw [(kidx_in hc hc2).2] at E
      exact j_aret C E (Or.inl ⟨_, rfl⟩) dX2_of_23
set_option maxRecDepth 100000 in
set_option maxHeartbeats 4000000 in
theorem c_X2_costOn (l : Launch) (D : va_G) (n a b : Int32) : CT l D yX2_costOn cX2_costOn 3 (some .int) 0 [.ref (D.2 100 (kidx n)), .int a, .int b] [] [] (some (.int (kOn (kidx n) a b))) := by
  refine CT.of mk_X2_costOn (Nat.le_of_ble_eq_true rfl) (fun g hl hD C E => ?_)
  subst hl
  subst hD
  refine j_aload_n C dX2_costOn_0 rfl ?_
  refine j_kget 0 C (kidx_lt n) kw_1429 (by decide) dX2_costOn_1 ?_
  refine j_iload_n C dX2_costOn_4 rfl ?_
  refine j_aload_n C dX2_costOn_5 rfl ?_
  refine j_kget 1 C (kidx_lt n) kw_1430 (by decide) dX2_costOn_6 ?_
  refine j_iload_n C dX2_costOn_9 rfl ?_
  refine j_imul C dX2_costOn_10 ?_
  refine j_iadd C dX2_costOn_11 ?_
  refine j_imul C dX2_costOn_12 ?_
  exact j_iret C E dX2_costOn_13
set_option maxRecDepth 100000 in
set_option maxHeartbeats 4000000 in
theorem c_X2_costBack (l : Launch) (D : va_G) (n a b : Int32) : CT l D yX2_costBack cX2_costBack 3 (some .int) 0 [.ref (D.2 100 (kidx n)), .int a, .int b] [] [] (some (.int (kBack (kidx n) a b))) := by
  refine CT.of mk_X2_costBack (Nat.le_of_ble_eq_true rfl) (fun g hl hD C E => ?_)
  subst hl
  subst hD
  refine j_aload_n C dX2_costBack_0 rfl ?_
  refine j_kget 3 C (kidx_lt n) kw_1431 (by decide) dX2_costBack_1 ?_
  unfold kBack at E
  refine jv_if_eq C 23 dX2_costBack_4 (by decide) (fun hc => ?_) (fun hc => ?_)
  · rw [if_pos hc] at E
    refine j_ldc C kw_534 dX2_costBack_23 ?_
    exact j_iret C E dX2_costBack_25
  · rw [if_neg hc] at E
    refine j_aload_n C dX2_costBack_7 rfl ?_
    refine j_kget 0 C (kidx_lt n) kw_1429 (by decide) dX2_costBack_8 ?_
    refine j_iload_n C dX2_costBack_11 rfl ?_
    refine j_aload_n C dX2_costBack_12 rfl ?_
    refine j_kget 2 C (kidx_lt n) kw_1432 (by decide) dX2_costBack_13 ?_
    refine j_iload_n C dX2_costBack_16 rfl ?_
    refine j_imul C dX2_costBack_17 ?_
    refine j_iadd C dX2_costBack_18 ?_
    refine j_imul C dX2_costBack_19 ?_
    refine j_goto C 25 dX2_costBack_20 (by decide) ?_
    exact j_iret C E dX2_costBack_25
theorem j_callK1 {g : GT} {own : String} {cc : ByteArray} {k nL9 : Nat} {ws : va_W} {lv : List (Nat × Value)} {pc : Nat} {st st0 : List Value} {y : MethodName} {b : ByteArray} {nn na k1 idx : Nat} {ret : Option FieldType} {As : List Value} {vr : Value} {n : Int32} (C : Cx g own cc k nL9) (M : MOK y b nn ret na) (hV : Cond.instanceMethod y ∈ lw_gd ∧ Cond.selects y.cls y y ∈ lw_gd) (hlk : Cond.methodLink own idx y ∈ lw_gd) (K : CT (gl g) (gD g) y b nn ret k1 (.ref ((gD g).2 100 (kidx n)) :: As) [] [] (some vr)) (hk : k1 < k) (hy : y.cls = kE) (hna : As.length = na) (hst : st0 = As.reverse ++ .ref ((gD g).2 100 (kidx n)) :: st) (hcat : (st.map fun v => v.category).sum ≤ 8) (hdg : decode cc pc = .ok (.invokevirtual idx, 3)) (kk : J g ws lv (pc + 3) (vr :: st)) : J g ws lv pc st0 := by
  obtain ⟨p, l, e, R, s, m, args, below, meth, c, D, A, Q, cells, slots, nL⟩ := g
  obtain ⟨rfl, hx, hb, hml, hown, hts, hK, hkf, hkl, hce, hsl, hA, hF⟩ := C
  obtain ⟨M1, M2, M3, M4, M5⟩ := M
  intro H locs ls hP hD hS hl
  have hpre := j_pre (l := l) (As := .ref (D.2 100 (kidx n)) :: As) (W1 := []) (is := []) hK hP hD hS hA hF rfl rfl
  have hrc := va_recvE hF.1 (kidx_lt n) hS
  rw [← hy] at hrc
  exact j_back (l := l) (W1 := []) (W2 := []) (is := []) hP hD hS hA hl rfl rfl (va_runV (As := As) (rest := st) (g := F0 m pc ls st0) ⟨hx, hb, hml, hown, hts⟩ (K H.size)
    ⟨callB_of na hts (wsU_good M1) rfl rfl rfl (hts _ M2) (hts _ hlk) M3 ⟨by show k1 + 1 ≤ R.frames; omega, by show 8 + (nn + 11) + 40 * k1 ≤ R.locals; omega⟩, hts _ hV.1, hts _ hV.2⟩
    ⟨hpre.1, hrc, hpre.2⟩ rfl hna hl.1 hst (lv_room hcat) hdg ⟨hce, hsl⟩) kk
