def w_Jxe99ae_isNaN_b9ae7 (D : va_G) : va_W := []
theorem w_Jxe99ae_isNaN_b9ae7_a {D : va_G} : (w_Jxe99ae_isNaN_b9ae7 D).map (fun q => q.1) = [] := rfl
def f_Jxe99ae_isNaN_b9ae7 (x0 : UInt64) : Option Int32 :=
  gb (if (Op.cmpValue (FP.dcmp x0 x0) .l) = 0 then (0 : Int32) else (1 : Int32)) (some (if (Op.cmpValue (FP.dcmp x0 x0) .l) = 0 then (0 : Int32) else (1 : Int32)))
set_option maxRecDepth 100000 in
set_option maxHeartbeats 4000000 in
theorem c_Jxe99ae_isNaN_b9ae7 (l : Launch) (D : va_G) {x0 : UInt64} {o : Int32} (h : f_Jxe99ae_isNaN_b9ae7 x0 = some o) : CT l D yJxe99ae_isNaN_b9ae7 cJxe99ae_isNaN_b9ae7 2 (Option.some FieldType.boolean) 0 [.double x0] (w_Jxe99ae_isNaN_b9ae7 D) (w_Jxe99ae_isNaN_b9ae7 D) (some (.int o)) := by
  refine CT.of mk_Jxe99ae_isNaN_b9ae7 (Nat.le_of_ble_eq_true rfl) (fun g hl hD C E => ?_)
  subst hl
  subst hD
  unfold f_Jxe99ae_isNaN_b9ae7 at h
  refine j_dload_n C dJxe99ae_isNaN_b9ae7_0 rfl ?_
  refine j_dload_n C dJxe99ae_isNaN_b9ae7_1 rfl ?_
  refine j_dcmp C dJxe99ae_isNaN_b9ae7_2 ?_
  have hj_1 : J g (w_Jxe99ae_isNaN_b9ae7 (gD g)) [] 11 [.int (if (Op.cmpValue (FP.dcmp x0 x0) .l) = 0 then (0 : Int32) else (1 : Int32))] := by
    obtain ⟨hz, h⟩ := of_gb h
    have h := Option.some.inj h
    subst h
    exact j_zret C E hz.1 dJxe99ae_isNaN_b9ae7_11
  refine jv_if_eq C 10 dJxe99ae_isNaN_b9ae7_3 (by decide) (fun hc => ?_) (fun hc => ?_)
  · try simp only [if_pos hc] at hj_1
    refine j_iconst C (0) dJxe99ae_isNaN_b9ae7_10 ki_0 ?_
    exact j_lw hj_1 rfl
  · try simp only [if_neg hc] at hj_1
    refine j_iconst C (1) dJxe99ae_isNaN_b9ae7_6 ki_1 ?_
    refine j_goto C 11 dJxe99ae_isNaN_b9ae7_7 (by decide) ?_
    exact j_lw hj_1 rfl

def w_Jxe99ae_doubleToLongBits_ccdee (D : va_G) : va_W := []
theorem w_Jxe99ae_doubleToLongBits_ccdee_a {D : va_G} : (w_Jxe99ae_doubleToLongBits_ccdee D).map (fun q => q.1) = [] := rfl
def f_Jxe99ae_doubleToLongBits_ccdee (x0 : UInt64) : Option Int64 :=
  (f_Jxe99ae_isNaN_b9ae7 x0).bind (fun r_isNaN_1 => (if r_isNaN_1 = 0 then some (UInt64.toInt64 x0) else some (9221120237041090560 : Int64)))
set_option maxRecDepth 100000 in
set_option maxHeartbeats 4000000 in
theorem c_Jxe99ae_doubleToLongBits_ccdee (l : Launch) (D : va_G) {x0 : UInt64} {o : Int64} (h : f_Jxe99ae_doubleToLongBits_ccdee x0 = some o) : CT l D yJxe99ae_doubleToLongBits_ccdee cJxe99ae_doubleToLongBits_ccdee 2 (Option.some FieldType.long) 1 [.double x0] (w_Jxe99ae_doubleToLongBits_ccdee D) (w_Jxe99ae_doubleToLongBits_ccdee D) (some (.long o)) := by
  refine CT.of mk_Jxe99ae_doubleToLongBits_ccdee (Nat.le_of_ble_eq_true rfl) (fun g hl hD C E => ?_)
  subst hl
  subst hD
  unfold f_Jxe99ae_doubleToLongBits_ccdee at h
  refine j_dload_n C dJxe99ae_doubleToLongBits_ccdee_0 rfl ?_
  obtain ⟨r_isNaN_1, h_1, h⟩ := of_bind h
  refine j_callS1 C mk_Jxe99ae_isNaN_b9ae7 ms_Jxe99ae_isNaN_b9ae7 kw_1262 (c_Jxe99ae_isNaN_b9ae7 (gl g) (gD g) h_1) (by decide) [] hC_nil rfl (w_Jxe99ae_isNaN_b9ae7_a.trans w_Jxe99ae_isNaN_b9ae7_a.symm) rfl rfl (Nat.le_of_ble_eq_true rfl) dJxe99ae_doubleToLongBits_ccdee_1 wput_nil ?_
  refine j_if_ne C h 12 dJxe99ae_doubleToLongBits_ccdee_4 (by decide) (fun hc h => ?_) (fun hc h => ?_)
  · refine j_dload_n C dJxe99ae_doubleToLongBits_ccdee_7 rfl ?_
    refine j_raw_d2l C (by decide) kw_1265 kw_1267 kw_1266 kw_21 (Nat.le_of_ble_eq_true rfl) dJxe99ae_doubleToLongBits_ccdee_8 ?_
    have h := Option.some.inj h
    subst h
    exact j_lret C E dJxe99ae_doubleToLongBits_ccdee_11
  · refine j_ldc2 C kw_1268 dJxe99ae_doubleToLongBits_ccdee_12 ?_
    have h := Option.some.inj h
    subst h
    exact j_lret C E dJxe99ae_doubleToLongBits_ccdee_15

def w_Jxf58ca_isNaN_12338 (D : va_G) : va_W := []
theorem w_Jxf58ca_isNaN_12338_a {D : va_G} : (w_Jxf58ca_isNaN_12338 D).map (fun q => q.1) = [] := rfl
def f_Jxf58ca_isNaN_12338 (x0 : UInt32) : Option Int32 :=
  gb (if (Op.cmpValue (FP.fcmp x0 x0) .l) = 0 then (0 : Int32) else (1 : Int32)) (some (if (Op.cmpValue (FP.fcmp x0 x0) .l) = 0 then (0 : Int32) else (1 : Int32)))
set_option maxRecDepth 100000 in
set_option maxHeartbeats 4000000 in
theorem c_Jxf58ca_isNaN_12338 (l : Launch) (D : va_G) {x0 : UInt32} {o : Int32} (h : f_Jxf58ca_isNaN_12338 x0 = some o) : CT l D yJxf58ca_isNaN_12338 cJxf58ca_isNaN_12338 1 (Option.some FieldType.boolean) 0 [.float x0] (w_Jxf58ca_isNaN_12338 D) (w_Jxf58ca_isNaN_12338 D) (some (.int o)) := by
  refine CT.ofF mk_Jxf58ca_isNaN_12338 (Nat.le_of_ble_eq_true rfl) (fun g hl hD C E => ?_)
  subst hl
  subst hD
  unfold f_Jxf58ca_isNaN_12338 at h
  refine j_fload_n C dJxf58ca_isNaN_12338_0 rfl ?_
  refine j_fload_n C dJxf58ca_isNaN_12338_1 rfl ?_
  refine j_fcmp C dJxf58ca_isNaN_12338_2 ?_
  have hj_1 : J g (w_Jxf58ca_isNaN_12338 (gD g)) [] 11 [.int (if (Op.cmpValue (FP.fcmp x0 x0) .l) = 0 then (0 : Int32) else (1 : Int32))] := by
    obtain ⟨hz, h⟩ := of_gb h
    have h := Option.some.inj h
    subst h
    exact j_zret C E hz.1 dJxf58ca_isNaN_12338_11
  refine jv_if_eq C 10 dJxf58ca_isNaN_12338_3 (by decide) (fun hc => ?_) (fun hc => ?_)
  · try simp only [if_pos hc] at hj_1
    refine j_iconst C (0) dJxf58ca_isNaN_12338_10 ki_0 ?_
    exact j_lw hj_1 rfl
  · try simp only [if_neg hc] at hj_1
    refine j_iconst C (1) dJxf58ca_isNaN_12338_6 ki_1 ?_
    refine j_goto C 11 dJxf58ca_isNaN_12338_7 (by decide) ?_
    exact j_lw hj_1 rfl

def w_Jxf58ca_floatToIntBits_5c35a (D : va_G) : va_W := []
theorem w_Jxf58ca_floatToIntBits_5c35a_a {D : va_G} : (w_Jxf58ca_floatToIntBits_5c35a D).map (fun q => q.1) = [] := rfl
def f_Jxf58ca_floatToIntBits_5c35a (x0 : UInt32) : Option Int32 :=
  (f_Jxf58ca_isNaN_12338 x0).bind (fun r_isNaN_1 => (if r_isNaN_1 = 0 then some (UInt32.toInt32 x0) else some (2143289344 : Int32)))
set_option maxRecDepth 100000 in
set_option maxHeartbeats 4000000 in
theorem c_Jxf58ca_floatToIntBits_5c35a (l : Launch) (D : va_G) {x0 : UInt32} {o : Int32} (h : f_Jxf58ca_floatToIntBits_5c35a x0 = some o) : CT l D yJxf58ca_floatToIntBits_5c35a cJxf58ca_floatToIntBits_5c35a 1 (Option.some FieldType.int) 1 [.float x0] (w_Jxf58ca_floatToIntBits_5c35a D) (w_Jxf58ca_floatToIntBits_5c35a D) (some (.int o)) := by
  refine CT.ofF mk_Jxf58ca_floatToIntBits_5c35a (Nat.le_of_ble_eq_true rfl) (fun g hl hD C E => ?_)
  subst hl
  subst hD
  unfold f_Jxf58ca_floatToIntBits_5c35a at h
  refine j_fload_n C dJxf58ca_floatToIntBits_5c35a_0 rfl ?_
  obtain ⟨r_isNaN_1, h_1, h⟩ := of_bind h
  refine j_callSF1 C mk_Jxf58ca_isNaN_12338 ms_Jxf58ca_isNaN_12338 kw_1235 (c_Jxf58ca_isNaN_12338 (gl g) (gD g) h_1) (by decide) [] hC_nil rfl (w_Jxf58ca_isNaN_12338_a.trans w_Jxf58ca_isNaN_12338_a.symm) rfl rfl (Nat.le_of_ble_eq_true rfl) dJxf58ca_floatToIntBits_5c35a_1 wput_nil ?_
  refine j_if_ne C h 12 dJxf58ca_floatToIntBits_5c35a_4 (by decide) (fun hc h => ?_) (fun hc h => ?_)
  · refine j_fload_n C dJxf58ca_floatToIntBits_5c35a_7 rfl ?_
    refine j_raw_f2i C (by decide) kw_1238 kw_1240 kw_1239 kw_20 (Nat.le_of_ble_eq_true rfl) dJxf58ca_floatToIntBits_5c35a_8 ?_
    have h := Option.some.inj h
    subst h
    exact j_iret C E dJxf58ca_floatToIntBits_5c35a_11
  · refine j_ldc C kw_1241 dJxf58ca_floatToIntBits_5c35a_12 ?_
    have h := Option.some.inj h
    subst h
    exact j_iret C E dJxf58ca_floatToIntBits_5c35a_14

def w_Jxf58ca_compare_66c2b (D : va_G) : va_W := []
theorem w_Jxf58ca_compare_66c2b_a {D : va_G} : (w_Jxf58ca_compare_66c2b D).map (fun q => q.1) = [] := rfl
def f_Jxf58ca_compare_66c2b (x0 : UInt32) (x1 : UInt32) : Option Int32 :=
  (if 0 ≤ (Op.cmpValue (FP.fcmp x0 x1) .g) then (if (Op.cmpValue (FP.fcmp x0 x1) .l) ≤ 0 then (f_Jxf58ca_floatToIntBits_5c35a x0).bind (fun r_floatToIntBits_1 => (f_Jxf58ca_floatToIntBits_5c35a x1).bind (fun r_floatToIntBits_2 => some (if r_floatToIntBits_1 = r_floatToIntBits_2 then (0 : Int32) else (if r_floatToIntBits_2 ≤ r_floatToIntBits_1 then (1 : Int32) else (-1 : Int32))))) else some (1 : Int32)) else some (-1 : Int32))
set_option maxRecDepth 100000 in
set_option maxHeartbeats 4000000 in
theorem c_Jxf58ca_compare_66c2b (l : Launch) (D : va_G) {x0 : UInt32} {x1 : UInt32} {o : Int32} (h : f_Jxf58ca_compare_66c2b x0 x1 = some o) : CT l D yJxf58ca_compare_66c2b cJxf58ca_compare_66c2b 4 (Option.some FieldType.int) 2 [.float x0, .float x1] (w_Jxf58ca_compare_66c2b D) (w_Jxf58ca_compare_66c2b D) (some (.int o)) := by
  refine CT.ofF mk_Jxf58ca_compare_66c2b (Nat.le_of_ble_eq_true rfl) (fun g hl hD C E => ?_)
  subst hl
  subst hD
  unfold f_Jxf58ca_compare_66c2b at h
  refine j_fload_n C dJxf58ca_compare_66c2b_0 rfl ?_
  refine j_fload_n C dJxf58ca_compare_66c2b_1 rfl ?_
  refine j_fcmp C dJxf58ca_compare_66c2b_2 ?_
  refine j_if_ge C h 8 dJxf58ca_compare_66c2b_3 (by decide) (fun hc h => ?_) (fun hc h => ?_)
  · refine j_fload_n C dJxf58ca_compare_66c2b_8 rfl ?_
    refine j_fload_n C dJxf58ca_compare_66c2b_9 rfl ?_
    refine j_fcmp C dJxf58ca_compare_66c2b_10 ?_
    refine j_if_le C h 16 dJxf58ca_compare_66c2b_11 (by decide) (fun hc h => ?_) (fun hc h => ?_)
    · refine j_fload_n C dJxf58ca_compare_66c2b_16 rfl ?_
      obtain ⟨r_floatToIntBits_1, h_1, h⟩ := of_bind h
      refine j_callSF1 C mk_Jxf58ca_floatToIntBits_5c35a ms_Jxf58ca_floatToIntBits_5c35a kw_1254 (c_Jxf58ca_floatToIntBits_5c35a (gl g) (gD g) h_1) (by decide) [] hC_nil rfl (w_Jxf58ca_floatToIntBits_5c35a_a.trans w_Jxf58ca_floatToIntBits_5c35a_a.symm) rfl rfl (Nat.le_of_ble_eq_true rfl) dJxf58ca_compare_66c2b_17 wput_nil ?_
      refine j_istore_n C dJxf58ca_compare_66c2b_20 (by decide) ?_
      refine j_fload_n C dJxf58ca_compare_66c2b_21 rfl ?_
      obtain ⟨r_floatToIntBits_2, h_2, h⟩ := of_bind h
      refine j_callSF1 C mk_Jxf58ca_floatToIntBits_5c35a ms_Jxf58ca_floatToIntBits_5c35a kw_1254 (c_Jxf58ca_floatToIntBits_5c35a (gl g) (gD g) h_2) (by decide) [] hC_nil rfl (w_Jxf58ca_floatToIntBits_5c35a_a.trans w_Jxf58ca_floatToIntBits_5c35a_a.symm) rfl rfl (Nat.le_of_ble_eq_true rfl) dJxf58ca_compare_66c2b_22 wput_nil ?_
      refine j_istore_n C dJxf58ca_compare_66c2b_25 (by decide) ?_
      refine j_iload_n C dJxf58ca_compare_66c2b_26 rfl ?_
      refine j_iload_n C dJxf58ca_compare_66c2b_27 rfl ?_
      have hj_3 : J g (w_Jxf58ca_compare_66c2b (gD g)) [] 45 [.int (if r_floatToIntBits_1 = r_floatToIntBits_2 then (0 : Int32) else (if r_floatToIntBits_2 ≤ r_floatToIntBits_1 then (1 : Int32) else (-1 : Int32)))] := by
        have h := Option.some.inj h
        subst h
        exact j_iret C E dJxf58ca_compare_66c2b_45
      refine jv_icmp_ne C 35 dJxf58ca_compare_66c2b_28 (by decide) (fun hc => ?_) (fun hc => ?_)
      · try simp only [if_pos hc] at hj_3
        refine j_iconst C (0) dJxf58ca_compare_66c2b_31 ki_0 ?_
        refine j_goto C 45 dJxf58ca_compare_66c2b_32 (by decide) ?_
        exact j_lw hj_3 rfl
      · try simp only [if_neg hc] at hj_3
        refine j_iload_n C dJxf58ca_compare_66c2b_35 rfl ?_
        refine j_iload_n C dJxf58ca_compare_66c2b_36 rfl ?_
        refine jv_icmp_ge C 44 dJxf58ca_compare_66c2b_37 (by decide) (fun hc => ?_) (fun hc => ?_)
        · try simp only [if_pos hc] at hj_3
          refine j_iconst C (1) dJxf58ca_compare_66c2b_44 ki_1 ?_
          exact j_lw hj_3 rfl
        · try simp only [if_neg hc] at hj_3
          refine j_iconst C (-1) dJxf58ca_compare_66c2b_40 ki_m1 ?_
          refine j_goto C 45 dJxf58ca_compare_66c2b_41 (by decide) ?_
          exact j_lw hj_3 rfl
    · refine j_iconst C (1) dJxf58ca_compare_66c2b_14 ki_1 ?_
      have h := Option.some.inj h
      subst h
      exact j_iret C E dJxf58ca_compare_66c2b_15
  · refine j_iconst C (-1) dJxf58ca_compare_66c2b_6 ki_m1 ?_
    have h := Option.some.inj h
    subst h
    exact j_iret C E dJxf58ca_compare_66c2b_7

def w_X10_timeBy (D : va_G) (q_this q_now q_steps : Nat) (w_kept w_trial w_refusals w_row w_letters w_dists w_left w_partners w_times w_spliced w_piece w_balances w_prices w_hands w_hand w_dealing : Value) (v_hasImage : Int32) (v_rows : Int32) (v_lettered : Int32) (v_stepsMany : Int32) (v_splicedMany : Int32) (v_most : Int32) (v_together : Int32) (v_z : Int32) (v_now : (Nat → Int32)) (v_steps : (Nat → Int32)) : va_W := [(q_this, .inr (9, [.ref q_now, w_kept, w_trial, .int v_hasImage, w_refusals, w_row, .int v_rows, w_letters, .int v_lettered, w_dists, w_left, .ref q_steps, .int v_stepsMany, w_partners, w_times, w_spliced, .int v_splicedMany, w_piece, w_balances, w_prices, w_hands, w_hand, w_dealing, .int v_most, .int v_together, .int v_z])), (q_now, .inl (D.1 100, 50, .inl v_now)), (q_steps, .inl (D.1 100, 64, .inl v_steps))]
theorem w_X10_timeBy_g0 {D : va_G} {q_this : Nat} {q_now : Nat} {q_steps : Nat} {w_kept : Value} {w_trial : Value} {w_refusals : Value} {w_row : Value} {w_letters : Value} {w_dists : Value} {w_left : Value} {w_partners : Value} {w_times : Value} {w_spliced : Value} {w_piece : Value} {w_balances : Value} {w_prices : Value} {w_hands : Value} {w_hand : Value} {w_dealing : Value} {v_hasImage : Int32} {v_rows : Int32} {v_lettered : Int32} {v_stepsMany : Int32} {v_splicedMany : Int32} {v_most : Int32} {v_together : Int32} {v_z : Int32} {v_now : (Nat → Int32)} {v_steps : (Nat → Int32)} : (w_X10_timeBy D q_this q_now q_steps w_kept w_trial w_refusals w_row w_letters w_dists w_left w_partners w_times w_spliced w_piece w_balances w_prices w_hands w_hand w_dealing v_hasImage v_rows v_lettered v_stepsMany v_splicedMany v_most v_together v_z v_now v_steps)[0]? = some (q_this, .inr (9, [.ref q_now, w_kept, w_trial, .int v_hasImage, w_refusals, w_row, .int v_rows, w_letters, .int v_lettered, w_dists, w_left, .ref q_steps, .int v_stepsMany, w_partners, w_times, w_spliced, .int v_splicedMany, w_piece, w_balances, w_prices, w_hands, w_hand, w_dealing, .int v_most, .int v_together, .int v_z])) := rfl
theorem w_X10_timeBy_s0 {D : va_G} {q_this : Nat} {q_now : Nat} {q_steps : Nat} {w_kept : Value} {w_trial : Value} {w_refusals : Value} {w_row : Value} {w_letters : Value} {w_dists : Value} {w_left : Value} {w_partners : Value} {w_times : Value} {w_spliced : Value} {w_piece : Value} {w_balances : Value} {w_prices : Value} {w_hands : Value} {w_hand : Value} {w_dealing : Value} {v_hasImage : Int32} {v_rows : Int32} {v_lettered : Int32} {v_stepsMany : Int32} {v_splicedMany : Int32} {v_most : Int32} {v_together : Int32} {v_z : Int32} {v_now : (Nat → Int32)} {v_steps : (Nat → Int32)} {v_hasImage' : Int32} {v_rows' : Int32} {v_lettered' : Int32} {v_stepsMany' : Int32} {v_splicedMany' : Int32} {v_most' : Int32} {v_together' : Int32} {v_z' : Int32} : (w_X10_timeBy D q_this q_now q_steps w_kept w_trial w_refusals w_row w_letters w_dists w_left w_partners w_times w_spliced w_piece w_balances w_prices w_hands w_hand w_dealing v_hasImage v_rows v_lettered v_stepsMany v_splicedMany v_most v_together v_z v_now v_steps).set 0 (q_this, .inr (9, [.ref q_now, w_kept, w_trial, .int v_hasImage', w_refusals, w_row, .int v_rows', w_letters, .int v_lettered', w_dists, w_left, .ref q_steps, .int v_stepsMany', w_partners, w_times, w_spliced, .int v_splicedMany', w_piece, w_balances, w_prices, w_hands, w_hand, w_dealing, .int v_most', .int v_together', .int v_z'])) = (w_X10_timeBy D q_this q_now q_steps w_kept w_trial w_refusals w_row w_letters w_dists w_left w_partners w_times w_spliced w_piece w_balances w_prices w_hands w_hand w_dealing v_hasImage' v_rows' v_lettered' v_stepsMany' v_splicedMany' v_most' v_together' v_z' v_now v_steps) := rfl
theorem w_X10_timeBy_g1 {D : va_G} {q_this : Nat} {q_now : Nat} {q_steps : Nat} {w_kept : Value} {w_trial : Value} {w_refusals : Value} {w_row : Value} {w_letters : Value} {w_dists : Value} {w_left : Value} {w_partners : Value} {w_times : Value} {w_spliced : Value} {w_piece : Value} {w_balances : Value} {w_prices : Value} {w_hands : Value} {w_hand : Value} {w_dealing : Value} {v_hasImage : Int32} {v_rows : Int32} {v_lettered : Int32} {v_stepsMany : Int32} {v_splicedMany : Int32} {v_most : Int32} {v_together : Int32} {v_z : Int32} {v_now : (Nat → Int32)} {v_steps : (Nat → Int32)} : (w_X10_timeBy D q_this q_now q_steps w_kept w_trial w_refusals w_row w_letters w_dists w_left w_partners w_times w_spliced w_piece w_balances w_prices w_hands w_hand w_dealing v_hasImage v_rows v_lettered v_stepsMany v_splicedMany v_most v_together v_z v_now v_steps)[1]? = some (q_now, .inl (D.1 100, 50, .inl v_now)) := rfl
theorem w_X10_timeBy_s1 {D : va_G} {q_this : Nat} {q_now : Nat} {q_steps : Nat} {w_kept : Value} {w_trial : Value} {w_refusals : Value} {w_row : Value} {w_letters : Value} {w_dists : Value} {w_left : Value} {w_partners : Value} {w_times : Value} {w_spliced : Value} {w_piece : Value} {w_balances : Value} {w_prices : Value} {w_hands : Value} {w_hand : Value} {w_dealing : Value} {v_hasImage : Int32} {v_rows : Int32} {v_lettered : Int32} {v_stepsMany : Int32} {v_splicedMany : Int32} {v_most : Int32} {v_together : Int32} {v_z : Int32} {v_now : (Nat → Int32)} {v_steps : (Nat → Int32)} {v_now' : (Nat → Int32)} : (w_X10_timeBy D q_this q_now q_steps w_kept w_trial w_refusals w_row w_letters w_dists w_left w_partners w_times w_spliced w_piece w_balances w_prices w_hands w_hand w_dealing v_hasImage v_rows v_lettered v_stepsMany v_splicedMany v_most v_together v_z v_now v_steps).set 1 (q_now, .inl (D.1 100, 50, .inl v_now')) = (w_X10_timeBy D q_this q_now q_steps w_kept w_trial w_refusals w_row w_letters w_dists w_left w_partners w_times w_spliced w_piece w_balances w_prices w_hands w_hand w_dealing v_hasImage v_rows v_lettered v_stepsMany v_splicedMany v_most v_together v_z v_now' v_steps) := rfl
theorem w_X10_timeBy_g2 {D : va_G} {q_this : Nat} {q_now : Nat} {q_steps : Nat} {w_kept : Value} {w_trial : Value} {w_refusals : Value} {w_row : Value} {w_letters : Value} {w_dists : Value} {w_left : Value} {w_partners : Value} {w_times : Value} {w_spliced : Value} {w_piece : Value} {w_balances : Value} {w_prices : Value} {w_hands : Value} {w_hand : Value} {w_dealing : Value} {v_hasImage : Int32} {v_rows : Int32} {v_lettered : Int32} {v_stepsMany : Int32} {v_splicedMany : Int32} {v_most : Int32} {v_together : Int32} {v_z : Int32} {v_now : (Nat → Int32)} {v_steps : (Nat → Int32)} : (w_X10_timeBy D q_this q_now q_steps w_kept w_trial w_refusals w_row w_letters w_dists w_left w_partners w_times w_spliced w_piece w_balances w_prices w_hands w_hand w_dealing v_hasImage v_rows v_lettered v_stepsMany v_splicedMany v_most v_together v_z v_now v_steps)[2]? = some (q_steps, .inl (D.1 100, 64, .inl v_steps)) := rfl
theorem w_X10_timeBy_s2 {D : va_G} {q_this : Nat} {q_now : Nat} {q_steps : Nat} {w_kept : Value} {w_trial : Value} {w_refusals : Value} {w_row : Value} {w_letters : Value} {w_dists : Value} {w_left : Value} {w_partners : Value} {w_times : Value} {w_spliced : Value} {w_piece : Value} {w_balances : Value} {w_prices : Value} {w_hands : Value} {w_hand : Value} {w_dealing : Value} {v_hasImage : Int32} {v_rows : Int32} {v_lettered : Int32} {v_stepsMany : Int32} {v_splicedMany : Int32} {v_most : Int32} {v_together : Int32} {v_z : Int32} {v_now : (Nat → Int32)} {v_steps : (Nat → Int32)} {v_steps' : (Nat → Int32)} : (w_X10_timeBy D q_this q_now q_steps w_kept w_trial w_refusals w_row w_letters w_dists w_left w_partners w_times w_spliced w_piece w_balances w_prices w_hands w_hand w_dealing v_hasImage v_rows v_lettered v_stepsMany v_splicedMany v_most v_together v_z v_now v_steps).set 2 (q_steps, .inl (D.1 100, 64, .inl v_steps')) = (w_X10_timeBy D q_this q_now q_steps w_kept w_trial w_refusals w_row w_letters w_dists w_left w_partners w_times w_spliced w_piece w_balances w_prices w_hands w_hand w_dealing v_hasImage v_rows v_lettered v_stepsMany v_splicedMany v_most v_together v_z v_now v_steps') := rfl
theorem w_X10_timeBy_a {D : va_G} {q_this : Nat} {q_now : Nat} {q_steps : Nat} {w_kept : Value} {w_trial : Value} {w_refusals : Value} {w_row : Value} {w_letters : Value} {w_dists : Value} {w_left : Value} {w_partners : Value} {w_times : Value} {w_spliced : Value} {w_piece : Value} {w_balances : Value} {w_prices : Value} {w_hands : Value} {w_hand : Value} {w_dealing : Value} {v_hasImage : Int32} {v_rows : Int32} {v_lettered : Int32} {v_stepsMany : Int32} {v_splicedMany : Int32} {v_most : Int32} {v_together : Int32} {v_z : Int32} {v_now : (Nat → Int32)} {v_steps : (Nat → Int32)} : (w_X10_timeBy D q_this q_now q_steps w_kept w_trial w_refusals w_row w_letters w_dists w_left w_partners w_times w_spliced w_piece w_balances w_prices w_hands w_hand w_dealing v_hasImage v_rows v_lettered v_stepsMany v_splicedMany v_most v_together v_z v_now v_steps).map (fun q => q.1) = [q_this, q_now, q_steps] := rfl
def f_X10_timeBy_b12 (v_stepsMany : Int32) (x5_12 : Int32) (x4_12 : UInt32) (v_steps : (Nat → Int32)) (v_now : (Nat → Int32)) (x1 : Int32) (x2 : Int32) : Option ((UInt32 × Int32) ⊕ UInt32) :=
  (if v_stepsMany ≤ x5_12 then some (.inr x4_12) else ga x5_12 64 ((f_X10_cost (v_steps (Int32.toNatClampNeg x5_12)) v_now).bind (fun r_cost_1 => gf (FP.fdiv (FP.i2f r_cost_1) (FP.fdiv (FP.i2f x1) (FP.i2f x2))) (gf (FP.fadd x4_12 (FP.fdiv (FP.i2f r_cost_1) (FP.fdiv (FP.i2f x1) (FP.i2f x2)))) (some (.inl (FP.fadd x4_12 (FP.fdiv (FP.i2f r_cost_1) (FP.fdiv (FP.i2f x1) (FP.i2f x2))), x5_12 + (1 : Int32))))))))
def f_X10_timeBy (N : Nat) (x1 : Int32) (x2 : Int32) (v_stepsMany : Int32) (v_now : (Nat → Int32)) (v_steps : (Nat → Int32)) : Option UInt32 :=
  gf (FP.fdiv (FP.i2f x1) (FP.i2f x2)) ((lp (fun s_12 => f_X10_timeBy_b12 v_stepsMany s_12.2 s_12.1 v_steps v_now x1 x2) N (FP.fconst0, (0 : Int32))).bind (fun e_12 => some e_12))
set_option maxRecDepth 100000 in
set_option maxHeartbeats 4000000 in
theorem c_X10_timeBy (l : Launch) (D : va_G) (N : Nat) {q_this q_now q_steps : Nat} {w_kept w_trial w_refusals w_row w_letters w_dists w_left w_partners w_times w_spliced w_piece w_balances w_prices w_hands w_hand w_dealing : Value} {v_hasImage : Int32} {v_rows : Int32} {v_lettered : Int32} {v_stepsMany : Int32} {v_splicedMany : Int32} {v_most : Int32} {v_together : Int32} {v_z : Int32} {v_now : (Nat → Int32)} {v_steps : (Nat → Int32)} {x1 : Int32} {x2 : Int32} {o : UInt32} (h : f_X10_timeBy N x1 x2 v_stepsMany v_now v_steps = some o) : CT l D yX10_timeBy cX10_timeBy 6 (Option.some FieldType.float) 1 [.ref q_this, .int x1, .int x2] (w_X10_timeBy D q_this q_now q_steps w_kept w_trial w_refusals w_row w_letters w_dists w_left w_partners w_times w_spliced w_piece w_balances w_prices w_hands w_hand w_dealing v_hasImage v_rows v_lettered v_stepsMany v_splicedMany v_most v_together v_z v_now v_steps) (w_X10_timeBy D q_this q_now q_steps w_kept w_trial w_refusals w_row w_letters w_dists w_left w_partners w_times w_spliced w_piece w_balances w_prices w_hands w_hand w_dealing v_hasImage v_rows v_lettered v_stepsMany v_splicedMany v_most v_together v_z v_now v_steps) (some (.float o)) := by
  refine CT.of mk_X10_timeBy (Nat.le_of_ble_eq_true rfl) (fun g hl hD C E => ?_)
  subst hl
  subst hD
  unfold f_X10_timeBy at h
  refine j_iload_n C dX10_timeBy_0 rfl ?_
  refine j_i2f C dX10_timeBy_1 ?_
  refine j_iload_n C dX10_timeBy_2 rfl ?_
  refine j_i2f C dX10_timeBy_3 ?_
  refine j_fdiv C h dX10_timeBy_4 (fun h => ?_)
  refine j_fstore_n C dX10_timeBy_5 (by decide) ?_
  refine j_fconst0 C dX10_timeBy_6 ?_
  refine j_fstore C dX10_timeBy_7 (by decide) ?_
  refine j_iconst C (0) dX10_timeBy_9 ki_0 ?_
  refine j_istore C dX10_timeBy_10 (by decide) ?_
  obtain ⟨e_12, hl_12, h⟩ := of_bind h
  have ha_12 : J g (w_X10_timeBy (gD g) q_this q_now q_steps w_kept w_trial w_refusals w_row w_letters w_dists w_left w_partners w_times w_spliced w_piece w_balances w_prices w_hands w_hand w_dealing v_hasImage v_rows v_lettered v_stepsMany v_splicedMany v_most v_together v_z v_now v_steps) [(4, .float (e_12))] 49 [] := by
    refine j_fload C dX10_timeBy_49 rfl ?_
    have h := Option.some.inj h
    subst h
    exact j_fret C E dX10_timeBy_51
  refine j_lv (lv' := [(0, .ref q_this), (3, .float (FP.fdiv (FP.i2f x1) (FP.i2f x2))), (4, .float (FP.fconst0)), (5, .int ((0 : Int32)))]) rfl ?_
  refine lp_ind hl_12 (fun s_12 => J g (w_X10_timeBy (gD g) q_this q_now q_steps w_kept w_trial w_refusals w_row w_letters w_dists w_left w_partners w_times w_spliced w_piece w_balances w_prices w_hands w_hand w_dealing v_hasImage v_rows v_lettered v_stepsMany v_splicedMany v_most v_together v_z v_now v_steps) [(0, .ref q_this), (3, .float (FP.fdiv (FP.i2f x1) (FP.i2f x2))), (4, .float (s_12.1)), (5, .int (s_12.2))] 12 []) (fun s_12 r_12 h hc_12 hx_12 => ?_)
  unfold f_X10_timeBy_b12 at h
  refine j_iload C dX10_timeBy_12 rfl ?_
  refine j_aload_n C dX10_timeBy_14 rfl ?_
  refine j_get C 0 w_X10_timeBy_g0 rfl inX10 12 (by decide) kw_993 rfl rfl dX10_timeBy_15 ?_
  refine j_icmp_ge C h 49 dX10_timeBy_18 (by decide) (fun hc h => ?_) (fun hc h => ?_)
  · have h := Option.some.inj h
    subst h
    have h9 := hx_12 _ rfl
    subst h9
    exact j_lw ha_12 rfl
  · refine j_fload C dX10_timeBy_21 rfl ?_
    refine j_aload_n C dX10_timeBy_23 rfl ?_
    refine j_get C 0 w_X10_timeBy_g0 rfl inX10 0 (by decide) kw_981 rfl rfl dX10_timeBy_24 ?_
    refine j_aload_n C dX10_timeBy_27 rfl ?_
    refine j_get C 0 w_X10_timeBy_g0 rfl inX10 11 (by decide) kw_992 rfl rfl dX10_timeBy_28 ?_
    refine j_iload C dX10_timeBy_31 rfl ?_
    refine j_iaload 2 C h w_X10_timeBy_g2 rfl dX10_timeBy_33 (fun h => ?_)
    obtain ⟨r_cost_1, h_1, h⟩ := of_bind h
    refine j_callS1 C mk_X10_cost ms_X10_cost kw_1142 (c_X10_cost (gl g) (gD g) h_1) (by decide) [1] (hC_cons w_X10_timeBy_g1 hC_nil) rfl (w_X10_cost_a.trans w_X10_cost_a.symm) rfl rfl (Nat.le_of_ble_eq_true rfl) dX10_timeBy_34 (wput_cons w_X10_timeBy_s1 wput_nil) ?_
    refine j_i2f C dX10_timeBy_37 ?_
    refine j_fload_n C dX10_timeBy_38 rfl ?_
    refine j_fdiv C h dX10_timeBy_39 (fun h => ?_)
    refine j_fadd C h dX10_timeBy_40 (fun h => ?_)
    refine j_fstore C dX10_timeBy_41 (by decide) ?_
    refine j_inc C (1) dX10_timeBy_43 rfl ki_1 (by decide) ?_
    refine j_goto C 12 dX10_timeBy_46 (by decide) ?_
    have h := Option.some.inj h
    subst h
    have hc9 := hc_12 _ rfl
    exact j_lw hc9 rfl

def w_X10_time (D : va_G) (q_this q_now q_left q_steps : Nat) (w_kept w_trial w_refusals w_row w_letters w_dists w_partners w_times w_spliced w_piece w_balances w_prices w_hands w_hand w_dealing : Value) (v_hasImage : Int32) (v_rows : Int32) (v_lettered : Int32) (v_stepsMany : Int32) (v_splicedMany : Int32) (v_most : Int32) (v_together : Int32) (v_z : Int32) (v_now : (Nat → Int32)) (v_left : (Nat → Int32)) (v_steps : (Nat → Int32)) : va_W := [(q_this, .inr (9, [.ref q_now, w_kept, w_trial, .int v_hasImage, w_refusals, w_row, .int v_rows, w_letters, .int v_lettered, w_dists, .ref q_left, .ref q_steps, .int v_stepsMany, w_partners, w_times, w_spliced, .int v_splicedMany, w_piece, w_balances, w_prices, w_hands, w_hand, w_dealing, .int v_most, .int v_together, .int v_z])), (q_now, .inl (D.1 100, 50, .inl v_now)), (q_left, .inl (D.1 100, 1536, .inl v_left)), (q_steps, .inl (D.1 100, 64, .inl v_steps))]
theorem w_X10_time_g0 {D : va_G} {q_this : Nat} {q_now : Nat} {q_left : Nat} {q_steps : Nat} {w_kept : Value} {w_trial : Value} {w_refusals : Value} {w_row : Value} {w_letters : Value} {w_dists : Value} {w_partners : Value} {w_times : Value} {w_spliced : Value} {w_piece : Value} {w_balances : Value} {w_prices : Value} {w_hands : Value} {w_hand : Value} {w_dealing : Value} {v_hasImage : Int32} {v_rows : Int32} {v_lettered : Int32} {v_stepsMany : Int32} {v_splicedMany : Int32} {v_most : Int32} {v_together : Int32} {v_z : Int32} {v_now : (Nat → Int32)} {v_left : (Nat → Int32)} {v_steps : (Nat → Int32)} : (w_X10_time D q_this q_now q_left q_steps w_kept w_trial w_refusals w_row w_letters w_dists w_partners w_times w_spliced w_piece w_balances w_prices w_hands w_hand w_dealing v_hasImage v_rows v_lettered v_stepsMany v_splicedMany v_most v_together v_z v_now v_left v_steps)[0]? = some (q_this, .inr (9, [.ref q_now, w_kept, w_trial, .int v_hasImage, w_refusals, w_row, .int v_rows, w_letters, .int v_lettered, w_dists, .ref q_left, .ref q_steps, .int v_stepsMany, w_partners, w_times, w_spliced, .int v_splicedMany, w_piece, w_balances, w_prices, w_hands, w_hand, w_dealing, .int v_most, .int v_together, .int v_z])) := rfl
theorem w_X10_time_s0 {D : va_G} {q_this : Nat} {q_now : Nat} {q_left : Nat} {q_steps : Nat} {w_kept : Value} {w_trial : Value} {w_refusals : Value} {w_row : Value} {w_letters : Value} {w_dists : Value} {w_partners : Value} {w_times : Value} {w_spliced : Value} {w_piece : Value} {w_balances : Value} {w_prices : Value} {w_hands : Value} {w_hand : Value} {w_dealing : Value} {v_hasImage : Int32} {v_rows : Int32} {v_lettered : Int32} {v_stepsMany : Int32} {v_splicedMany : Int32} {v_most : Int32} {v_together : Int32} {v_z : Int32} {v_now : (Nat → Int32)} {v_left : (Nat → Int32)} {v_steps : (Nat → Int32)} {v_hasImage' : Int32} {v_rows' : Int32} {v_lettered' : Int32} {v_stepsMany' : Int32} {v_splicedMany' : Int32} {v_most' : Int32} {v_together' : Int32} {v_z' : Int32} : (w_X10_time D q_this q_now q_left q_steps w_kept w_trial w_refusals w_row w_letters w_dists w_partners w_times w_spliced w_piece w_balances w_prices w_hands w_hand w_dealing v_hasImage v_rows v_lettered v_stepsMany v_splicedMany v_most v_together v_z v_now v_left v_steps).set 0 (q_this, .inr (9, [.ref q_now, w_kept, w_trial, .int v_hasImage', w_refusals, w_row, .int v_rows', w_letters, .int v_lettered', w_dists, .ref q_left, .ref q_steps, .int v_stepsMany', w_partners, w_times, w_spliced, .int v_splicedMany', w_piece, w_balances, w_prices, w_hands, w_hand, w_dealing, .int v_most', .int v_together', .int v_z'])) = (w_X10_time D q_this q_now q_left q_steps w_kept w_trial w_refusals w_row w_letters w_dists w_partners w_times w_spliced w_piece w_balances w_prices w_hands w_hand w_dealing v_hasImage' v_rows' v_lettered' v_stepsMany' v_splicedMany' v_most' v_together' v_z' v_now v_left v_steps) := rfl
theorem w_X10_time_g1 {D : va_G} {q_this : Nat} {q_now : Nat} {q_left : Nat} {q_steps : Nat} {w_kept : Value} {w_trial : Value} {w_refusals : Value} {w_row : Value} {w_letters : Value} {w_dists : Value} {w_partners : Value} {w_times : Value} {w_spliced : Value} {w_piece : Value} {w_balances : Value} {w_prices : Value} {w_hands : Value} {w_hand : Value} {w_dealing : Value} {v_hasImage : Int32} {v_rows : Int32} {v_lettered : Int32} {v_stepsMany : Int32} {v_splicedMany : Int32} {v_most : Int32} {v_together : Int32} {v_z : Int32} {v_now : (Nat → Int32)} {v_left : (Nat → Int32)} {v_steps : (Nat → Int32)} : (w_X10_time D q_this q_now q_left q_steps w_kept w_trial w_refusals w_row w_letters w_dists w_partners w_times w_spliced w_piece w_balances w_prices w_hands w_hand w_dealing v_hasImage v_rows v_lettered v_stepsMany v_splicedMany v_most v_together v_z v_now v_left v_steps)[1]? = some (q_now, .inl (D.1 100, 50, .inl v_now)) := rfl
theorem w_X10_time_s1 {D : va_G} {q_this : Nat} {q_now : Nat} {q_left : Nat} {q_steps : Nat} {w_kept : Value} {w_trial : Value} {w_refusals : Value} {w_row : Value} {w_letters : Value} {w_dists : Value} {w_partners : Value} {w_times : Value} {w_spliced : Value} {w_piece : Value} {w_balances : Value} {w_prices : Value} {w_hands : Value} {w_hand : Value} {w_dealing : Value} {v_hasImage : Int32} {v_rows : Int32} {v_lettered : Int32} {v_stepsMany : Int32} {v_splicedMany : Int32} {v_most : Int32} {v_together : Int32} {v_z : Int32} {v_now : (Nat → Int32)} {v_left : (Nat → Int32)} {v_steps : (Nat → Int32)} {v_now' : (Nat → Int32)} : (w_X10_time D q_this q_now q_left q_steps w_kept w_trial w_refusals w_row w_letters w_dists w_partners w_times w_spliced w_piece w_balances w_prices w_hands w_hand w_dealing v_hasImage v_rows v_lettered v_stepsMany v_splicedMany v_most v_together v_z v_now v_left v_steps).set 1 (q_now, .inl (D.1 100, 50, .inl v_now')) = (w_X10_time D q_this q_now q_left q_steps w_kept w_trial w_refusals w_row w_letters w_dists w_partners w_times w_spliced w_piece w_balances w_prices w_hands w_hand w_dealing v_hasImage v_rows v_lettered v_stepsMany v_splicedMany v_most v_together v_z v_now' v_left v_steps) := rfl
theorem w_X10_time_g2 {D : va_G} {q_this : Nat} {q_now : Nat} {q_left : Nat} {q_steps : Nat} {w_kept : Value} {w_trial : Value} {w_refusals : Value} {w_row : Value} {w_letters : Value} {w_dists : Value} {w_partners : Value} {w_times : Value} {w_spliced : Value} {w_piece : Value} {w_balances : Value} {w_prices : Value} {w_hands : Value} {w_hand : Value} {w_dealing : Value} {v_hasImage : Int32} {v_rows : Int32} {v_lettered : Int32} {v_stepsMany : Int32} {v_splicedMany : Int32} {v_most : Int32} {v_together : Int32} {v_z : Int32} {v_now : (Nat → Int32)} {v_left : (Nat → Int32)} {v_steps : (Nat → Int32)} : (w_X10_time D q_this q_now q_left q_steps w_kept w_trial w_refusals w_row w_letters w_dists w_partners w_times w_spliced w_piece w_balances w_prices w_hands w_hand w_dealing v_hasImage v_rows v_lettered v_stepsMany v_splicedMany v_most v_together v_z v_now v_left v_steps)[2]? = some (q_left, .inl (D.1 100, 1536, .inl v_left)) := rfl
theorem w_X10_time_s2 {D : va_G} {q_this : Nat} {q_now : Nat} {q_left : Nat} {q_steps : Nat} {w_kept : Value} {w_trial : Value} {w_refusals : Value} {w_row : Value} {w_letters : Value} {w_dists : Value} {w_partners : Value} {w_times : Value} {w_spliced : Value} {w_piece : Value} {w_balances : Value} {w_prices : Value} {w_hands : Value} {w_hand : Value} {w_dealing : Value} {v_hasImage : Int32} {v_rows : Int32} {v_lettered : Int32} {v_stepsMany : Int32} {v_splicedMany : Int32} {v_most : Int32} {v_together : Int32} {v_z : Int32} {v_now : (Nat → Int32)} {v_left : (Nat → Int32)} {v_steps : (Nat → Int32)} {v_left' : (Nat → Int32)} : (w_X10_time D q_this q_now q_left q_steps w_kept w_trial w_refusals w_row w_letters w_dists w_partners w_times w_spliced w_piece w_balances w_prices w_hands w_hand w_dealing v_hasImage v_rows v_lettered v_stepsMany v_splicedMany v_most v_together v_z v_now v_left v_steps).set 2 (q_left, .inl (D.1 100, 1536, .inl v_left')) = (w_X10_time D q_this q_now q_left q_steps w_kept w_trial w_refusals w_row w_letters w_dists w_partners w_times w_spliced w_piece w_balances w_prices w_hands w_hand w_dealing v_hasImage v_rows v_lettered v_stepsMany v_splicedMany v_most v_together v_z v_now v_left' v_steps) := rfl
theorem w_X10_time_g3 {D : va_G} {q_this : Nat} {q_now : Nat} {q_left : Nat} {q_steps : Nat} {w_kept : Value} {w_trial : Value} {w_refusals : Value} {w_row : Value} {w_letters : Value} {w_dists : Value} {w_partners : Value} {w_times : Value} {w_spliced : Value} {w_piece : Value} {w_balances : Value} {w_prices : Value} {w_hands : Value} {w_hand : Value} {w_dealing : Value} {v_hasImage : Int32} {v_rows : Int32} {v_lettered : Int32} {v_stepsMany : Int32} {v_splicedMany : Int32} {v_most : Int32} {v_together : Int32} {v_z : Int32} {v_now : (Nat → Int32)} {v_left : (Nat → Int32)} {v_steps : (Nat → Int32)} : (w_X10_time D q_this q_now q_left q_steps w_kept w_trial w_refusals w_row w_letters w_dists w_partners w_times w_spliced w_piece w_balances w_prices w_hands w_hand w_dealing v_hasImage v_rows v_lettered v_stepsMany v_splicedMany v_most v_together v_z v_now v_left v_steps)[3]? = some (q_steps, .inl (D.1 100, 64, .inl v_steps)) := rfl
theorem w_X10_time_s3 {D : va_G} {q_this : Nat} {q_now : Nat} {q_left : Nat} {q_steps : Nat} {w_kept : Value} {w_trial : Value} {w_refusals : Value} {w_row : Value} {w_letters : Value} {w_dists : Value} {w_partners : Value} {w_times : Value} {w_spliced : Value} {w_piece : Value} {w_balances : Value} {w_prices : Value} {w_hands : Value} {w_hand : Value} {w_dealing : Value} {v_hasImage : Int32} {v_rows : Int32} {v_lettered : Int32} {v_stepsMany : Int32} {v_splicedMany : Int32} {v_most : Int32} {v_together : Int32} {v_z : Int32} {v_now : (Nat → Int32)} {v_left : (Nat → Int32)} {v_steps : (Nat → Int32)} {v_steps' : (Nat → Int32)} : (w_X10_time D q_this q_now q_left q_steps w_kept w_trial w_refusals w_row w_letters w_dists w_partners w_times w_spliced w_piece w_balances w_prices w_hands w_hand w_dealing v_hasImage v_rows v_lettered v_stepsMany v_splicedMany v_most v_together v_z v_now v_left v_steps).set 3 (q_steps, .inl (D.1 100, 64, .inl v_steps')) = (w_X10_time D q_this q_now q_left q_steps w_kept w_trial w_refusals w_row w_letters w_dists w_partners w_times w_spliced w_piece w_balances w_prices w_hands w_hand w_dealing v_hasImage v_rows v_lettered v_stepsMany v_splicedMany v_most v_together v_z v_now v_left v_steps') := rfl
theorem w_X10_time_a {D : va_G} {q_this : Nat} {q_now : Nat} {q_left : Nat} {q_steps : Nat} {w_kept : Value} {w_trial : Value} {w_refusals : Value} {w_row : Value} {w_letters : Value} {w_dists : Value} {w_partners : Value} {w_times : Value} {w_spliced : Value} {w_piece : Value} {w_balances : Value} {w_prices : Value} {w_hands : Value} {w_hand : Value} {w_dealing : Value} {v_hasImage : Int32} {v_rows : Int32} {v_lettered : Int32} {v_stepsMany : Int32} {v_splicedMany : Int32} {v_most : Int32} {v_together : Int32} {v_z : Int32} {v_now : (Nat → Int32)} {v_left : (Nat → Int32)} {v_steps : (Nat → Int32)} : (w_X10_time D q_this q_now q_left q_steps w_kept w_trial w_refusals w_row w_letters w_dists w_partners w_times w_spliced w_piece w_balances w_prices w_hands w_hand w_dealing v_hasImage v_rows v_lettered v_stepsMany v_splicedMany v_most v_together v_z v_now v_left v_steps).map (fun q => q.1) = [q_this, q_now, q_left, q_steps] := rfl
def f_X10_time (N : Nat) (x1 : Int32) (x2 : Int32) (v_stepsMany : Int32) (v_now : (Nat → Int32)) (v_left : (Nat → Int32)) (v_steps : (Nat → Int32)) : Option (Int32 × Int32 × (Nat → Int32) × (Nat → Int32)) :=
  (f_X10_walks N v_stepsMany v_left v_steps v_now).bind (fun r_walks_1 => ((if 0 ≤ r_walks_1.1 then (f_X10_timeBy N x1 x2 r_walks_1.2.1 v_now r_walks_1.2.2.2).bind (fun r_timeBy_3 => some r_timeBy_3) else some (3212836864 : UInt32)) : Option UInt32).bind (fun m_2 => (f_Jxf58ca_floatToIntBits_5c35a m_2).bind (fun r_floatToIntBits_4 => some (r_floatToIntBits_4, r_walks_1.2.1, r_walks_1.2.2.1, r_walks_1.2.2.2))))
set_option maxRecDepth 100000 in
set_option maxHeartbeats 4000000 in
theorem c_X10_time (l : Launch) (D : va_G) (N : Nat) {q_this q_now q_left q_steps : Nat} {w_kept w_trial w_refusals w_row w_letters w_dists w_partners w_times w_spliced w_piece w_balances w_prices w_hands w_hand w_dealing : Value} {v_hasImage : Int32} {v_rows : Int32} {v_lettered : Int32} {v_stepsMany : Int32} {v_splicedMany : Int32} {v_most : Int32} {v_together : Int32} {v_z : Int32} {v_now : (Nat → Int32)} {v_left : (Nat → Int32)} {v_steps : (Nat → Int32)} {x1 : Int32} {x2 : Int32} {o : (Int32 × Int32 × (Nat → Int32) × (Nat → Int32))} (h : f_X10_time N x1 x2 v_stepsMany v_now v_left v_steps = some o) : CT l D yX10_time cX10_time 3 (Option.some FieldType.int) 6 [.ref q_this, .int x1, .int x2] (w_X10_time D q_this q_now q_left q_steps w_kept w_trial w_refusals w_row w_letters w_dists w_partners w_times w_spliced w_piece w_balances w_prices w_hands w_hand w_dealing v_hasImage v_rows v_lettered v_stepsMany v_splicedMany v_most v_together v_z v_now v_left v_steps) (w_X10_time D q_this q_now q_left q_steps w_kept w_trial w_refusals w_row w_letters w_dists w_partners w_times w_spliced w_piece w_balances w_prices w_hands w_hand w_dealing v_hasImage v_rows v_lettered o.2.1 v_splicedMany v_most v_together v_z v_now o.2.2.1 o.2.2.2) (some (.int o.1)) := by
  refine CT.of mk_X10_time (Nat.le_of_ble_eq_true rfl) (fun g hl hD C E => ?_)
  subst hl
  subst hD
  unfold f_X10_time at h
  refine j_aload_n C dX10_time_0 rfl ?_
  refine j_aload_n C dX10_time_1 rfl ?_
  refine j_get C 0 w_X10_time_g0 rfl inX10 0 (by decide) kw_981 rfl rfl dX10_time_2 ?_
  obtain ⟨r_walks_1, h_1, h⟩ := of_bind h
  refine j_callV1 C mk_X10_walks ms_X10_walks kw_1192 (c_X10_walks (gl g) (gD g) N h_1) (by decide) 0 w_X10_time_g0 rfl [0, 2, 3, 1] (hC_cons w_X10_time_g0 (hC_cons w_X10_time_g2 (hC_cons w_X10_time_g3 (hC_cons w_X10_time_g1 hC_nil)))) rfl (w_X10_walks_a.trans w_X10_walks_a.symm) rfl rfl (Nat.le_of_ble_eq_true rfl) dX10_time_5 (wput_cons w_X10_time_s0 (wput_cons w_X10_time_s2 (wput_cons w_X10_time_s3 (wput_cons w_X10_time_s1 wput_nil)))) ?_
  obtain ⟨m_2, hm_2, h⟩ := of_bind h
  have hj_2 : J g (w_X10_time (gD g) q_this q_now q_left q_steps w_kept w_trial w_refusals w_row w_letters w_dists w_partners w_times w_spliced w_piece w_balances w_prices w_hands w_hand w_dealing v_hasImage v_rows v_lettered r_walks_1.2.1 v_splicedMany v_most v_together v_z v_now r_walks_1.2.2.1 r_walks_1.2.2.2) [] 22 [.float (m_2)] := by
    obtain ⟨r_floatToIntBits_4, h_4, h⟩ := of_bind h
    refine j_callSF1 C mk_Jxf58ca_floatToIntBits_5c35a ms_Jxf58ca_floatToIntBits_5c35a kw_1232 (c_Jxf58ca_floatToIntBits_5c35a (gl g) (gD g) h_4) (by decide) [] hC_nil rfl (w_Jxf58ca_floatToIntBits_5c35a_a.trans w_Jxf58ca_floatToIntBits_5c35a_a.symm) rfl rfl (Nat.le_of_ble_eq_true rfl) dX10_time_22 wput_nil ?_
    have h := Option.some.inj h
    subst h
    exact j_iret C E dX10_time_25
  refine j_if_ge C hm_2 16 dX10_time_8 (by decide) (fun hc h => ?_) (fun hc h => ?_)
  · refine j_aload_n C dX10_time_16 rfl ?_
    refine j_iload_n C dX10_time_17 rfl ?_
    refine j_iload_n C dX10_time_18 rfl ?_
    obtain ⟨r_timeBy_3, h_3, h⟩ := of_bind h
    refine j_callV1 C mk_X10_timeBy ms_X10_timeBy kw_1228 (c_X10_timeBy (gl g) (gD g) N h_3) (by decide) 0 w_X10_time_g0 rfl [0, 1, 3] (hC_cons w_X10_time_g0 (hC_cons w_X10_time_g1 (hC_cons w_X10_time_g3 hC_nil))) rfl (w_X10_timeBy_a.trans w_X10_timeBy_a.symm) rfl rfl (Nat.le_of_ble_eq_true rfl) dX10_time_19 (wput_cons w_X10_time_s0 (wput_cons w_X10_time_s1 (wput_cons w_X10_time_s3 wput_nil))) ?_
    have h := Option.some.inj h
    subst h
    exact j_lw hj_2 rfl
  · refine j_ldcf C kw_1227 dX10_time_11 ?_
    refine j_goto C 22 dX10_time_13 (by decide) ?_
    have h := Option.some.inj h
    subst h
    exact j_lw hj_2 rfl

def w_X10_rank (D : va_G) (q_this q_now q_refusals q_left q_steps : Nat) (w_kept w_trial w_row w_letters w_dists w_partners w_times w_spliced w_piece w_balances w_prices w_hands w_hand w_dealing : Value) (v_hasImage : Int32) (v_rows : Int32) (v_lettered : Int32) (v_stepsMany : Int32) (v_splicedMany : Int32) (v_most : Int32) (v_together : Int32) (v_z : Int32) (v_now : (Nat → Int32)) (v_refusals : (Nat → Int32)) (v_left : (Nat → Int32)) (v_steps : (Nat → Int32)) : va_W := [(q_this, .inr (9, [.ref q_now, w_kept, w_trial, .int v_hasImage, .ref q_refusals, w_row, .int v_rows, w_letters, .int v_lettered, w_dists, .ref q_left, .ref q_steps, .int v_stepsMany, w_partners, w_times, w_spliced, .int v_splicedMany, w_piece, w_balances, w_prices, w_hands, w_hand, w_dealing, .int v_most, .int v_together, .int v_z])), (q_now, .inl (D.1 100, 50, .inl v_now)), (q_refusals, .inl (D.1 100, 7, .inl v_refusals)), (q_left, .inl (D.1 100, 1536, .inl v_left)), (q_steps, .inl (D.1 100, 64, .inl v_steps))]
theorem w_X10_rank_g0 {D : va_G} {q_this : Nat} {q_now : Nat} {q_refusals : Nat} {q_left : Nat} {q_steps : Nat} {w_kept : Value} {w_trial : Value} {w_row : Value} {w_letters : Value} {w_dists : Value} {w_partners : Value} {w_times : Value} {w_spliced : Value} {w_piece : Value} {w_balances : Value} {w_prices : Value} {w_hands : Value} {w_hand : Value} {w_dealing : Value} {v_hasImage : Int32} {v_rows : Int32} {v_lettered : Int32} {v_stepsMany : Int32} {v_splicedMany : Int32} {v_most : Int32} {v_together : Int32} {v_z : Int32} {v_now : (Nat → Int32)} {v_refusals : (Nat → Int32)} {v_left : (Nat → Int32)} {v_steps : (Nat → Int32)} : (w_X10_rank D q_this q_now q_refusals q_left q_steps w_kept w_trial w_row w_letters w_dists w_partners w_times w_spliced w_piece w_balances w_prices w_hands w_hand w_dealing v_hasImage v_rows v_lettered v_stepsMany v_splicedMany v_most v_together v_z v_now v_refusals v_left v_steps)[0]? = some (q_this, .inr (9, [.ref q_now, w_kept, w_trial, .int v_hasImage, .ref q_refusals, w_row, .int v_rows, w_letters, .int v_lettered, w_dists, .ref q_left, .ref q_steps, .int v_stepsMany, w_partners, w_times, w_spliced, .int v_splicedMany, w_piece, w_balances, w_prices, w_hands, w_hand, w_dealing, .int v_most, .int v_together, .int v_z])) := rfl
theorem w_X10_rank_s0 {D : va_G} {q_this : Nat} {q_now : Nat} {q_refusals : Nat} {q_left : Nat} {q_steps : Nat} {w_kept : Value} {w_trial : Value} {w_row : Value} {w_letters : Value} {w_dists : Value} {w_partners : Value} {w_times : Value} {w_spliced : Value} {w_piece : Value} {w_balances : Value} {w_prices : Value} {w_hands : Value} {w_hand : Value} {w_dealing : Value} {v_hasImage : Int32} {v_rows : Int32} {v_lettered : Int32} {v_stepsMany : Int32} {v_splicedMany : Int32} {v_most : Int32} {v_together : Int32} {v_z : Int32} {v_now : (Nat → Int32)} {v_refusals : (Nat → Int32)} {v_left : (Nat → Int32)} {v_steps : (Nat → Int32)} {v_hasImage' : Int32} {v_rows' : Int32} {v_lettered' : Int32} {v_stepsMany' : Int32} {v_splicedMany' : Int32} {v_most' : Int32} {v_together' : Int32} {v_z' : Int32} : (w_X10_rank D q_this q_now q_refusals q_left q_steps w_kept w_trial w_row w_letters w_dists w_partners w_times w_spliced w_piece w_balances w_prices w_hands w_hand w_dealing v_hasImage v_rows v_lettered v_stepsMany v_splicedMany v_most v_together v_z v_now v_refusals v_left v_steps).set 0 (q_this, .inr (9, [.ref q_now, w_kept, w_trial, .int v_hasImage', .ref q_refusals, w_row, .int v_rows', w_letters, .int v_lettered', w_dists, .ref q_left, .ref q_steps, .int v_stepsMany', w_partners, w_times, w_spliced, .int v_splicedMany', w_piece, w_balances, w_prices, w_hands, w_hand, w_dealing, .int v_most', .int v_together', .int v_z'])) = (w_X10_rank D q_this q_now q_refusals q_left q_steps w_kept w_trial w_row w_letters w_dists w_partners w_times w_spliced w_piece w_balances w_prices w_hands w_hand w_dealing v_hasImage' v_rows' v_lettered' v_stepsMany' v_splicedMany' v_most' v_together' v_z' v_now v_refusals v_left v_steps) := rfl
theorem w_X10_rank_g1 {D : va_G} {q_this : Nat} {q_now : Nat} {q_refusals : Nat} {q_left : Nat} {q_steps : Nat} {w_kept : Value} {w_trial : Value} {w_row : Value} {w_letters : Value} {w_dists : Value} {w_partners : Value} {w_times : Value} {w_spliced : Value} {w_piece : Value} {w_balances : Value} {w_prices : Value} {w_hands : Value} {w_hand : Value} {w_dealing : Value} {v_hasImage : Int32} {v_rows : Int32} {v_lettered : Int32} {v_stepsMany : Int32} {v_splicedMany : Int32} {v_most : Int32} {v_together : Int32} {v_z : Int32} {v_now : (Nat → Int32)} {v_refusals : (Nat → Int32)} {v_left : (Nat → Int32)} {v_steps : (Nat → Int32)} : (w_X10_rank D q_this q_now q_refusals q_left q_steps w_kept w_trial w_row w_letters w_dists w_partners w_times w_spliced w_piece w_balances w_prices w_hands w_hand w_dealing v_hasImage v_rows v_lettered v_stepsMany v_splicedMany v_most v_together v_z v_now v_refusals v_left v_steps)[1]? = some (q_now, .inl (D.1 100, 50, .inl v_now)) := rfl
theorem w_X10_rank_s1 {D : va_G} {q_this : Nat} {q_now : Nat} {q_refusals : Nat} {q_left : Nat} {q_steps : Nat} {w_kept : Value} {w_trial : Value} {w_row : Value} {w_letters : Value} {w_dists : Value} {w_partners : Value} {w_times : Value} {w_spliced : Value} {w_piece : Value} {w_balances : Value} {w_prices : Value} {w_hands : Value} {w_hand : Value} {w_dealing : Value} {v_hasImage : Int32} {v_rows : Int32} {v_lettered : Int32} {v_stepsMany : Int32} {v_splicedMany : Int32} {v_most : Int32} {v_together : Int32} {v_z : Int32} {v_now : (Nat → Int32)} {v_refusals : (Nat → Int32)} {v_left : (Nat → Int32)} {v_steps : (Nat → Int32)} {v_now' : (Nat → Int32)} : (w_X10_rank D q_this q_now q_refusals q_left q_steps w_kept w_trial w_row w_letters w_dists w_partners w_times w_spliced w_piece w_balances w_prices w_hands w_hand w_dealing v_hasImage v_rows v_lettered v_stepsMany v_splicedMany v_most v_together v_z v_now v_refusals v_left v_steps).set 1 (q_now, .inl (D.1 100, 50, .inl v_now')) = (w_X10_rank D q_this q_now q_refusals q_left q_steps w_kept w_trial w_row w_letters w_dists w_partners w_times w_spliced w_piece w_balances w_prices w_hands w_hand w_dealing v_hasImage v_rows v_lettered v_stepsMany v_splicedMany v_most v_together v_z v_now' v_refusals v_left v_steps) := rfl
theorem w_X10_rank_g2 {D : va_G} {q_this : Nat} {q_now : Nat} {q_refusals : Nat} {q_left : Nat} {q_steps : Nat} {w_kept : Value} {w_trial : Value} {w_row : Value} {w_letters : Value} {w_dists : Value} {w_partners : Value} {w_times : Value} {w_spliced : Value} {w_piece : Value} {w_balances : Value} {w_prices : Value} {w_hands : Value} {w_hand : Value} {w_dealing : Value} {v_hasImage : Int32} {v_rows : Int32} {v_lettered : Int32} {v_stepsMany : Int32} {v_splicedMany : Int32} {v_most : Int32} {v_together : Int32} {v_z : Int32} {v_now : (Nat → Int32)} {v_refusals : (Nat → Int32)} {v_left : (Nat → Int32)} {v_steps : (Nat → Int32)} : (w_X10_rank D q_this q_now q_refusals q_left q_steps w_kept w_trial w_row w_letters w_dists w_partners w_times w_spliced w_piece w_balances w_prices w_hands w_hand w_dealing v_hasImage v_rows v_lettered v_stepsMany v_splicedMany v_most v_together v_z v_now v_refusals v_left v_steps)[2]? = some (q_refusals, .inl (D.1 100, 7, .inl v_refusals)) := rfl
theorem w_X10_rank_s2 {D : va_G} {q_this : Nat} {q_now : Nat} {q_refusals : Nat} {q_left : Nat} {q_steps : Nat} {w_kept : Value} {w_trial : Value} {w_row : Value} {w_letters : Value} {w_dists : Value} {w_partners : Value} {w_times : Value} {w_spliced : Value} {w_piece : Value} {w_balances : Value} {w_prices : Value} {w_hands : Value} {w_hand : Value} {w_dealing : Value} {v_hasImage : Int32} {v_rows : Int32} {v_lettered : Int32} {v_stepsMany : Int32} {v_splicedMany : Int32} {v_most : Int32} {v_together : Int32} {v_z : Int32} {v_now : (Nat → Int32)} {v_refusals : (Nat → Int32)} {v_left : (Nat → Int32)} {v_steps : (Nat → Int32)} {v_refusals' : (Nat → Int32)} : (w_X10_rank D q_this q_now q_refusals q_left q_steps w_kept w_trial w_row w_letters w_dists w_partners w_times w_spliced w_piece w_balances w_prices w_hands w_hand w_dealing v_hasImage v_rows v_lettered v_stepsMany v_splicedMany v_most v_together v_z v_now v_refusals v_left v_steps).set 2 (q_refusals, .inl (D.1 100, 7, .inl v_refusals')) = (w_X10_rank D q_this q_now q_refusals q_left q_steps w_kept w_trial w_row w_letters w_dists w_partners w_times w_spliced w_piece w_balances w_prices w_hands w_hand w_dealing v_hasImage v_rows v_lettered v_stepsMany v_splicedMany v_most v_together v_z v_now v_refusals' v_left v_steps) := rfl
theorem w_X10_rank_g3 {D : va_G} {q_this : Nat} {q_now : Nat} {q_refusals : Nat} {q_left : Nat} {q_steps : Nat} {w_kept : Value} {w_trial : Value} {w_row : Value} {w_letters : Value} {w_dists : Value} {w_partners : Value} {w_times : Value} {w_spliced : Value} {w_piece : Value} {w_balances : Value} {w_prices : Value} {w_hands : Value} {w_hand : Value} {w_dealing : Value} {v_hasImage : Int32} {v_rows : Int32} {v_lettered : Int32} {v_stepsMany : Int32} {v_splicedMany : Int32} {v_most : Int32} {v_together : Int32} {v_z : Int32} {v_now : (Nat → Int32)} {v_refusals : (Nat → Int32)} {v_left : (Nat → Int32)} {v_steps : (Nat → Int32)} : (w_X10_rank D q_this q_now q_refusals q_left q_steps w_kept w_trial w_row w_letters w_dists w_partners w_times w_spliced w_piece w_balances w_prices w_hands w_hand w_dealing v_hasImage v_rows v_lettered v_stepsMany v_splicedMany v_most v_together v_z v_now v_refusals v_left v_steps)[3]? = some (q_left, .inl (D.1 100, 1536, .inl v_left)) := rfl
theorem w_X10_rank_s3 {D : va_G} {q_this : Nat} {q_now : Nat} {q_refusals : Nat} {q_left : Nat} {q_steps : Nat} {w_kept : Value} {w_trial : Value} {w_row : Value} {w_letters : Value} {w_dists : Value} {w_partners : Value} {w_times : Value} {w_spliced : Value} {w_piece : Value} {w_balances : Value} {w_prices : Value} {w_hands : Value} {w_hand : Value} {w_dealing : Value} {v_hasImage : Int32} {v_rows : Int32} {v_lettered : Int32} {v_stepsMany : Int32} {v_splicedMany : Int32} {v_most : Int32} {v_together : Int32} {v_z : Int32} {v_now : (Nat → Int32)} {v_refusals : (Nat → Int32)} {v_left : (Nat → Int32)} {v_steps : (Nat → Int32)} {v_left' : (Nat → Int32)} : (w_X10_rank D q_this q_now q_refusals q_left q_steps w_kept w_trial w_row w_letters w_dists w_partners w_times w_spliced w_piece w_balances w_prices w_hands w_hand w_dealing v_hasImage v_rows v_lettered v_stepsMany v_splicedMany v_most v_together v_z v_now v_refusals v_left v_steps).set 3 (q_left, .inl (D.1 100, 1536, .inl v_left')) = (w_X10_rank D q_this q_now q_refusals q_left q_steps w_kept w_trial w_row w_letters w_dists w_partners w_times w_spliced w_piece w_balances w_prices w_hands w_hand w_dealing v_hasImage v_rows v_lettered v_stepsMany v_splicedMany v_most v_together v_z v_now v_refusals v_left' v_steps) := rfl
theorem w_X10_rank_g4 {D : va_G} {q_this : Nat} {q_now : Nat} {q_refusals : Nat} {q_left : Nat} {q_steps : Nat} {w_kept : Value} {w_trial : Value} {w_row : Value} {w_letters : Value} {w_dists : Value} {w_partners : Value} {w_times : Value} {w_spliced : Value} {w_piece : Value} {w_balances : Value} {w_prices : Value} {w_hands : Value} {w_hand : Value} {w_dealing : Value} {v_hasImage : Int32} {v_rows : Int32} {v_lettered : Int32} {v_stepsMany : Int32} {v_splicedMany : Int32} {v_most : Int32} {v_together : Int32} {v_z : Int32} {v_now : (Nat → Int32)} {v_refusals : (Nat → Int32)} {v_left : (Nat → Int32)} {v_steps : (Nat → Int32)} : (w_X10_rank D q_this q_now q_refusals q_left q_steps w_kept w_trial w_row w_letters w_dists w_partners w_times w_spliced w_piece w_balances w_prices w_hands w_hand w_dealing v_hasImage v_rows v_lettered v_stepsMany v_splicedMany v_most v_together v_z v_now v_refusals v_left v_steps)[4]? = some (q_steps, .inl (D.1 100, 64, .inl v_steps)) := rfl
theorem w_X10_rank_s4 {D : va_G} {q_this : Nat} {q_now : Nat} {q_refusals : Nat} {q_left : Nat} {q_steps : Nat} {w_kept : Value} {w_trial : Value} {w_row : Value} {w_letters : Value} {w_dists : Value} {w_partners : Value} {w_times : Value} {w_spliced : Value} {w_piece : Value} {w_balances : Value} {w_prices : Value} {w_hands : Value} {w_hand : Value} {w_dealing : Value} {v_hasImage : Int32} {v_rows : Int32} {v_lettered : Int32} {v_stepsMany : Int32} {v_splicedMany : Int32} {v_most : Int32} {v_together : Int32} {v_z : Int32} {v_now : (Nat → Int32)} {v_refusals : (Nat → Int32)} {v_left : (Nat → Int32)} {v_steps : (Nat → Int32)} {v_steps' : (Nat → Int32)} : (w_X10_rank D q_this q_now q_refusals q_left q_steps w_kept w_trial w_row w_letters w_dists w_partners w_times w_spliced w_piece w_balances w_prices w_hands w_hand w_dealing v_hasImage v_rows v_lettered v_stepsMany v_splicedMany v_most v_together v_z v_now v_refusals v_left v_steps).set 4 (q_steps, .inl (D.1 100, 64, .inl v_steps')) = (w_X10_rank D q_this q_now q_refusals q_left q_steps w_kept w_trial w_row w_letters w_dists w_partners w_times w_spliced w_piece w_balances w_prices w_hands w_hand w_dealing v_hasImage v_rows v_lettered v_stepsMany v_splicedMany v_most v_together v_z v_now v_refusals v_left v_steps') := rfl
theorem w_X10_rank_a {D : va_G} {q_this : Nat} {q_now : Nat} {q_refusals : Nat} {q_left : Nat} {q_steps : Nat} {w_kept : Value} {w_trial : Value} {w_row : Value} {w_letters : Value} {w_dists : Value} {w_partners : Value} {w_times : Value} {w_spliced : Value} {w_piece : Value} {w_balances : Value} {w_prices : Value} {w_hands : Value} {w_hand : Value} {w_dealing : Value} {v_hasImage : Int32} {v_rows : Int32} {v_lettered : Int32} {v_stepsMany : Int32} {v_splicedMany : Int32} {v_most : Int32} {v_together : Int32} {v_z : Int32} {v_now : (Nat → Int32)} {v_refusals : (Nat → Int32)} {v_left : (Nat → Int32)} {v_steps : (Nat → Int32)} : (w_X10_rank D q_this q_now q_refusals q_left q_steps w_kept w_trial w_row w_letters w_dists w_partners w_times w_spliced w_piece w_balances w_prices w_hands w_hand w_dealing v_hasImage v_rows v_lettered v_stepsMany v_splicedMany v_most v_together v_z v_now v_refusals v_left v_steps).map (fun q => q.1) = [q_this, q_now, q_refusals, q_left, q_steps] := rfl
def f_X10_rank (N : Nat) (x1 : Int32) (x2 : Int32) (x3 : Int32) (x4 : Int32) (v_stepsMany : Int32) (v_now : (Nat → Int32)) (v_refusals : (Nat → Int32)) (v_left : (Nat → Int32)) (v_steps : (Nat → Int32)) : Option (Int32 × Int32 × (Nat → Int32) × (Nat → Int32) × (Nat → Int32)) :=
  (f_X10_walks N v_stepsMany v_left v_steps v_now).bind (fun r_walks_1 => (if 0 ≤ r_walks_1.1 then (f_X10_timeBy N x1 x2 r_walks_1.2.1 v_now r_walks_1.2.2.2).bind (fun r_timeBy_2 => (f_X10_timeBy N x3 x4 r_walks_1.2.1 v_now r_walks_1.2.2.2).bind (fun r_timeBy_3 => (f_Jxf58ca_compare_66c2b r_timeBy_2 r_timeBy_3).bind (fun r_compare_4 => some (r_compare_4, r_walks_1.2.1, v_refusals, r_walks_1.2.2.1, r_walks_1.2.2.2)))) else (f_X10_refusedBelow (-3 : Int32) v_refusals).bind (fun r_refusedBelow_5 => some (r_refusedBelow_5.1, r_walks_1.2.1, r_refusedBelow_5.2, r_walks_1.2.2.1, r_walks_1.2.2.2))))
set_option maxRecDepth 100000 in
set_option maxHeartbeats 4000000 in
theorem c_X10_rank (l : Launch) (D : va_G) (N : Nat) {q_this q_now q_refusals q_left q_steps : Nat} {w_kept w_trial w_row w_letters w_dists w_partners w_times w_spliced w_piece w_balances w_prices w_hands w_hand w_dealing : Value} {v_hasImage : Int32} {v_rows : Int32} {v_lettered : Int32} {v_stepsMany : Int32} {v_splicedMany : Int32} {v_most : Int32} {v_together : Int32} {v_z : Int32} {v_now : (Nat → Int32)} {v_refusals : (Nat → Int32)} {v_left : (Nat → Int32)} {v_steps : (Nat → Int32)} {x1 : Int32} {x2 : Int32} {x3 : Int32} {x4 : Int32} {o : (Int32 × Int32 × (Nat → Int32) × (Nat → Int32) × (Nat → Int32))} (h : f_X10_rank N x1 x2 x3 x4 v_stepsMany v_now v_refusals v_left v_steps = some o) : CT l D yX10_rank cX10_rank 5 (Option.some FieldType.int) 6 [.ref q_this, .int x1, .int x2, .int x3, .int x4] (w_X10_rank D q_this q_now q_refusals q_left q_steps w_kept w_trial w_row w_letters w_dists w_partners w_times w_spliced w_piece w_balances w_prices w_hands w_hand w_dealing v_hasImage v_rows v_lettered v_stepsMany v_splicedMany v_most v_together v_z v_now v_refusals v_left v_steps) (w_X10_rank D q_this q_now q_refusals q_left q_steps w_kept w_trial w_row w_letters w_dists w_partners w_times w_spliced w_piece w_balances w_prices w_hands w_hand w_dealing v_hasImage v_rows v_lettered o.2.1 v_splicedMany v_most v_together v_z v_now o.2.2.1 o.2.2.2.1 o.2.2.2.2) (some (.int o.1)) := by
  refine CT.of mk_X10_rank (Nat.le_of_ble_eq_true rfl) (fun g hl hD C E => ?_)
  subst hl
  subst hD
  unfold f_X10_rank at h
  refine j_aload_n C dX10_rank_0 rfl ?_
  refine j_aload_n C dX10_rank_1 rfl ?_
  refine j_get C 0 w_X10_rank_g0 rfl inX10 0 (by decide) kw_981 rfl rfl dX10_rank_2 ?_
  obtain ⟨r_walks_1, h_1, h⟩ := of_bind h
  refine j_callV1 C mk_X10_walks ms_X10_walks kw_1192 (c_X10_walks (gl g) (gD g) N h_1) (by decide) 0 w_X10_rank_g0 rfl [0, 3, 4, 1] (hC_cons w_X10_rank_g0 (hC_cons w_X10_rank_g3 (hC_cons w_X10_rank_g4 (hC_cons w_X10_rank_g1 hC_nil)))) rfl (w_X10_walks_a.trans w_X10_walks_a.symm) rfl rfl (Nat.le_of_ble_eq_true rfl) dX10_rank_5 (wput_cons w_X10_rank_s0 (wput_cons w_X10_rank_s3 (wput_cons w_X10_rank_s4 (wput_cons w_X10_rank_s1 wput_nil)))) ?_
  refine j_if_ge C h 18 dX10_rank_8 (by decide) (fun hc h => ?_) (fun hc h => ?_)
  · refine j_aload_n C dX10_rank_18 rfl ?_
    refine j_iload_n C dX10_rank_19 rfl ?_
    refine j_iload_n C dX10_rank_20 rfl ?_
    obtain ⟨r_timeBy_2, h_2, h⟩ := of_bind h
    refine j_callV1 C mk_X10_timeBy ms_X10_timeBy kw_1228 (c_X10_timeBy (gl g) (gD g) N h_2) (by decide) 0 w_X10_rank_g0 rfl [0, 1, 4] (hC_cons w_X10_rank_g0 (hC_cons w_X10_rank_g1 (hC_cons w_X10_rank_g4 hC_nil))) rfl (w_X10_timeBy_a.trans w_X10_timeBy_a.symm) rfl rfl (Nat.le_of_ble_eq_true rfl) dX10_rank_21 (wput_cons w_X10_rank_s0 (wput_cons w_X10_rank_s1 (wput_cons w_X10_rank_s4 wput_nil))) ?_
    refine j_aload_n C dX10_rank_24 rfl ?_
    refine j_iload_n C dX10_rank_25 rfl ?_
    refine j_iload C dX10_rank_26 rfl ?_
    obtain ⟨r_timeBy_3, h_3, h⟩ := of_bind h
    refine j_callV1 C mk_X10_timeBy ms_X10_timeBy kw_1228 (c_X10_timeBy (gl g) (gD g) N h_3) (by decide) 0 w_X10_rank_g0 rfl [0, 1, 4] (hC_cons w_X10_rank_g0 (hC_cons w_X10_rank_g1 (hC_cons w_X10_rank_g4 hC_nil))) rfl (w_X10_timeBy_a.trans w_X10_timeBy_a.symm) rfl rfl (Nat.le_of_ble_eq_true rfl) dX10_rank_28 (wput_cons w_X10_rank_s0 (wput_cons w_X10_rank_s1 (wput_cons w_X10_rank_s4 wput_nil))) ?_
    obtain ⟨r_compare_4, h_4, h⟩ := of_bind h
    refine j_callSF1 C mk_Jxf58ca_compare_66c2b ms_Jxf58ca_compare_66c2b kw_1251 (c_Jxf58ca_compare_66c2b (gl g) (gD g) h_4) (by decide) [] hC_nil rfl (w_Jxf58ca_compare_66c2b_a.trans w_Jxf58ca_compare_66c2b_a.symm) rfl rfl (Nat.le_of_ble_eq_true rfl) dX10_rank_31 wput_nil ?_
    have h := Option.some.inj h
    subst h
    exact j_iret C E dX10_rank_34
  · refine j_aload_n C dX10_rank_11 rfl ?_
    refine j_bipush C (-3) dX10_rank_12 kb_m3 ?_
    obtain ⟨r_refusedBelow_5, h_5, h⟩ := of_bind h
    refine j_callV1 C mk_X10_refusedBelow ms_X10_refusedBelow kw_1246 (c_X10_refusedBelow (gl g) (gD g) h_5) (by decide) 0 w_X10_rank_g0 rfl [0, 2] (hC_cons w_X10_rank_g0 (hC_cons w_X10_rank_g2 hC_nil)) rfl (w_X10_refusedBelow_a.trans w_X10_refusedBelow_a.symm) rfl rfl (Nat.le_of_ble_eq_true rfl) dX10_rank_14 (wput_cons w_X10_rank_s0 (wput_cons w_X10_rank_s2 wput_nil)) ?_
    have h := Option.some.inj h
    subst h
    exact j_iret C E dX10_rank_17

def w_X10_mean (D : va_G) (q_this q_now : Nat) (w_kept w_trial w_refusals w_row w_letters w_dists w_left w_steps w_partners w_times w_spliced w_piece w_balances w_prices w_hands w_hand w_dealing : Value) (v_hasImage : Int32) (v_rows : Int32) (v_lettered : Int32) (v_stepsMany : Int32) (v_splicedMany : Int32) (v_most : Int32) (v_together : Int32) (v_z : Int32) (v_now : (Nat → Int32)) : va_W := [(q_this, .inr (9, [.ref q_now, w_kept, w_trial, .int v_hasImage, w_refusals, w_row, .int v_rows, w_letters, .int v_lettered, w_dists, w_left, w_steps, .int v_stepsMany, w_partners, w_times, w_spliced, .int v_splicedMany, w_piece, w_balances, w_prices, w_hands, w_hand, w_dealing, .int v_most, .int v_together, .int v_z])), (q_now, .inl (D.1 100, 50, .inl v_now))]
theorem w_X10_mean_g0 {D : va_G} {q_this : Nat} {q_now : Nat} {w_kept : Value} {w_trial : Value} {w_refusals : Value} {w_row : Value} {w_letters : Value} {w_dists : Value} {w_left : Value} {w_steps : Value} {w_partners : Value} {w_times : Value} {w_spliced : Value} {w_piece : Value} {w_balances : Value} {w_prices : Value} {w_hands : Value} {w_hand : Value} {w_dealing : Value} {v_hasImage : Int32} {v_rows : Int32} {v_lettered : Int32} {v_stepsMany : Int32} {v_splicedMany : Int32} {v_most : Int32} {v_together : Int32} {v_z : Int32} {v_now : (Nat → Int32)} : (w_X10_mean D q_this q_now w_kept w_trial w_refusals w_row w_letters w_dists w_left w_steps w_partners w_times w_spliced w_piece w_balances w_prices w_hands w_hand w_dealing v_hasImage v_rows v_lettered v_stepsMany v_splicedMany v_most v_together v_z v_now)[0]? = some (q_this, .inr (9, [.ref q_now, w_kept, w_trial, .int v_hasImage, w_refusals, w_row, .int v_rows, w_letters, .int v_lettered, w_dists, w_left, w_steps, .int v_stepsMany, w_partners, w_times, w_spliced, .int v_splicedMany, w_piece, w_balances, w_prices, w_hands, w_hand, w_dealing, .int v_most, .int v_together, .int v_z])) := rfl
theorem w_X10_mean_s0 {D : va_G} {q_this : Nat} {q_now : Nat} {w_kept : Value} {w_trial : Value} {w_refusals : Value} {w_row : Value} {w_letters : Value} {w_dists : Value} {w_left : Value} {w_steps : Value} {w_partners : Value} {w_times : Value} {w_spliced : Value} {w_piece : Value} {w_balances : Value} {w_prices : Value} {w_hands : Value} {w_hand : Value} {w_dealing : Value} {v_hasImage : Int32} {v_rows : Int32} {v_lettered : Int32} {v_stepsMany : Int32} {v_splicedMany : Int32} {v_most : Int32} {v_together : Int32} {v_z : Int32} {v_now : (Nat → Int32)} {v_hasImage' : Int32} {v_rows' : Int32} {v_lettered' : Int32} {v_stepsMany' : Int32} {v_splicedMany' : Int32} {v_most' : Int32} {v_together' : Int32} {v_z' : Int32} : (w_X10_mean D q_this q_now w_kept w_trial w_refusals w_row w_letters w_dists w_left w_steps w_partners w_times w_spliced w_piece w_balances w_prices w_hands w_hand w_dealing v_hasImage v_rows v_lettered v_stepsMany v_splicedMany v_most v_together v_z v_now).set 0 (q_this, .inr (9, [.ref q_now, w_kept, w_trial, .int v_hasImage', w_refusals, w_row, .int v_rows', w_letters, .int v_lettered', w_dists, w_left, w_steps, .int v_stepsMany', w_partners, w_times, w_spliced, .int v_splicedMany', w_piece, w_balances, w_prices, w_hands, w_hand, w_dealing, .int v_most', .int v_together', .int v_z'])) = (w_X10_mean D q_this q_now w_kept w_trial w_refusals w_row w_letters w_dists w_left w_steps w_partners w_times w_spliced w_piece w_balances w_prices w_hands w_hand w_dealing v_hasImage' v_rows' v_lettered' v_stepsMany' v_splicedMany' v_most' v_together' v_z' v_now) := rfl
theorem w_X10_mean_g1 {D : va_G} {q_this : Nat} {q_now : Nat} {w_kept : Value} {w_trial : Value} {w_refusals : Value} {w_row : Value} {w_letters : Value} {w_dists : Value} {w_left : Value} {w_steps : Value} {w_partners : Value} {w_times : Value} {w_spliced : Value} {w_piece : Value} {w_balances : Value} {w_prices : Value} {w_hands : Value} {w_hand : Value} {w_dealing : Value} {v_hasImage : Int32} {v_rows : Int32} {v_lettered : Int32} {v_stepsMany : Int32} {v_splicedMany : Int32} {v_most : Int32} {v_together : Int32} {v_z : Int32} {v_now : (Nat → Int32)} : (w_X10_mean D q_this q_now w_kept w_trial w_refusals w_row w_letters w_dists w_left w_steps w_partners w_times w_spliced w_piece w_balances w_prices w_hands w_hand w_dealing v_hasImage v_rows v_lettered v_stepsMany v_splicedMany v_most v_together v_z v_now)[1]? = some (q_now, .inl (D.1 100, 50, .inl v_now)) := rfl
theorem w_X10_mean_s1 {D : va_G} {q_this : Nat} {q_now : Nat} {w_kept : Value} {w_trial : Value} {w_refusals : Value} {w_row : Value} {w_letters : Value} {w_dists : Value} {w_left : Value} {w_steps : Value} {w_partners : Value} {w_times : Value} {w_spliced : Value} {w_piece : Value} {w_balances : Value} {w_prices : Value} {w_hands : Value} {w_hand : Value} {w_dealing : Value} {v_hasImage : Int32} {v_rows : Int32} {v_lettered : Int32} {v_stepsMany : Int32} {v_splicedMany : Int32} {v_most : Int32} {v_together : Int32} {v_z : Int32} {v_now : (Nat → Int32)} {v_now' : (Nat → Int32)} : (w_X10_mean D q_this q_now w_kept w_trial w_refusals w_row w_letters w_dists w_left w_steps w_partners w_times w_spliced w_piece w_balances w_prices w_hands w_hand w_dealing v_hasImage v_rows v_lettered v_stepsMany v_splicedMany v_most v_together v_z v_now).set 1 (q_now, .inl (D.1 100, 50, .inl v_now')) = (w_X10_mean D q_this q_now w_kept w_trial w_refusals w_row w_letters w_dists w_left w_steps w_partners w_times w_spliced w_piece w_balances w_prices w_hands w_hand w_dealing v_hasImage v_rows v_lettered v_stepsMany v_splicedMany v_most v_together v_z v_now') := rfl
theorem w_X10_mean_a {D : va_G} {q_this : Nat} {q_now : Nat} {w_kept : Value} {w_trial : Value} {w_refusals : Value} {w_row : Value} {w_letters : Value} {w_dists : Value} {w_left : Value} {w_steps : Value} {w_partners : Value} {w_times : Value} {w_spliced : Value} {w_piece : Value} {w_balances : Value} {w_prices : Value} {w_hands : Value} {w_hand : Value} {w_dealing : Value} {v_hasImage : Int32} {v_rows : Int32} {v_lettered : Int32} {v_stepsMany : Int32} {v_splicedMany : Int32} {v_most : Int32} {v_together : Int32} {v_z : Int32} {v_now : (Nat → Int32)} : (w_X10_mean D q_this q_now w_kept w_trial w_refusals w_row w_letters w_dists w_left w_steps w_partners w_times w_spliced w_piece w_balances w_prices w_hands w_hand w_dealing v_hasImage v_rows v_lettered v_stepsMany v_splicedMany v_most v_together v_z v_now).map (fun q => q.1) = [q_this, q_now] := rfl
def f_X10_mean_b7 (v_now : (Nat → Int32)) (x4_7 : Int32) (x1_7 : UInt64) (x3_7 : Int32) : Option ((UInt64 × Int32 × Int32) ⊕ (UInt64 × Int32)) :=
  ga (49 : Int32) 50 ((if (v_now (Int32.toNatClampNeg (49 : Int32))) ≤ x4_7 then some (.inr (x1_7, x3_7)) else ga ((40 : Int32) + x4_7) 50 ((if (v_now (Int32.toNatClampNeg ((40 : Int32) + x4_7))) = (1 : Int32) then ga ((16 : Int32) + x4_7) 50 (gdb (FP.dadd x1_7 (FP.i2d (v_now (Int32.toNatClampNeg ((16 : Int32) + x4_7))))) (some (.inl (FP.dadd x1_7 (FP.i2d (v_now (Int32.toNatClampNeg ((16 : Int32) + x4_7)))), x3_7 + (1 : Int32), x4_7 + (1 : Int32))))) else some (.inl (x1_7, x3_7, x4_7 + (1 : Int32)))))))
def f_X10_mean (N : Nat) (v_now : (Nat → Int32)) : Option Int64 :=
  (lp (fun s_7 => f_X10_mean_b7 v_now s_7.2.2 s_7.1 s_7.2.1) N (FP.dconst0, (0 : Int32), (0 : Int32))).bind (fun e_7 => (if e_7.2 = 0 then some (0 : Int64) else gdb (FP.ddiv e_7.1 (FP.i2d e_7.2)) ((f_Jxe99ae_doubleToLongBits_ccdee (FP.ddiv e_7.1 (FP.i2d e_7.2))).bind (fun r_doubleToLongBits_1 => some r_doubleToLongBits_1))))
set_option maxRecDepth 100000 in
set_option maxHeartbeats 4000000 in
theorem c_X10_mean (l : Launch) (D : va_G) (N : Nat) {q_this q_now : Nat} {w_kept w_trial w_refusals w_row w_letters w_dists w_left w_steps w_partners w_times w_spliced w_piece w_balances w_prices w_hands w_hand w_dealing : Value} {v_hasImage : Int32} {v_rows : Int32} {v_lettered : Int32} {v_stepsMany : Int32} {v_splicedMany : Int32} {v_most : Int32} {v_together : Int32} {v_z : Int32} {v_now : (Nat → Int32)} {o : Int64} (h : f_X10_mean N v_now = some o) : CT l D yX10_mean cX10_mean 5 (Option.some FieldType.long) 2 [.ref q_this] (w_X10_mean D q_this q_now w_kept w_trial w_refusals w_row w_letters w_dists w_left w_steps w_partners w_times w_spliced w_piece w_balances w_prices w_hands w_hand w_dealing v_hasImage v_rows v_lettered v_stepsMany v_splicedMany v_most v_together v_z v_now) (w_X10_mean D q_this q_now w_kept w_trial w_refusals w_row w_letters w_dists w_left w_steps w_partners w_times w_spliced w_piece w_balances w_prices w_hands w_hand w_dealing v_hasImage v_rows v_lettered v_stepsMany v_splicedMany v_most v_together v_z v_now) (some (.long o)) := by
  refine CT.of mk_X10_mean (Nat.le_of_ble_eq_true rfl) (fun g hl hD C E => ?_)
  subst hl
  subst hD
  unfold f_X10_mean at h
  refine j_dconst0 C dX10_mean_0 ?_
  refine j_dstore_n C dX10_mean_1 (by decide) ?_
  refine j_iconst C (0) dX10_mean_2 ki_0 ?_
  refine j_istore_n C dX10_mean_3 (by decide) ?_
  refine j_iconst C (0) dX10_mean_4 ki_0 ?_
  refine j_istore C dX10_mean_5 (by decide) ?_
  obtain ⟨e_7, hl_7, h⟩ := of_bind h
  have ha_7 : J g (w_X10_mean (gD g) q_this q_now w_kept w_trial w_refusals w_row w_letters w_dists w_left w_steps w_partners w_times w_spliced w_piece w_balances w_prices w_hands w_hand w_dealing v_hasImage v_rows v_lettered v_stepsMany v_splicedMany v_most v_together v_z v_now) [(1, .double (e_7.1)), (3, .int (e_7.2))] 56 [] := by
    refine j_iload_n C dX10_mean_56 rfl ?_
    refine j_if_ne C h 64 dX10_mean_57 (by decide) (fun hc h => ?_) (fun hc h => ?_)
    · refine j_lconst C 0 dX10_mean_60 rfl ?_
      refine j_goto C 71 dX10_mean_61 (by decide) ?_
      have h := Option.some.inj h
      subst h
      exact j_lret C E dX10_mean_71
    · refine j_dload_n C dX10_mean_64 rfl ?_
      refine j_iload_n C dX10_mean_65 rfl ?_
      refine j_i2d C dX10_mean_66 ?_
      refine j_ddiv C h dX10_mean_67 (fun h => ?_)
      obtain ⟨r_doubleToLongBits_1, h_1, h⟩ := of_bind h
      refine j_callS1 C mk_Jxe99ae_doubleToLongBits_ccdee ms_Jxe99ae_doubleToLongBits_ccdee kw_1259 (c_Jxe99ae_doubleToLongBits_ccdee (gl g) (gD g) h_1) (by decide) [] hC_nil rfl (w_Jxe99ae_doubleToLongBits_ccdee_a.trans w_Jxe99ae_doubleToLongBits_ccdee_a.symm) rfl rfl (Nat.le_of_ble_eq_true rfl) dX10_mean_68 wput_nil ?_
      have h := Option.some.inj h
      subst h
      exact j_lret C E dX10_mean_71
  refine j_lv (lv' := [(0, .ref q_this), (1, .double (FP.dconst0)), (3, .int ((0 : Int32))), (4, .int ((0 : Int32)))]) rfl ?_
  refine lp_ind hl_7 (fun s_7 => J g (w_X10_mean (gD g) q_this q_now w_kept w_trial w_refusals w_row w_letters w_dists w_left w_steps w_partners w_times w_spliced w_piece w_balances w_prices w_hands w_hand w_dealing v_hasImage v_rows v_lettered v_stepsMany v_splicedMany v_most v_together v_z v_now) [(0, .ref q_this), (1, .double (s_7.1)), (3, .int (s_7.2.1)), (4, .int (s_7.2.2))] 7 []) (fun s_7 r_7 h hc_7 hx_7 => ?_)
  unfold f_X10_mean_b7 at h
  refine j_iload C dX10_mean_7 rfl ?_
  refine j_aload_n C dX10_mean_9 rfl ?_
  refine j_get C 0 w_X10_mean_g0 rfl inX10 0 (by decide) kw_981 rfl rfl dX10_mean_10 ?_
  refine j_bipush C (49) dX10_mean_13 kb_49 ?_
  refine j_iaload 1 C h w_X10_mean_g1 rfl dX10_mean_15 (fun h => ?_)
  refine j_icmp_ge C h 56 dX10_mean_16 (by decide) (fun hc h => ?_) (fun hc h => ?_)
  · have h := Option.some.inj h
    subst h
    have h9 := hx_7 _ rfl
    subst h9
    exact j_lw ha_7 rfl
  · refine j_aload_n C dX10_mean_19 rfl ?_
    refine j_get C 0 w_X10_mean_g0 rfl inX10 0 (by decide) kw_981 rfl rfl dX10_mean_20 ?_
    refine j_bipush C (40) dX10_mean_23 kb_40 ?_
    refine j_iload C dX10_mean_25 rfl ?_
    refine j_iadd C dX10_mean_27 ?_
    refine j_iaload 1 C h w_X10_mean_g1 rfl dX10_mean_28 (fun h => ?_)
    refine j_iconst C (1) dX10_mean_29 ki_1 ?_
    refine j_icmp_ne C h 50 dX10_mean_30 (by decide) (fun hc h => ?_) (fun hc h => ?_)
    · refine j_dload_n C dX10_mean_33 rfl ?_
      refine j_aload_n C dX10_mean_34 rfl ?_
      refine j_get C 0 w_X10_mean_g0 rfl inX10 0 (by decide) kw_981 rfl rfl dX10_mean_35 ?_
      refine j_bipush C (16) dX10_mean_38 kb_16 ?_
      refine j_iload C dX10_mean_40 rfl ?_
      refine j_iadd C dX10_mean_42 ?_
      refine j_iaload 1 C h w_X10_mean_g1 rfl dX10_mean_43 (fun h => ?_)
      refine j_i2d C dX10_mean_44 ?_
      refine j_dadd C h dX10_mean_45 (fun h => ?_)
      refine j_dstore_n C dX10_mean_46 (by decide) ?_
      refine j_inc C (1) dX10_mean_47 rfl ki_1 (by decide) ?_
      refine j_inc C (1) dX10_mean_50 rfl ki_1 (by decide) ?_
      refine j_goto C 7 dX10_mean_53 (by decide) ?_
      have h := Option.some.inj h
      subst h
      have hc9 := hc_7 _ rfl
      exact j_lw hc9 rfl
    · refine j_inc C (1) dX10_mean_50 rfl ki_1 (by decide) ?_
      refine j_goto C 7 dX10_mean_53 (by decide) ?_
      have h := Option.some.inj h
      subst h
      have hc9 := hc_7 _ rfl
      exact j_lw hc9 rfl
