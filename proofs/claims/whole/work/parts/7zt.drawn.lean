/-! the Model's times where a pace is no number -/
def tBn_b12 (v_stepsMany : Int32) (x5_12 : Int32) (v_steps : (Nat → Int32)) (v_now : (Nat → Int32)) : Option (Int32 ⊕ Int32) :=
  (if v_stepsMany ≤ x5_12 then some (.inr x5_12) else ga x5_12 64 ((f_X10_cost (v_steps (Int32.toNatClampNeg x5_12)) v_now).bind (fun r_cost_1 => some (.inl (x5_12 + (1 : Int32))))))
def tBn (N : Nat) (v_stepsMany : Int32) (v_now : (Nat → Int32)) (v_steps : (Nat → Int32)) : Option UInt32 :=
  (lp (fun s_12 => tBn_b12 v_stepsMany s_12 v_steps v_now) N (0 : Int32)).bind (fun _ => some (if v_stepsMany ≤ 0 then (0 : UInt32) else 2143289344))
def tB (N : Nat) (x1 : Int32) (x2 : Int32) (v_stepsMany : Int32) (v_now : (Nat → Int32)) (v_steps : (Nat → Int32)) : Option UInt32 :=
  if x1 = 0 ∧ x2 = 0 then tBn N v_stepsMany v_now v_steps else f_X10_timeBy N x1 x2 v_stepsMany v_now v_steps
def Pf (o : UInt32) (v : Value) : Prop := ∃ r, v = .float r ∧ alike32 r o = true

set_option maxRecDepth 100000 in
set_option maxHeartbeats 4000000 in
theorem c_X10_timeByN (l : Launch) (D : va_G) (N : Nat) {q_this q_now q_steps : Nat} {w_kept w_trial w_refusals w_row w_letters w_dists w_left w_partners w_times w_spliced w_piece w_balances w_prices w_hands w_hand w_dealing : Value} {v_hasImage : Int32} {v_rows : Int32} {v_lettered : Int32} {v_stepsMany : Int32} {v_splicedMany : Int32} {v_most : Int32} {v_together : Int32} {v_z : Int32} {v_now : (Nat → Int32)} {v_steps : (Nat → Int32)} {o : UInt32} (h : tBn N v_stepsMany v_now v_steps = some o) : CTP l D yX10_timeBy cX10_timeBy 6 (Option.some FieldType.float) 1 [.ref q_this, .int 0, .int 0] (w_X10_timeBy D q_this q_now q_steps w_kept w_trial w_refusals w_row w_letters w_dists w_left w_partners w_times w_spliced w_piece w_balances w_prices w_hands w_hand w_dealing v_hasImage v_rows v_lettered v_stepsMany v_splicedMany v_most v_together v_z v_now v_steps) (w_X10_timeBy D q_this q_now q_steps w_kept w_trial w_refusals w_row w_letters w_dists w_left w_partners w_times w_spliced w_piece w_balances w_prices w_hands w_hand w_dealing v_hasImage v_rows v_lettered v_stepsMany v_splicedMany v_most v_together v_z v_now v_steps) (Pf o) := by
  refine CTP.of mk_X10_timeBy (Nat.le_of_ble_eq_true rfl) (fun g hl hD C0 E d0 hd0 => ?_)
  subst hl
  subst hD
  unfold tBn at h
  obtain ⟨e_12, hl_12, h⟩ := of_bind h
  have h := Option.some.inj h
  have C := C0.gdr d0
  refine j_iload_n C dX10_timeBy_0 rfl ?_
  refine j_i2f C dX10_timeBy_1 ?_
  refine j_iload_n C dX10_timeBy_2 rfl ?_
  refine j_i2f C dX10_timeBy_3 ?_
  refine j_fdivD C0 hd0 dX10_timeBy_4 (fun r3 d1 hr3 hd1 => ?_)
  have n3 : isNaN32 r3 = true := alike_nan hr3 div00
  have C := C0.gdr d1
  refine j_fstore_n C dX10_timeBy_5 (by decide) ?_
  refine j_fconst0 C dX10_timeBy_6 ?_
  refine j_fstore C dX10_timeBy_7 (by decide) ?_
  refine j_iconst C (0) dX10_timeBy_9 ki_0 ?_
  refine j_istore C dX10_timeBy_10 (by decide) ?_
  refine j_lv (lv' := [(0, .ref q_this), (3, .float r3), (4, .float (FP.fconst0)), (5, .int ((0 : Int32)))]) rfl ?_
  refine lp_ind hl_12 (fun s_12 => ∀ (v4 : UInt32) (d : Drawn), (gst g).drawn.sameBut d lw_cs → ((s_12 = 0 ∧ v4 = FP.fconst0) ∨ (isNaN32 v4 = true ∧ ¬ v_stepsMany ≤ 0)) → J (gdr g d) (w_X10_timeBy (gD g) q_this q_now q_steps w_kept w_trial w_refusals w_row w_letters w_dists w_left w_partners w_times w_spliced w_piece w_balances w_prices w_hands w_hand w_dealing v_hasImage v_rows v_lettered v_stepsMany v_splicedMany v_most v_together v_z v_now v_steps) [(0, .ref q_this), (3, .float r3), (4, .float v4), (5, .int (s_12))] 12 []) (fun s_12 r_12 h2 hc_12 hx_12 => ?_) FP.fconst0 d1 hd1 (Or.inl ⟨rfl, rfl⟩)
  intro v4 d hd hv4
  have C := C0.gdr d
  unfold tBn_b12 at h2
  refine j_iload C dX10_timeBy_12 rfl ?_
  refine j_aload_n C dX10_timeBy_14 rfl ?_
  refine j_get C 0 w_X10_timeBy_g0 rfl inX10 12 (by decide) kw_993 rfl rfl dX10_timeBy_15 ?_
  refine j_icmp_ge C h2 49 dX10_timeBy_18 (by decide) (fun hc h2 => ?_) (fun hc h2 => ?_)
  · refine j_fload C dX10_timeBy_49 rfl ?_
    refine j_fretD C0 E hd ⟨v4, rfl, ?_⟩ dX10_timeBy_51
    subst h
    rcases hv4 with ⟨q1, q2⟩ | ⟨q1, q2⟩
    · subst q1 q2
      rw [if_pos hc]
      rfl
    · rw [if_neg q2]
      exact alike_of_nan q1 (by decide)
  · refine j_fload C dX10_timeBy_21 rfl ?_
    refine j_aload_n C dX10_timeBy_23 rfl ?_
    refine j_get C 0 w_X10_timeBy_g0 rfl inX10 0 (by decide) kw_981 rfl rfl dX10_timeBy_24 ?_
    refine j_aload_n C dX10_timeBy_27 rfl ?_
    refine j_get C 0 w_X10_timeBy_g0 rfl inX10 11 (by decide) kw_992 rfl rfl dX10_timeBy_28 ?_
    refine j_iload C dX10_timeBy_31 rfl ?_
    refine j_iaload 2 C h2 w_X10_timeBy_g2 rfl dX10_timeBy_33 (fun h2 => ?_)
    obtain ⟨r_cost_1, h_1, h2⟩ := of_bind h2
    refine j_callS1 C mk_X10_cost ms_X10_cost kw_1142 (c_X10_cost _ _ h_1) (by decide) [1] (hC_cons w_X10_timeBy_g1 hC_nil) rfl (w_X10_cost_a.trans w_X10_cost_a.symm) rfl rfl (Nat.le_of_ble_eq_true rfl) dX10_timeBy_34 (wput_cons w_X10_timeBy_s1 wput_nil) ?_
    refine j_i2f C dX10_timeBy_37 ?_
    refine j_fload_n C dX10_timeBy_38 rfl ?_
    refine j_fdivD C0 hd dX10_timeBy_39 (fun r5 d2 hr5 hd2 => ?_)
    have n5 : isNaN32 r5 = true := alike_nan hr5 (fdiv_nan n3)
    refine j_faddD C0 hd2 dX10_timeBy_40 (fun r6 d3 hr6 hd3 => ?_)
    have n6 : isNaN32 r6 = true := alike_nan hr6 (fadd_nan n5)
    have C := C0.gdr d3
    refine j_fstore C dX10_timeBy_41 (by decide) ?_
    refine j_inc C (1) dX10_timeBy_43 rfl ki_1 (by decide) ?_
    refine j_goto C 12 dX10_timeBy_46 (by decide) ?_
    have h2 := Option.some.inj h2
    subst h2
    have hm : ¬ v_stepsMany ≤ 0 := by
      rcases hv4 with ⟨q1, q2⟩ | ⟨q1, q2⟩
      · subst q1
        exact hc
      · exact q2
    have hc9 := hc_12 _ rfl r6 d3 hd3 (Or.inr ⟨n6, hm⟩)
    exact j_lw hc9 rfl

set_option maxRecDepth 100000 in
set_option maxHeartbeats 4000000 in
theorem c_tB (l : Launch) (D : va_G) (N : Nat) {q_this q_now q_steps : Nat} {w_kept w_trial w_refusals w_row w_letters w_dists w_left w_partners w_times w_spliced w_piece w_balances w_prices w_hands w_hand w_dealing : Value} {v_hasImage : Int32} {v_rows : Int32} {v_lettered : Int32} {v_stepsMany : Int32} {v_splicedMany : Int32} {v_most : Int32} {v_together : Int32} {v_z : Int32} {v_now : (Nat → Int32)} {v_steps : (Nat → Int32)} {x1 : Int32} {x2 : Int32} {o : UInt32} (h : tB N x1 x2 v_stepsMany v_now v_steps = some o) : CTP l D yX10_timeBy cX10_timeBy 6 (Option.some FieldType.float) 1 [.ref q_this, .int x1, .int x2] (w_X10_timeBy D q_this q_now q_steps w_kept w_trial w_refusals w_row w_letters w_dists w_left w_partners w_times w_spliced w_piece w_balances w_prices w_hands w_hand w_dealing v_hasImage v_rows v_lettered v_stepsMany v_splicedMany v_most v_together v_z v_now v_steps) (w_X10_timeBy D q_this q_now q_steps w_kept w_trial w_refusals w_row w_letters w_dists w_left w_partners w_times w_spliced w_piece w_balances w_prices w_hands w_hand w_dealing v_hasImage v_rows v_lettered v_stepsMany v_splicedMany v_most v_together v_z v_now v_steps) (Pf o) := by
  unfold tB at h
  by_cases z : x1 = 0 ∧ x2 = 0
  · rw [if_pos z] at h
    obtain ⟨rfl, rfl⟩ := z
    exact c_X10_timeByN l D N h
  · rw [if_neg z] at h
    exact CTP.of_CT (c_X10_timeBy l D N h) ⟨o, rfl, alike32_refl o⟩

def fD_X10_time (N : Nat) (x1 : Int32) (x2 : Int32) (v_stepsMany : Int32) (v_now : (Nat → Int32)) (v_left : (Nat → Int32)) (v_steps : (Nat → Int32)) : Option (Int32 × Int32 × (Nat → Int32) × (Nat → Int32)) :=
  (f_X10_walks N v_stepsMany v_left v_steps v_now).bind (fun r_walks_1 => ((if 0 ≤ r_walks_1.1 then (tB N x1 x2 r_walks_1.2.1 v_now r_walks_1.2.2.2).bind (fun r_timeBy_3 => some r_timeBy_3) else some (3212836864 : UInt32)) : Option UInt32).bind (fun m_2 => (f_Jxf58ca_floatToIntBits_5c35a m_2).bind (fun r_floatToIntBits_4 => some (r_floatToIntBits_4, r_walks_1.2.1, r_walks_1.2.2.1, r_walks_1.2.2.2))))

set_option maxRecDepth 100000 in
set_option maxHeartbeats 4000000 in
theorem cD_X10_time (l : Launch) (D : va_G) (N : Nat) {q_this q_now q_left q_steps : Nat} {w_kept w_trial w_refusals w_row w_letters w_dists w_partners w_times w_spliced w_piece w_balances w_prices w_hands w_hand w_dealing : Value} {v_hasImage : Int32} {v_rows : Int32} {v_lettered : Int32} {v_stepsMany : Int32} {v_splicedMany : Int32} {v_most : Int32} {v_together : Int32} {v_z : Int32} {v_now : (Nat → Int32)} {v_left : (Nat → Int32)} {v_steps : (Nat → Int32)} {x1 : Int32} {x2 : Int32} {o : (Int32 × Int32 × (Nat → Int32) × (Nat → Int32))} (h : fD_X10_time N x1 x2 v_stepsMany v_now v_left v_steps = some o) : CTP l D yX10_time cX10_time 3 (Option.some FieldType.int) 6 [.ref q_this, .int x1, .int x2] (w_X10_time D q_this q_now q_left q_steps w_kept w_trial w_refusals w_row w_letters w_dists w_partners w_times w_spliced w_piece w_balances w_prices w_hands w_hand w_dealing v_hasImage v_rows v_lettered v_stepsMany v_splicedMany v_most v_together v_z v_now v_left v_steps) (w_X10_time D q_this q_now q_left q_steps w_kept w_trial w_refusals w_row w_letters w_dists w_partners w_times w_spliced w_piece w_balances w_prices w_hands w_hand w_dealing v_hasImage v_rows v_lettered o.2.1 v_splicedMany v_most v_together v_z v_now o.2.2.1 o.2.2.2) (fun v => v = .int o.1) := by
  refine CTP.of mk_X10_time (Nat.le_of_ble_eq_true rfl) (fun g hl hD C0 E d0 hd0 => ?_)
  subst hl
  subst hD
  unfold fD_X10_time at h
  have C := C0.gdr d0
  refine j_aload_n C dX10_time_0 rfl ?_
  refine j_aload_n C dX10_time_1 rfl ?_
  refine j_get C 0 w_X10_time_g0 rfl inX10 0 (by decide) kw_981 rfl rfl dX10_time_2 ?_
  obtain ⟨r_walks_1, h_1, h⟩ := of_bind h
  refine j_callV1 C mk_X10_walks ms_X10_walks kw_1192 (c_X10_walks _ _ N h_1) (by decide) 0 w_X10_time_g0 rfl [0, 2, 3, 1] (hC_cons w_X10_time_g0 (hC_cons w_X10_time_g2 (hC_cons w_X10_time_g3 (hC_cons w_X10_time_g1 hC_nil)))) rfl (w_X10_walks_a.trans w_X10_walks_a.symm) rfl rfl (Nat.le_of_ble_eq_true rfl) dX10_time_5 (wput_cons w_X10_time_s0 (wput_cons w_X10_time_s2 (wput_cons w_X10_time_s3 (wput_cons w_X10_time_s1 wput_nil)))) ?_
  obtain ⟨m_2, hm_2, h⟩ := of_bind h
  have hj_2 : ∀ (r : UInt32) (d : Drawn), alike32 r m_2 = true → (gst g).drawn.sameBut d lw_cs → J (gdr g d) (w_X10_time (gD g) q_this q_now q_left q_steps w_kept w_trial w_refusals w_row w_letters w_dists w_partners w_times w_spliced w_piece w_balances w_prices w_hands w_hand w_dealing v_hasImage v_rows v_lettered r_walks_1.2.1 v_splicedMany v_most v_together v_z v_now r_walks_1.2.2.1 r_walks_1.2.2.2) [] 22 [.float r] := by
    intro r d hr hd
    have C := C0.gdr d
    obtain ⟨r_floatToIntBits_4, h_4, h⟩ := of_bind h
    rw [← fb_alike hr] at h_4
    refine j_callSF1 C mk_Jxf58ca_floatToIntBits_5c35a ms_Jxf58ca_floatToIntBits_5c35a kw_1232 (c_Jxf58ca_floatToIntBits_5c35a _ _ h_4) (by decide) [] hC_nil rfl (w_Jxf58ca_floatToIntBits_5c35a_a.trans w_Jxf58ca_floatToIntBits_5c35a_a.symm) rfl rfl (Nat.le_of_ble_eq_true rfl) dX10_time_22 wput_nil ?_
    have h := Option.some.inj h
    subst h
    exact j_iretD C0 E hd rfl dX10_time_25
  refine j_if_ge C hm_2 16 dX10_time_8 (by decide) (fun hc h => ?_) (fun hc h => ?_)
  · refine j_aload_n C dX10_time_16 rfl ?_
    refine j_iload_n C dX10_time_17 rfl ?_
    refine j_iload_n C dX10_time_18 rfl ?_
    obtain ⟨r_timeBy_3, h_3, h⟩ := of_bind h
    refine j_callVD C0 hd0 mk_X10_timeBy ms_X10_timeBy kw_1228 (c_tB _ _ N h_3) (by decide) 0 w_X10_time_g0 rfl [0, 1, 3] (hC_cons w_X10_time_g0 (hC_cons w_X10_time_g1 (hC_cons w_X10_time_g3 hC_nil))) rfl (w_X10_timeBy_a.trans w_X10_timeBy_a.symm) rfl rfl (Nat.le_of_ble_eq_true rfl) dX10_time_19 (wput_cons w_X10_time_s0 (wput_cons w_X10_time_s1 (wput_cons w_X10_time_s3 wput_nil))) (fun v d1 hv hd1 => ?_)
    obtain ⟨r, rfl, hr⟩ := hv
    have h := Option.some.inj h
    subst h
    exact j_lw (hj_2 r d1 hr hd1) rfl
  · refine j_ldcf C kw_1227 dX10_time_11 ?_
    refine j_goto C 22 dX10_time_13 (by decide) ?_
    have h := Option.some.inj h
    subst h
    exact j_lw (hj_2 _ d0 (alike32_refl _) hd0) rfl

def fD_X10_rank (N : Nat) (x1 : Int32) (x2 : Int32) (x3 : Int32) (x4 : Int32) (v_stepsMany : Int32) (v_now : (Nat → Int32)) (v_refusals : (Nat → Int32)) (v_left : (Nat → Int32)) (v_steps : (Nat → Int32)) : Option (Int32 × Int32 × (Nat → Int32) × (Nat → Int32) × (Nat → Int32)) :=
  (f_X10_walks N v_stepsMany v_left v_steps v_now).bind (fun r_walks_1 => (if 0 ≤ r_walks_1.1 then (tB N x1 x2 r_walks_1.2.1 v_now r_walks_1.2.2.2).bind (fun r_timeBy_2 => (tB N x3 x4 r_walks_1.2.1 v_now r_walks_1.2.2.2).bind (fun r_timeBy_3 => (f_Jxf58ca_compare_66c2b r_timeBy_2 r_timeBy_3).bind (fun r_compare_4 => some (r_compare_4, r_walks_1.2.1, v_refusals, r_walks_1.2.2.1, r_walks_1.2.2.2)))) else (f_X10_refusedBelow (-3 : Int32) v_refusals).bind (fun r_refusedBelow_5 => some (r_refusedBelow_5.1, r_walks_1.2.1, r_refusedBelow_5.2, r_walks_1.2.2.1, r_walks_1.2.2.2))))

set_option maxRecDepth 100000 in
set_option maxHeartbeats 4000000 in
theorem cD_X10_rank (l : Launch) (D : va_G) (N : Nat) {q_this q_now q_refusals q_left q_steps : Nat} {w_kept w_trial w_row w_letters w_dists w_partners w_times w_spliced w_piece w_balances w_prices w_hands w_hand w_dealing : Value} {v_hasImage : Int32} {v_rows : Int32} {v_lettered : Int32} {v_stepsMany : Int32} {v_splicedMany : Int32} {v_most : Int32} {v_together : Int32} {v_z : Int32} {v_now : (Nat → Int32)} {v_refusals : (Nat → Int32)} {v_left : (Nat → Int32)} {v_steps : (Nat → Int32)} {x1 : Int32} {x2 : Int32} {x3 : Int32} {x4 : Int32} {o : (Int32 × Int32 × (Nat → Int32) × (Nat → Int32) × (Nat → Int32))} (h : fD_X10_rank N x1 x2 x3 x4 v_stepsMany v_now v_refusals v_left v_steps = some o) : CTP l D yX10_rank cX10_rank 5 (Option.some FieldType.int) 6 [.ref q_this, .int x1, .int x2, .int x3, .int x4] (w_X10_rank D q_this q_now q_refusals q_left q_steps w_kept w_trial w_row w_letters w_dists w_partners w_times w_spliced w_piece w_balances w_prices w_hands w_hand w_dealing v_hasImage v_rows v_lettered v_stepsMany v_splicedMany v_most v_together v_z v_now v_refusals v_left v_steps) (w_X10_rank D q_this q_now q_refusals q_left q_steps w_kept w_trial w_row w_letters w_dists w_partners w_times w_spliced w_piece w_balances w_prices w_hands w_hand w_dealing v_hasImage v_rows v_lettered o.2.1 v_splicedMany v_most v_together v_z v_now o.2.2.1 o.2.2.2.1 o.2.2.2.2) (fun v => v = .int o.1) := by
  refine CTP.of mk_X10_rank (Nat.le_of_ble_eq_true rfl) (fun g hl hD C0 E d0 hd0 => ?_)
  subst hl
  subst hD
  unfold fD_X10_rank at h
  have C := C0.gdr d0
  refine j_aload_n C dX10_rank_0 rfl ?_
  refine j_aload_n C dX10_rank_1 rfl ?_
  refine j_get C 0 w_X10_rank_g0 rfl inX10 0 (by decide) kw_981 rfl rfl dX10_rank_2 ?_
  obtain ⟨r_walks_1, h_1, h⟩ := of_bind h
  refine j_callV1 C mk_X10_walks ms_X10_walks kw_1192 (c_X10_walks _ _ N h_1) (by decide) 0 w_X10_rank_g0 rfl [0, 3, 4, 1] (hC_cons w_X10_rank_g0 (hC_cons w_X10_rank_g3 (hC_cons w_X10_rank_g4 (hC_cons w_X10_rank_g1 hC_nil)))) rfl (w_X10_walks_a.trans w_X10_walks_a.symm) rfl rfl (Nat.le_of_ble_eq_true rfl) dX10_rank_5 (wput_cons w_X10_rank_s0 (wput_cons w_X10_rank_s3 (wput_cons w_X10_rank_s4 (wput_cons w_X10_rank_s1 wput_nil)))) ?_
  refine j_if_ge C h 18 dX10_rank_8 (by decide) (fun hc h => ?_) (fun hc h => ?_)
  · refine j_aload_n C dX10_rank_18 rfl ?_
    refine j_iload_n C dX10_rank_19 rfl ?_
    refine j_iload_n C dX10_rank_20 rfl ?_
    obtain ⟨r_timeBy_2, h_2, h⟩ := of_bind h
    refine j_callVD C0 hd0 mk_X10_timeBy ms_X10_timeBy kw_1228 (c_tB _ _ N h_2) (by decide) 0 w_X10_rank_g0 rfl [0, 1, 4] (hC_cons w_X10_rank_g0 (hC_cons w_X10_rank_g1 (hC_cons w_X10_rank_g4 hC_nil))) rfl (w_X10_timeBy_a.trans w_X10_timeBy_a.symm) rfl rfl (Nat.le_of_ble_eq_true rfl) dX10_rank_21 (wput_cons w_X10_rank_s0 (wput_cons w_X10_rank_s1 (wput_cons w_X10_rank_s4 wput_nil))) (fun v d1 hv hd1 => ?_)
    obtain ⟨r1, rfl, hr1⟩ := hv
    have C := C0.gdr d1
    refine j_aload_n C dX10_rank_24 rfl ?_
    refine j_iload_n C dX10_rank_25 rfl ?_
    refine j_iload C dX10_rank_26 rfl ?_
    obtain ⟨r_timeBy_3, h_3, h⟩ := of_bind h
    refine j_callVD C0 hd1 mk_X10_timeBy ms_X10_timeBy kw_1228 (c_tB _ _ N h_3) (by decide) 0 w_X10_rank_g0 rfl [0, 1, 4] (hC_cons w_X10_rank_g0 (hC_cons w_X10_rank_g1 (hC_cons w_X10_rank_g4 hC_nil))) rfl (w_X10_timeBy_a.trans w_X10_timeBy_a.symm) rfl rfl (Nat.le_of_ble_eq_true rfl) dX10_rank_28 (wput_cons w_X10_rank_s0 (wput_cons w_X10_rank_s1 (wput_cons w_X10_rank_s4 wput_nil))) (fun v d2 hv hd2 => ?_)
    obtain ⟨r2, rfl, hr2⟩ := hv
    have C := C0.gdr d2
    obtain ⟨r_compare_4, h_4, h⟩ := of_bind h
    rw [← cmp_alike hr1 hr2] at h_4
    refine j_callSF1 C mk_Jxf58ca_compare_66c2b ms_Jxf58ca_compare_66c2b kw_1251 (c_Jxf58ca_compare_66c2b _ _ h_4) (by decide) [] hC_nil rfl (w_Jxf58ca_compare_66c2b_a.trans w_Jxf58ca_compare_66c2b_a.symm) rfl rfl (Nat.le_of_ble_eq_true rfl) dX10_rank_31 wput_nil ?_
    have h := Option.some.inj h
    subst h
    exact j_iretD C0 E hd2 rfl dX10_rank_34
  · refine j_aload_n C dX10_rank_11 rfl ?_
    refine j_bipush C (-3) dX10_rank_12 kb_m3 ?_
    obtain ⟨r_refusedBelow_5, h_5, h⟩ := of_bind h
    refine j_callV1 C mk_X10_refusedBelow ms_X10_refusedBelow kw_1246 (c_X10_refusedBelow _ _ h_5) (by decide) 0 w_X10_rank_g0 rfl [0, 2] (hC_cons w_X10_rank_g0 (hC_cons w_X10_rank_g2 hC_nil)) rfl (w_X10_refusedBelow_a.trans w_X10_refusedBelow_a.symm) rfl rfl (Nat.le_of_ble_eq_true rfl) dX10_rank_14 (wput_cons w_X10_rank_s0 (wput_cons w_X10_rank_s2 wput_nil)) ?_
    have h := Option.some.inj h
    subst h
    exact j_iretD C0 E hd0 rfl dX10_rank_17

set_option maxRecDepth 100000 in
set_option maxHeartbeats 4000000 in
theorem tD_X10_time (l : Launch) (D : va_G) (N : Nat) {q : Nat → Nat} {A I : Nat → Nat → Int32} {x1 : Int32} {x2 : Int32} {o : (Int32 × Int32 × (Nat → Int32) × (Nat → Int32))} (h : fD_X10_time N x1 x2 (I 65 12) (A 66) (A 73) (A 74) = some o) : CTP l D yX10_time cX10_time 3 (Option.some FieldType.int) 6 [.ref (q 65), .int x1, .int x2] (wALL D q A I) (wALL D q (uA_X10_time A I o) (uI_X10_time A I o)) (fun v => v = .int o.1) :=
  CTP.lift (cD_X10_time l D N h) [65, 66, 73, 74] (hC_cons wA_g65 (hC_cons wA_g66 (hC_cons wA_g73 (hC_cons wA_g74 hC_nil)))) rfl (w_X10_time_a.trans w_X10_time_a.symm) (wput_cons wA_s65 (wput_cons wA_s66 (wput_cons wA_s73 (wput_cons wA_s74 wput_nil))))

set_option maxRecDepth 100000 in
set_option maxHeartbeats 4000000 in
theorem tD_X10_rank (l : Launch) (D : va_G) (N : Nat) {q : Nat → Nat} {A I : Nat → Nat → Int32} {x1 : Int32} {x2 : Int32} {x3 : Int32} {x4 : Int32} {o : (Int32 × Int32 × (Nat → Int32) × (Nat → Int32) × (Nat → Int32))} (h : fD_X10_rank N x1 x2 x3 x4 (I 65 12) (A 66) (A 69) (A 73) (A 74) = some o) : CTP l D yX10_rank cX10_rank 5 (Option.some FieldType.int) 6 [.ref (q 65), .int x1, .int x2, .int x3, .int x4] (wALL D q A I) (wALL D q (uA_X10_rank A I o) (uI_X10_rank A I o)) (fun v => v = .int o.1) :=
  CTP.lift (cD_X10_rank l D N h) [65, 66, 69, 73, 74] (hC_cons wA_g65 (hC_cons wA_g66 (hC_cons wA_g69 (hC_cons wA_g73 (hC_cons wA_g74 hC_nil))))) rfl (w_X10_rank_a.trans w_X10_rank_a.symm) (wput_cons wA_s65 (wput_cons wA_s66 (wput_cons wA_s69 (wput_cons wA_s73 (wput_cons wA_s74 wput_nil)))))
