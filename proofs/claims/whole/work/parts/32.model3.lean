def w_X10_loose (D : va_G) (q_this q_now q_refusals q_left : Nat) (w_kept w_trial w_row w_letters w_dists w_steps w_partners w_times w_spliced w_piece w_balances w_prices w_hands w_hand w_dealing : Value) (v_hasImage : Int32) (v_rows : Int32) (v_lettered : Int32) (v_stepsMany : Int32) (v_splicedMany : Int32) (v_most : Int32) (v_together : Int32) (v_z : Int32) (v_now : (Nat → Int32)) (v_refusals : (Nat → Int32)) (v_left : (Nat → Int32)) : va_W := [(q_this, .inr (9, [.ref q_now, w_kept, w_trial, .int v_hasImage, .ref q_refusals, w_row, .int v_rows, w_letters, .int v_lettered, w_dists, .ref q_left, w_steps, .int v_stepsMany, w_partners, w_times, w_spliced, .int v_splicedMany, w_piece, w_balances, w_prices, w_hands, w_hand, w_dealing, .int v_most, .int v_together, .int v_z])), (q_now, .inl (D.1 100, 50, .inl v_now)), (q_refusals, .inl (D.1 100, 7, .inl v_refusals)), (q_left, .inl (D.1 100, 1536, .inl v_left))]
def f_X10_loose_b26 (N : Nat) (x4_26 : Int32) (x2_26 : Int32) (x3_26 : Int32) (v_left_26 : (Nat → Int32)) (v_now : (Nat → Int32)) : Option ((Int32 × Int32 × Int32 × (Nat → Int32)) ⊕ (Int32 × Int32 × (Nat → Int32))) :=
  (if (6 : Int32) ≤ x4_26 then some (.inr (x2_26, x3_26, v_left_26)) else (f_X10_due N v_now).bind (fun r_due_2 => (f_X10_seeks N r_due_2 x4_26 v_left_26 v_now).bind (fun r_seeks_3 => some (.inl (if r_seeks_3.1 < 0 then x2_26 else (if x2_26 < 0 then r_seeks_3.1 else (if x2_26 ≤ r_seeks_3.1 then x2_26 else r_seeks_3.1)), if r_seeks_3.1 < 0 then x3_26 else (if x2_26 < 0 then x4_26 else (if x2_26 ≤ r_seeks_3.1 then x3_26 else x4_26)), x4_26 + (1 : Int32), r_seeks_3.2)))))
def f_X10_loose (N : Nat) (x1 : Int32) (v_now : (Nat → Int32)) (v_refusals : (Nat → Int32)) (v_left : (Nat → Int32)) : Option (Int32 × (Nat → Int32) × (Nat → Int32)) :=
  (f_X10_in (Int32.toInt64 x1) (0 : Int64) (1 : Int64)).bind (fun r_in_1 => (if r_in_1 = 0 then (f_X10_refused (-2 : Int32) v_refusals).bind (fun r_refused_6 => some (r_refused_6.1, r_refused_6.2, v_left)) else (lp (fun s_26 => f_X10_loose_b26 N s_26.2.2.1 s_26.1 s_26.2.1 s_26.2.2.2 v_now) N ((-9 : Int32), (-9 : Int32), (0 : Int32), v_left)).bind (fun e_26 => some (if x1 = 0 then e_26.1 else e_26.2.1, v_refusals, e_26.2.2))))
set_option maxRecDepth 100000 in
set_option maxHeartbeats 4000000 in
theorem c_X10_loose (l : Launch) (D : va_G) (N : Nat) {q_this q_now q_refusals q_left : Nat} {w_kept w_trial w_row w_letters w_dists w_steps w_partners w_times w_spliced w_piece w_balances w_prices w_hands w_hand w_dealing : Value} {v_hasImage : Int32} {v_rows : Int32} {v_lettered : Int32} {v_stepsMany : Int32} {v_splicedMany : Int32} {v_most : Int32} {v_together : Int32} {v_z : Int32} {v_now : (Nat → Int32)} {v_refusals : (Nat → Int32)} {v_left : (Nat → Int32)} {x1 : Int32} {o : (Int32 × (Nat → Int32) × (Nat → Int32))} (h : f_X10_loose N x1 v_now v_refusals v_left = some o) : CT l D yX10_loose cX10_loose 6 (Option.some FieldType.int) 4 [.ref q_this, .int x1] (w_X10_loose D q_this q_now q_refusals q_left w_kept w_trial w_row w_letters w_dists w_steps w_partners w_times w_spliced w_piece w_balances w_prices w_hands w_hand w_dealing v_hasImage v_rows v_lettered v_stepsMany v_splicedMany v_most v_together v_z v_now v_refusals v_left) (w_X10_loose D q_this q_now q_refusals q_left w_kept w_trial w_row w_letters w_dists w_steps w_partners w_times w_spliced w_piece w_balances w_prices w_hands w_hand w_dealing v_hasImage v_rows v_lettered v_stepsMany v_splicedMany v_most v_together v_z v_now o.2.1 o.2.2) (some (.int o.1)) := by
  refine CT.of mk_X10_loose (Nat.le_of_ble_eq_true rfl) (fun g hl hD C E => ?_)
  subst hl
  subst hD
  unfold f_X10_loose at h
  refine j_iload_n C dX10_loose_0 rfl ?_
  refine j_i2l C dX10_loose_1 ?_
  refine j_lconst C 0 dX10_loose_2 rfl ?_
  refine j_lconst C 1 dX10_loose_3 rfl ?_
  obtain ⟨r_in_1, h_1, h⟩ := of_bind h
  refine j_callS1 C mk_X10_in ms_X10_in kw_1085 (c_X10_in (gl g) (gD g) h_1) (by decide) [] rfl rfl rfl rfl rfl (Nat.le_of_ble_eq_true rfl) dX10_loose_4 ?_
  refine j_ws (ws' := (w_X10_loose (gD g) q_this q_now q_refusals q_left w_kept w_trial w_row w_letters w_dists w_steps w_partners w_times w_spliced w_piece w_balances w_prices w_hands w_hand w_dealing v_hasImage v_rows v_lettered v_stepsMany v_splicedMany v_most v_together v_z v_now v_refusals v_left)) rfl ?_
  refine j_if_ne C h 17 dX10_loose_7 (by decide) (fun hc h => ?_) (fun hc h => ?_)
  · refine j_aload_n C dX10_loose_10 rfl ?_
    refine j_bipush C (-2) dX10_loose_11 kb_m2 ?_
    obtain ⟨r_refused_6, h_6, h⟩ := of_bind h
    refine j_callV1 C mk_X10_refused ms_X10_refused kw_1064 (c_X10_refused (gl g) (gD g) h_6) (by decide) 0 rfl rfl [0, 2] rfl rfl rfl rfl rfl (Nat.le_of_ble_eq_true rfl) dX10_loose_13 ?_
    refine j_ws (ws' := (w_X10_loose (gD g) q_this q_now q_refusals q_left w_kept w_trial w_row w_letters w_dists w_steps w_partners w_times w_spliced w_piece w_balances w_prices w_hands w_hand w_dealing v_hasImage v_rows v_lettered v_stepsMany v_splicedMany v_most v_together v_z v_now r_refused_6.2 v_left)) rfl ?_
    have h := Option.some.inj h
    subst h
    exact j_iret C E dX10_loose_16
  · refine j_bipush C (-9) dX10_loose_17 kb_m9 ?_
    refine j_istore_n C dX10_loose_19 (by decide) ?_
    refine j_bipush C (-9) dX10_loose_20 kb_m9 ?_
    refine j_istore_n C dX10_loose_22 (by decide) ?_
    refine j_iconst C (0) dX10_loose_23 ki_0 ?_
    refine j_istore C dX10_loose_24 (by decide) ?_
    obtain ⟨e_26, hl_26, h⟩ := of_bind h
    have ha_26 : J g (w_X10_loose (gD g) q_this q_now q_refusals q_left w_kept w_trial w_row w_letters w_dists w_steps w_partners w_times w_spliced w_piece w_balances w_prices w_hands w_hand w_dealing v_hasImage v_rows v_lettered v_stepsMany v_splicedMany v_most v_together v_z v_now v_refusals e_26.2.2) [(1, .int (x1)), (2, .int (e_26.1)), (3, .int (e_26.2.1))] 79 [] := by
      refine j_iload_n C dX10_loose_79 rfl ?_
      have hj_5 : J g (w_X10_loose (gD g) q_this q_now q_refusals q_left w_kept w_trial w_row w_letters w_dists w_steps w_partners w_times w_spliced w_piece w_balances w_prices w_hands w_hand w_dealing v_hasImage v_rows v_lettered v_stepsMany v_splicedMany v_most v_together v_z v_now v_refusals e_26.2.2) [] 88 [.int (if x1 = 0 then e_26.1 else e_26.2.1)] := by
        have h := Option.some.inj h
        subst h
        exact j_iret C E dX10_loose_88
      refine jv_if_ne C 87 dX10_loose_80 (by decide) (fun hc => ?_) (fun hc => ?_)
      · try simp only [if_pos hc] at hj_5
        refine j_iload_n C dX10_loose_83 rfl ?_
        refine j_goto C 88 dX10_loose_84 (by decide) ?_
        exact j_lw hj_5 rfl
      · try simp only [if_neg hc] at hj_5
        refine j_iload_n C dX10_loose_87 rfl ?_
        exact j_lw hj_5 rfl
    refine j_lv (lv' := [(0, .ref q_this), (1, .int (x1)), (2, .int ((-9 : Int32))), (3, .int ((-9 : Int32))), (4, .int ((0 : Int32)))]) rfl ?_
    refine lp_ind hl_26 (fun s_26 => J g (w_X10_loose (gD g) q_this q_now q_refusals q_left w_kept w_trial w_row w_letters w_dists w_steps w_partners w_times w_spliced w_piece w_balances w_prices w_hands w_hand w_dealing v_hasImage v_rows v_lettered v_stepsMany v_splicedMany v_most v_together v_z v_now v_refusals s_26.2.2.2) [(0, .ref q_this), (1, .int (x1)), (2, .int (s_26.1)), (3, .int (s_26.2.1)), (4, .int (s_26.2.2.1))] 26 []) (fun s_26 r_26 h hc_26 hx_26 => ?_)
    unfold f_X10_loose_b26 at h
    refine j_iload C dX10_loose_26 rfl ?_
    refine j_bipush C (6) dX10_loose_28 kb_6 ?_
    refine j_icmp_ge C h 79 dX10_loose_30 (by decide) (fun hc h => ?_) (fun hc h => ?_)
    · have h := Option.some.inj h
      subst h
      have h9 := hx_26 _ rfl
      subst h9
      exact j_lw ha_26 rfl
    · refine j_aload_n C dX10_loose_33 rfl ?_
      refine j_aload_n C dX10_loose_34 rfl ?_
      refine j_get C 0 rfl rfl inX10 0 (by decide) kw_981 rfl rfl dX10_loose_35 ?_
      refine j_aload_n C dX10_loose_38 rfl ?_
      refine j_get C 0 rfl rfl inX10 0 (by decide) kw_981 rfl rfl dX10_loose_39 ?_
      obtain ⟨r_due_2, h_2, h⟩ := of_bind h
      refine j_callS1 C mk_X10_due ms_X10_due kw_1200 (c_X10_due (gl g) (gD g) N h_2) (by decide) [1] rfl rfl rfl rfl rfl (Nat.le_of_ble_eq_true rfl) dX10_loose_42 ?_
      refine j_ws (ws' := (w_X10_loose (gD g) q_this q_now q_refusals q_left w_kept w_trial w_row w_letters w_dists w_steps w_partners w_times w_spliced w_piece w_balances w_prices w_hands w_hand w_dealing v_hasImage v_rows v_lettered v_stepsMany v_splicedMany v_most v_together v_z v_now v_refusals s_26.2.2.2)) rfl ?_
      refine j_iload C dX10_loose_45 rfl ?_
      obtain ⟨r_seeks_3, h_3, h⟩ := of_bind h
      refine j_callV1 C mk_X10_seeks ms_X10_seeks kw_1203 (c_X10_seeks (gl g) (gD g) N h_3) (by decide) 0 rfl rfl [0, 3, 1] rfl rfl rfl rfl rfl (Nat.le_of_ble_eq_true rfl) dX10_loose_47 ?_
      refine j_ws (ws' := (w_X10_loose (gD g) q_this q_now q_refusals q_left w_kept w_trial w_row w_letters w_dists w_steps w_partners w_times w_spliced w_piece w_balances w_prices w_hands w_hand w_dealing v_hasImage v_rows v_lettered v_stepsMany v_splicedMany v_most v_together v_z v_now v_refusals r_seeks_3.2)) rfl ?_
      refine j_istore C dX10_loose_50 (by decide) ?_
      refine j_iload C dX10_loose_52 rfl ?_
      have hj_4 : J g (w_X10_loose (gD g) q_this q_now q_refusals q_left w_kept w_trial w_row w_letters w_dists w_steps w_partners w_times w_spliced w_piece w_balances w_prices w_hands w_hand w_dealing v_hasImage v_rows v_lettered v_stepsMany v_splicedMany v_most v_together v_z v_now v_refusals r_seeks_3.2) [(0, .ref q_this), (1, .int (x1)), (2, .int (if r_seeks_3.1 < 0 then s_26.1 else (if s_26.1 < 0 then r_seeks_3.1 else (if s_26.1 ≤ r_seeks_3.1 then s_26.1 else r_seeks_3.1)))), (3, .int (if r_seeks_3.1 < 0 then s_26.2.1 else (if s_26.1 < 0 then s_26.2.2.1 else (if s_26.1 ≤ r_seeks_3.1 then s_26.2.1 else s_26.2.2.1)))), (4, .int (s_26.2.2.1))] 73 [] := by
        refine j_inc C (1) dX10_loose_73 rfl ki_1 (by decide) ?_
        refine j_goto C 26 dX10_loose_76 (by decide) ?_
        have h := Option.some.inj h
        subst h
        have hc9 := hc_26 _ rfl
        exact j_lw hc9 rfl
      refine jv_if_lt C 73 dX10_loose_54 (by decide) (fun hc => ?_) (fun hc => ?_)
      · try simp only [if_pos hc] at hj_4
        exact j_lw hj_4 rfl
      · try simp only [if_neg hc] at hj_4
        refine j_iload_n C dX10_loose_57 rfl ?_
        refine jv_if_lt C 67 dX10_loose_58 (by decide) (fun hc => ?_) (fun hc => ?_)
        · try simp only [if_pos hc] at hj_4
          refine j_iload C dX10_loose_67 rfl ?_
          refine j_istore_n C dX10_loose_69 (by decide) ?_
          refine j_iload C dX10_loose_70 rfl ?_
          refine j_istore_n C dX10_loose_72 (by decide) ?_
          exact j_lw hj_4 rfl
        · try simp only [if_neg hc] at hj_4
          refine j_iload C dX10_loose_61 rfl ?_
          refine j_iload_n C dX10_loose_63 rfl ?_
          refine jv_icmp_ge C 73 dX10_loose_64 (by decide) (fun hc => ?_) (fun hc => ?_)
          · try simp only [if_pos hc] at hj_4
            exact j_lw hj_4 rfl
          · try simp only [if_neg hc] at hj_4
            refine j_iload C dX10_loose_67 rfl ?_
            refine j_istore_n C dX10_loose_69 (by decide) ?_
            refine j_iload C dX10_loose_70 rfl ?_
            refine j_istore_n C dX10_loose_72 (by decide) ?_
            exact j_lw hj_4 rfl

def w_X10_withoutOf (D : va_G) (q_this q_now q_trial q_left : Nat) (w_kept w_refusals w_row w_letters w_dists w_steps w_partners w_times w_spliced w_piece w_balances w_prices w_hands w_hand w_dealing : Value) (v_hasImage : Int32) (v_rows : Int32) (v_lettered : Int32) (v_stepsMany : Int32) (v_splicedMany : Int32) (v_most : Int32) (v_together : Int32) (v_z : Int32) (v_now : (Nat → Int32)) (v_trial : (Nat → Int32)) (v_left : (Nat → Int32)) : va_W := [(q_this, .inr (9, [.ref q_now, w_kept, .ref q_trial, .int v_hasImage, w_refusals, w_row, .int v_rows, w_letters, .int v_lettered, w_dists, .ref q_left, w_steps, .int v_stepsMany, w_partners, w_times, w_spliced, .int v_splicedMany, w_piece, w_balances, w_prices, w_hands, w_hand, w_dealing, .int v_most, .int v_together, .int v_z])), (q_now, .inl (D.1 100, 50, .inl v_now)), (q_trial, .inl (D.1 100, 50, .inl v_trial)), (q_left, .inl (D.1 100, 1536, .inl v_left))]
def f_X10_withoutOf (N : Nat) (x1 : Int32) (v_now : (Nat → Int32)) (v_trial : (Nat → Int32)) (v_left : (Nat → Int32)) : Option (Int32 × (Nat → Int32) × (Nat → Int32)) :=
  (f_X10_thought N v_now v_trial).bind (fun r_thought_1 => ga ((40 : Int32) + x1) 50 ((f_X10_roundOf N v_left (upd r_thought_1 (Int32.toNatClampNeg ((40 : Int32) + x1)) (0 : Int32))).bind (fun r_roundOf_2 => some (r_roundOf_2.1, upd r_thought_1 (Int32.toNatClampNeg ((40 : Int32) + x1)) (0 : Int32), r_roundOf_2.2))))
set_option maxRecDepth 100000 in
set_option maxHeartbeats 4000000 in
theorem c_X10_withoutOf (l : Launch) (D : va_G) (N : Nat) {q_this q_now q_trial q_left : Nat} {w_kept w_refusals w_row w_letters w_dists w_steps w_partners w_times w_spliced w_piece w_balances w_prices w_hands w_hand w_dealing : Value} {v_hasImage : Int32} {v_rows : Int32} {v_lettered : Int32} {v_stepsMany : Int32} {v_splicedMany : Int32} {v_most : Int32} {v_together : Int32} {v_z : Int32} {v_now : (Nat → Int32)} {v_trial : (Nat → Int32)} {v_left : (Nat → Int32)} {x1 : Int32} {o : (Int32 × (Nat → Int32) × (Nat → Int32))} (h : f_X10_withoutOf N x1 v_now v_trial v_left = some o) : CT l D yX10_withoutOf cX10_withoutOf 3 (Option.some FieldType.int) 5 [.ref q_this, .int x1] (w_X10_withoutOf D q_this q_now q_trial q_left w_kept w_refusals w_row w_letters w_dists w_steps w_partners w_times w_spliced w_piece w_balances w_prices w_hands w_hand w_dealing v_hasImage v_rows v_lettered v_stepsMany v_splicedMany v_most v_together v_z v_now v_trial v_left) (w_X10_withoutOf D q_this q_now q_trial q_left w_kept w_refusals w_row w_letters w_dists w_steps w_partners w_times w_spliced w_piece w_balances w_prices w_hands w_hand w_dealing v_hasImage v_rows v_lettered v_stepsMany v_splicedMany v_most v_together v_z v_now o.2.1 o.2.2) (some (.int o.1)) := by
  refine CT.of mk_X10_withoutOf (Nat.le_of_ble_eq_true rfl) (fun g hl hD C E => ?_)
  subst hl
  subst hD
  unfold f_X10_withoutOf at h
  refine j_aload_n C dX10_withoutOf_0 rfl ?_
  obtain ⟨r_thought_1, h_1, h⟩ := of_bind h
  refine j_callV1 C mk_X10_thought ms_X10_thought kw_1090 (c_X10_thought (gl g) (gD g) N h_1) (by decide) 0 rfl rfl [0, 1, 2] rfl rfl rfl rfl rfl (Nat.le_of_ble_eq_true rfl) dX10_withoutOf_1 ?_
  refine j_ws (ws' := (w_X10_withoutOf (gD g) q_this q_now q_trial q_left w_kept w_refusals w_row w_letters w_dists w_steps w_partners w_times w_spliced w_piece w_balances w_prices w_hands w_hand w_dealing v_hasImage v_rows v_lettered v_stepsMany v_splicedMany v_most v_together v_z v_now r_thought_1 v_left)) rfl ?_
  refine j_astore_n C dX10_withoutOf_4 (by decide) ?_
  refine j_aload_n C dX10_withoutOf_5 rfl ?_
  refine j_bipush C (40) dX10_withoutOf_6 kb_40 ?_
  refine j_iload_n C dX10_withoutOf_8 rfl ?_
  refine j_iadd C dX10_withoutOf_9 ?_
  refine j_iconst C (0) dX10_withoutOf_10 ki_0 ?_
  refine j_iastore 2 C h rfl rfl dX10_withoutOf_11 (fun h => ?_)
  refine j_ws (ws' := (w_X10_withoutOf (gD g) q_this q_now q_trial q_left w_kept w_refusals w_row w_letters w_dists w_steps w_partners w_times w_spliced w_piece w_balances w_prices w_hands w_hand w_dealing v_hasImage v_rows v_lettered v_stepsMany v_splicedMany v_most v_together v_z v_now (upd r_thought_1 (Int32.toNatClampNeg ((40 : Int32) + x1)) (0 : Int32)) v_left)) rfl ?_
  refine j_aload_n C dX10_withoutOf_12 rfl ?_
  refine j_aload_n C dX10_withoutOf_13 rfl ?_
  obtain ⟨r_roundOf_2, h_2, h⟩ := of_bind h
  refine j_callV1 C mk_X10_roundOf ms_X10_roundOf kw_1196 (c_X10_roundOf (gl g) (gD g) N h_2) (by decide) 0 rfl rfl [0, 3, 2] rfl rfl rfl rfl rfl (Nat.le_of_ble_eq_true rfl) dX10_withoutOf_14 ?_
  refine j_ws (ws' := (w_X10_withoutOf (gD g) q_this q_now q_trial q_left w_kept w_refusals w_row w_letters w_dists w_steps w_partners w_times w_spliced w_piece w_balances w_prices w_hands w_hand w_dealing v_hasImage v_rows v_lettered v_stepsMany v_splicedMany v_most v_together v_z v_now (upd r_thought_1 (Int32.toNatClampNeg ((40 : Int32) + x1)) (0 : Int32)) r_roundOf_2.2)) rfl ?_
  have h := Option.some.inj h
  subst h
  exact j_iret C E dX10_withoutOf_17

def w_X10_without (D : va_G) (q_this q_now q_trial q_refusals q_left : Nat) (w_kept w_row w_letters w_dists w_steps w_partners w_times w_spliced w_piece w_balances w_prices w_hands w_hand w_dealing : Value) (v_hasImage : Int32) (v_rows : Int32) (v_lettered : Int32) (v_stepsMany : Int32) (v_splicedMany : Int32) (v_most : Int32) (v_together : Int32) (v_z : Int32) (v_now : (Nat → Int32)) (v_trial : (Nat → Int32)) (v_refusals : (Nat → Int32)) (v_left : (Nat → Int32)) : va_W := [(q_this, .inr (9, [.ref q_now, w_kept, .ref q_trial, .int v_hasImage, .ref q_refusals, w_row, .int v_rows, w_letters, .int v_lettered, w_dists, .ref q_left, w_steps, .int v_stepsMany, w_partners, w_times, w_spliced, .int v_splicedMany, w_piece, w_balances, w_prices, w_hands, w_hand, w_dealing, .int v_most, .int v_together, .int v_z])), (q_now, .inl (D.1 100, 50, .inl v_now)), (q_trial, .inl (D.1 100, 50, .inl v_trial)), (q_refusals, .inl (D.1 100, 7, .inl v_refusals)), (q_left, .inl (D.1 100, 1536, .inl v_left))]
def f_X10_without (N : Nat) (x1 : Int32) (v_now : (Nat → Int32)) (v_trial : (Nat → Int32)) (v_refusals : (Nat → Int32)) (v_left : (Nat → Int32)) : Option (Int32 × (Nat → Int32) × (Nat → Int32) × (Nat → Int32)) :=
  (f_X10_isStreet x1 v_now).bind (fun r_isStreet_1 => (if r_isStreet_1 = 0 then (f_X10_refused (-1 : Int32) v_refusals).bind (fun r_refused_2 => some (r_refused_2.1, v_trial, r_refused_2.2, v_left)) else (f_X10_withoutOf N x1 v_now v_trial v_left).bind (fun r_withoutOf_3 => some (r_withoutOf_3.1, r_withoutOf_3.2.1, v_refusals, r_withoutOf_3.2.2))))
set_option maxRecDepth 100000 in
set_option maxHeartbeats 4000000 in
theorem c_X10_without (l : Launch) (D : va_G) (N : Nat) {q_this q_now q_trial q_refusals q_left : Nat} {w_kept w_row w_letters w_dists w_steps w_partners w_times w_spliced w_piece w_balances w_prices w_hands w_hand w_dealing : Value} {v_hasImage : Int32} {v_rows : Int32} {v_lettered : Int32} {v_stepsMany : Int32} {v_splicedMany : Int32} {v_most : Int32} {v_together : Int32} {v_z : Int32} {v_now : (Nat → Int32)} {v_trial : (Nat → Int32)} {v_refusals : (Nat → Int32)} {v_left : (Nat → Int32)} {x1 : Int32} {o : (Int32 × (Nat → Int32) × (Nat → Int32) × (Nat → Int32))} (h : f_X10_without N x1 v_now v_trial v_refusals v_left = some o) : CT l D yX10_without cX10_without 2 (Option.some FieldType.int) 6 [.ref q_this, .int x1] (w_X10_without D q_this q_now q_trial q_refusals q_left w_kept w_row w_letters w_dists w_steps w_partners w_times w_spliced w_piece w_balances w_prices w_hands w_hand w_dealing v_hasImage v_rows v_lettered v_stepsMany v_splicedMany v_most v_together v_z v_now v_trial v_refusals v_left) (w_X10_without D q_this q_now q_trial q_refusals q_left w_kept w_row w_letters w_dists w_steps w_partners w_times w_spliced w_piece w_balances w_prices w_hands w_hand w_dealing v_hasImage v_rows v_lettered v_stepsMany v_splicedMany v_most v_together v_z v_now o.2.1 o.2.2.1 o.2.2.2) (some (.int o.1)) := by
  refine CT.of mk_X10_without (Nat.le_of_ble_eq_true rfl) (fun g hl hD C E => ?_)
  subst hl
  subst hD
  unfold f_X10_without at h
  refine j_aload_n C dX10_without_0 rfl ?_
  refine j_get C 0 rfl rfl inX10 0 (by decide) kw_981 rfl rfl dX10_without_1 ?_
  refine j_iload_n C dX10_without_4 rfl ?_
  obtain ⟨r_isStreet_1, h_1, h⟩ := of_bind h
  refine j_callS1 C mk_X10_isStreet ms_X10_isStreet kw_1113 (c_X10_isStreet (gl g) (gD g) h_1) (by decide) [1] rfl rfl rfl rfl rfl (Nat.le_of_ble_eq_true rfl) dX10_without_5 ?_
  refine j_ws (ws' := (w_X10_without (gD g) q_this q_now q_trial q_refusals q_left w_kept w_row w_letters w_dists w_steps w_partners w_times w_spliced w_piece w_balances w_prices w_hands w_hand w_dealing v_hasImage v_rows v_lettered v_stepsMany v_splicedMany v_most v_together v_z v_now v_trial v_refusals v_left)) rfl ?_
  refine j_if_eq C h 19 dX10_without_8 (by decide) (fun hc h => ?_) (fun hc h => ?_)
  · refine j_aload_n C dX10_without_19 rfl ?_
    refine j_iconst C (-1) dX10_without_20 ki_m1 ?_
    obtain ⟨r_refused_2, h_2, h⟩ := of_bind h
    refine j_callV1 C mk_X10_refused ms_X10_refused kw_1064 (c_X10_refused (gl g) (gD g) h_2) (by decide) 0 rfl rfl [0, 3] rfl rfl rfl rfl rfl (Nat.le_of_ble_eq_true rfl) dX10_without_21 ?_
    refine j_ws (ws' := (w_X10_without (gD g) q_this q_now q_trial q_refusals q_left w_kept w_row w_letters w_dists w_steps w_partners w_times w_spliced w_piece w_balances w_prices w_hands w_hand w_dealing v_hasImage v_rows v_lettered v_stepsMany v_splicedMany v_most v_together v_z v_now v_trial r_refused_2.2 v_left)) rfl ?_
    have h := Option.some.inj h
    subst h
    exact j_iret C E dX10_without_24
  · refine j_aload_n C dX10_without_11 rfl ?_
    refine j_iload_n C dX10_without_12 rfl ?_
    obtain ⟨r_withoutOf_3, h_3, h⟩ := of_bind h
    refine j_callV1 C mk_X10_withoutOf ms_X10_withoutOf kw_1335 (c_X10_withoutOf (gl g) (gD g) N h_3) (by decide) 0 rfl rfl [0, 1, 2, 4] rfl rfl rfl rfl rfl (Nat.le_of_ble_eq_true rfl) dX10_without_13 ?_
    refine j_ws (ws' := (w_X10_without (gD g) q_this q_now q_trial q_refusals q_left w_kept w_row w_letters w_dists w_steps w_partners w_times w_spliced w_piece w_balances w_prices w_hands w_hand w_dealing v_hasImage v_rows v_lettered v_stepsMany v_splicedMany v_most v_together v_z v_now r_withoutOf_3.2.1 v_refusals r_withoutOf_3.2.2)) rfl ?_
    refine j_goto C 24 dX10_without_16 (by decide) ?_
    have h := Option.some.inj h
    subst h
    exact j_iret C E dX10_without_24

def w_X10_turned (D : va_G) (q_this q_now q_trial q_refusals q_left : Nat) (w_kept w_row w_letters w_dists w_steps w_partners w_times w_spliced w_piece w_balances w_prices w_hands w_hand w_dealing : Value) (v_hasImage : Int32) (v_rows : Int32) (v_lettered : Int32) (v_stepsMany : Int32) (v_splicedMany : Int32) (v_most : Int32) (v_together : Int32) (v_z : Int32) (v_now : (Nat → Int32)) (v_trial : (Nat → Int32)) (v_refusals : (Nat → Int32)) (v_left : (Nat → Int32)) : va_W := [(q_this, .inr (9, [.ref q_now, w_kept, .ref q_trial, .int v_hasImage, .ref q_refusals, w_row, .int v_rows, w_letters, .int v_lettered, w_dists, .ref q_left, w_steps, .int v_stepsMany, w_partners, w_times, w_spliced, .int v_splicedMany, w_piece, w_balances, w_prices, w_hands, w_hand, w_dealing, .int v_most, .int v_together, .int v_z])), (q_now, .inl (D.1 100, 50, .inl v_now)), (q_trial, .inl (D.1 100, 50, .inl v_trial)), (q_refusals, .inl (D.1 100, 7, .inl v_refusals)), (q_left, .inl (D.1 100, 1536, .inl v_left))]
def f_X10_turned (N : Nat) (x1 : Int32) (v_now : (Nat → Int32)) (v_trial : (Nat → Int32)) (v_refusals : (Nat → Int32)) (v_left : (Nat → Int32)) : Option (Int32 × (Nat → Int32) × (Nat → Int32) × (Nat → Int32)) :=
  (f_X10_isStreet x1 v_now).bind (fun r_isStreet_1 => (if r_isStreet_1 = 0 then (f_X10_refused (-1 : Int32) v_refusals).bind (fun r_refused_4 => some (r_refused_4.1, v_trial, r_refused_4.2, v_left)) else (f_X10_thought N v_now v_trial).bind (fun r_thought_2 => ga ((8 : Int32) + x1) 50 (ga ((0 : Int32) + x1) 50 (ga ((0 : Int32) + x1) 50 (ga ((8 : Int32) + x1) 50 ((f_X10_roundOf N v_left (upd (upd r_thought_2 (Int32.toNatClampNeg ((0 : Int32) + x1)) (v_now (Int32.toNatClampNeg ((8 : Int32) + x1)))) (Int32.toNatClampNeg ((8 : Int32) + x1)) (v_now (Int32.toNatClampNeg ((0 : Int32) + x1))))).bind (fun r_roundOf_3 => some (r_roundOf_3.1, upd (upd r_thought_2 (Int32.toNatClampNeg ((0 : Int32) + x1)) (v_now (Int32.toNatClampNeg ((8 : Int32) + x1)))) (Int32.toNatClampNeg ((8 : Int32) + x1)) (v_now (Int32.toNatClampNeg ((0 : Int32) + x1))), v_refusals, r_roundOf_3.2)))))))))
set_option maxRecDepth 100000 in
set_option maxHeartbeats 4000000 in
theorem c_X10_turned (l : Launch) (D : va_G) (N : Nat) {q_this q_now q_trial q_refusals q_left : Nat} {w_kept w_row w_letters w_dists w_steps w_partners w_times w_spliced w_piece w_balances w_prices w_hands w_hand w_dealing : Value} {v_hasImage : Int32} {v_rows : Int32} {v_lettered : Int32} {v_stepsMany : Int32} {v_splicedMany : Int32} {v_most : Int32} {v_together : Int32} {v_z : Int32} {v_now : (Nat → Int32)} {v_trial : (Nat → Int32)} {v_refusals : (Nat → Int32)} {v_left : (Nat → Int32)} {x1 : Int32} {o : (Int32 × (Nat → Int32) × (Nat → Int32) × (Nat → Int32))} (h : f_X10_turned N x1 v_now v_trial v_refusals v_left = some o) : CT l D yX10_turned cX10_turned 3 (Option.some FieldType.int) 5 [.ref q_this, .int x1] (w_X10_turned D q_this q_now q_trial q_refusals q_left w_kept w_row w_letters w_dists w_steps w_partners w_times w_spliced w_piece w_balances w_prices w_hands w_hand w_dealing v_hasImage v_rows v_lettered v_stepsMany v_splicedMany v_most v_together v_z v_now v_trial v_refusals v_left) (w_X10_turned D q_this q_now q_trial q_refusals q_left w_kept w_row w_letters w_dists w_steps w_partners w_times w_spliced w_piece w_balances w_prices w_hands w_hand w_dealing v_hasImage v_rows v_lettered v_stepsMany v_splicedMany v_most v_together v_z v_now o.2.1 o.2.2.1 o.2.2.2) (some (.int o.1)) := by
  refine CT.of mk_X10_turned (Nat.le_of_ble_eq_true rfl) (fun g hl hD C E => ?_)
  subst hl
  subst hD
  unfold f_X10_turned at h
  refine j_aload_n C dX10_turned_0 rfl ?_
  refine j_get C 0 rfl rfl inX10 0 (by decide) kw_981 rfl rfl dX10_turned_1 ?_
  refine j_iload_n C dX10_turned_4 rfl ?_
  obtain ⟨r_isStreet_1, h_1, h⟩ := of_bind h
  refine j_callS1 C mk_X10_isStreet ms_X10_isStreet kw_1113 (c_X10_isStreet (gl g) (gD g) h_1) (by decide) [1] rfl rfl rfl rfl rfl (Nat.le_of_ble_eq_true rfl) dX10_turned_5 ?_
  refine j_ws (ws' := (w_X10_turned (gD g) q_this q_now q_trial q_refusals q_left w_kept w_row w_letters w_dists w_steps w_partners w_times w_spliced w_piece w_balances w_prices w_hands w_hand w_dealing v_hasImage v_rows v_lettered v_stepsMany v_splicedMany v_most v_together v_z v_now v_trial v_refusals v_left)) rfl ?_
  refine j_if_ne C h 17 dX10_turned_8 (by decide) (fun hc h => ?_) (fun hc h => ?_)
  · refine j_aload_n C dX10_turned_11 rfl ?_
    refine j_iconst C (-1) dX10_turned_12 ki_m1 ?_
    obtain ⟨r_refused_4, h_4, h⟩ := of_bind h
    refine j_callV1 C mk_X10_refused ms_X10_refused kw_1064 (c_X10_refused (gl g) (gD g) h_4) (by decide) 0 rfl rfl [0, 3] rfl rfl rfl rfl rfl (Nat.le_of_ble_eq_true rfl) dX10_turned_13 ?_
    refine j_ws (ws' := (w_X10_turned (gD g) q_this q_now q_trial q_refusals q_left w_kept w_row w_letters w_dists w_steps w_partners w_times w_spliced w_piece w_balances w_prices w_hands w_hand w_dealing v_hasImage v_rows v_lettered v_stepsMany v_splicedMany v_most v_together v_z v_now v_trial r_refused_4.2 v_left)) rfl ?_
    have h := Option.some.inj h
    subst h
    exact j_iret C E dX10_turned_16
  · refine j_aload_n C dX10_turned_17 rfl ?_
    obtain ⟨r_thought_2, h_2, h⟩ := of_bind h
    refine j_callV1 C mk_X10_thought ms_X10_thought kw_1090 (c_X10_thought (gl g) (gD g) N h_2) (by decide) 0 rfl rfl [0, 1, 2] rfl rfl rfl rfl rfl (Nat.le_of_ble_eq_true rfl) dX10_turned_18 ?_
    refine j_ws (ws' := (w_X10_turned (gD g) q_this q_now q_trial q_refusals q_left w_kept w_row w_letters w_dists w_steps w_partners w_times w_spliced w_piece w_balances w_prices w_hands w_hand w_dealing v_hasImage v_rows v_lettered v_stepsMany v_splicedMany v_most v_together v_z v_now r_thought_2 v_refusals v_left)) rfl ?_
    refine j_astore_n C dX10_turned_21 (by decide) ?_
    refine j_aload_n C dX10_turned_22 rfl ?_
    refine j_iconst C (0) dX10_turned_23 ki_0 ?_
    refine j_iload_n C dX10_turned_24 rfl ?_
    refine j_iadd C dX10_turned_25 ?_
    refine j_aload_n C dX10_turned_26 rfl ?_
    refine j_get C 0 rfl rfl inX10 0 (by decide) kw_981 rfl rfl dX10_turned_27 ?_
    refine j_bipush C (8) dX10_turned_30 kb_8 ?_
    refine j_iload_n C dX10_turned_32 rfl ?_
    refine j_iadd C dX10_turned_33 ?_
    refine j_iaload 1 C h rfl rfl dX10_turned_34 (fun h => ?_)
    refine j_iastore 2 C h rfl rfl dX10_turned_35 (fun h => ?_)
    refine j_ws (ws' := (w_X10_turned (gD g) q_this q_now q_trial q_refusals q_left w_kept w_row w_letters w_dists w_steps w_partners w_times w_spliced w_piece w_balances w_prices w_hands w_hand w_dealing v_hasImage v_rows v_lettered v_stepsMany v_splicedMany v_most v_together v_z v_now (upd r_thought_2 (Int32.toNatClampNeg ((0 : Int32) + x1)) (v_now (Int32.toNatClampNeg ((8 : Int32) + x1)))) v_refusals v_left)) rfl ?_
    refine j_aload_n C dX10_turned_36 rfl ?_
    refine j_bipush C (8) dX10_turned_37 kb_8 ?_
    refine j_iload_n C dX10_turned_39 rfl ?_
    refine j_iadd C dX10_turned_40 ?_
    refine j_aload_n C dX10_turned_41 rfl ?_
    refine j_get C 0 rfl rfl inX10 0 (by decide) kw_981 rfl rfl dX10_turned_42 ?_
    refine j_iconst C (0) dX10_turned_45 ki_0 ?_
    refine j_iload_n C dX10_turned_46 rfl ?_
    refine j_iadd C dX10_turned_47 ?_
    refine j_iaload 1 C h rfl rfl dX10_turned_48 (fun h => ?_)
    refine j_iastore 2 C h rfl rfl dX10_turned_49 (fun h => ?_)
    refine j_ws (ws' := (w_X10_turned (gD g) q_this q_now q_trial q_refusals q_left w_kept w_row w_letters w_dists w_steps w_partners w_times w_spliced w_piece w_balances w_prices w_hands w_hand w_dealing v_hasImage v_rows v_lettered v_stepsMany v_splicedMany v_most v_together v_z v_now (upd (upd r_thought_2 (Int32.toNatClampNeg ((0 : Int32) + x1)) (v_now (Int32.toNatClampNeg ((8 : Int32) + x1)))) (Int32.toNatClampNeg ((8 : Int32) + x1)) (v_now (Int32.toNatClampNeg ((0 : Int32) + x1)))) v_refusals v_left)) rfl ?_
    refine j_aload_n C dX10_turned_50 rfl ?_
    refine j_aload_n C dX10_turned_51 rfl ?_
    obtain ⟨r_roundOf_3, h_3, h⟩ := of_bind h
    refine j_callV1 C mk_X10_roundOf ms_X10_roundOf kw_1196 (c_X10_roundOf (gl g) (gD g) N h_3) (by decide) 0 rfl rfl [0, 4, 2] rfl rfl rfl rfl rfl (Nat.le_of_ble_eq_true rfl) dX10_turned_52 ?_
    refine j_ws (ws' := (w_X10_turned (gD g) q_this q_now q_trial q_refusals q_left w_kept w_row w_letters w_dists w_steps w_partners w_times w_spliced w_piece w_balances w_prices w_hands w_hand w_dealing v_hasImage v_rows v_lettered v_stepsMany v_splicedMany v_most v_together v_z v_now (upd (upd r_thought_2 (Int32.toNatClampNeg ((0 : Int32) + x1)) (v_now (Int32.toNatClampNeg ((8 : Int32) + x1)))) (Int32.toNatClampNeg ((8 : Int32) + x1)) (v_now (Int32.toNatClampNeg ((0 : Int32) + x1)))) v_refusals r_roundOf_3.2)) rfl ?_
    have h := Option.some.inj h
    subst h
    exact j_iret C E dX10_turned_55

def w_X10_worst (D : va_G) (q_this q_now q_trial q_left : Nat) (w_kept w_refusals w_row w_letters w_dists w_steps w_partners w_times w_spliced w_piece w_balances w_prices w_hands w_hand w_dealing : Value) (v_hasImage : Int32) (v_rows : Int32) (v_lettered : Int32) (v_stepsMany : Int32) (v_splicedMany : Int32) (v_most : Int32) (v_together : Int32) (v_z : Int32) (v_now : (Nat → Int32)) (v_trial : (Nat → Int32)) (v_left : (Nat → Int32)) : va_W := [(q_this, .inr (9, [.ref q_now, w_kept, .ref q_trial, .int v_hasImage, w_refusals, w_row, .int v_rows, w_letters, .int v_lettered, w_dists, .ref q_left, w_steps, .int v_stepsMany, w_partners, w_times, w_spliced, .int v_splicedMany, w_piece, w_balances, w_prices, w_hands, w_hand, w_dealing, .int v_most, .int v_together, .int v_z])), (q_now, .inl (D.1 100, 50, .inl v_now)), (q_trial, .inl (D.1 100, 50, .inl v_trial)), (q_left, .inl (D.1 100, 1536, .inl v_left))]
def f_X10_worst_b8 (N : Nat) (v_now : (Nat → Int32)) (x3_8 : Int32) (x1_8 : Int32) (v_trial_8 : (Nat → Int32)) (v_left_8 : (Nat → Int32)) (x2_8 : Int32) : Option ((Int32 × Int32 × Int32 × (Nat → Int32) × (Nat → Int32)) ⊕ (Int32 × (Nat → Int32) × (Nat → Int32))) :=
  ga (49 : Int32) 50 ((if (v_now (Int32.toNatClampNeg (49 : Int32))) ≤ x3_8 then some (.inr (x1_8, v_trial_8, v_left_8)) else (f_X10_isDue x3_8 v_now).bind (fun r_isDue_1 => (if r_isDue_1 = 0 then some (.inl (x1_8, x2_8, x3_8 + (1 : Int32), v_trial_8, v_left_8)) else (f_X10_withoutOf N x3_8 v_now v_trial_8 v_left_8).bind (fun r_withoutOf_2 => some (.inl (if (if 0 ≤ r_withoutOf_2.1 then r_withoutOf_2.1 else (10000 : Int32)) ≤ x2_8 then x1_8 else x3_8, if x2_8 < (if 0 ≤ r_withoutOf_2.1 then r_withoutOf_2.1 else (10000 : Int32)) then (if 0 ≤ r_withoutOf_2.1 then r_withoutOf_2.1 else (10000 : Int32)) else x2_8, x3_8 + (1 : Int32), r_withoutOf_2.2.1, r_withoutOf_2.2.2)))))))
def f_X10_worst (N : Nat) (v_now : (Nat → Int32)) (v_trial : (Nat → Int32)) (v_left : (Nat → Int32)) : Option (Int32 × (Nat → Int32) × (Nat → Int32)) :=
  (lp (fun s_8 => f_X10_worst_b8 N v_now s_8.2.2.1 s_8.1 s_8.2.2.2.1 s_8.2.2.2.2 s_8.2.1) N ((-9 : Int32), (-9 : Int32), (0 : Int32), v_trial, v_left)).bind (fun e_8 => some (e_8.1, e_8.2.1, e_8.2.2))
set_option maxRecDepth 100000 in
set_option maxHeartbeats 4000000 in
theorem c_X10_worst (l : Launch) (D : va_G) (N : Nat) {q_this q_now q_trial q_left : Nat} {w_kept w_refusals w_row w_letters w_dists w_steps w_partners w_times w_spliced w_piece w_balances w_prices w_hands w_hand w_dealing : Value} {v_hasImage : Int32} {v_rows : Int32} {v_lettered : Int32} {v_stepsMany : Int32} {v_splicedMany : Int32} {v_most : Int32} {v_together : Int32} {v_z : Int32} {v_now : (Nat → Int32)} {v_trial : (Nat → Int32)} {v_left : (Nat → Int32)} {o : (Int32 × (Nat → Int32) × (Nat → Int32))} (h : f_X10_worst N v_now v_trial v_left = some o) : CT l D yX10_worst cX10_worst 6 (Option.some FieldType.int) 6 [.ref q_this] (w_X10_worst D q_this q_now q_trial q_left w_kept w_refusals w_row w_letters w_dists w_steps w_partners w_times w_spliced w_piece w_balances w_prices w_hands w_hand w_dealing v_hasImage v_rows v_lettered v_stepsMany v_splicedMany v_most v_together v_z v_now v_trial v_left) (w_X10_worst D q_this q_now q_trial q_left w_kept w_refusals w_row w_letters w_dists w_steps w_partners w_times w_spliced w_piece w_balances w_prices w_hands w_hand w_dealing v_hasImage v_rows v_lettered v_stepsMany v_splicedMany v_most v_together v_z v_now o.2.1 o.2.2) (some (.int o.1)) := by
  refine CT.of mk_X10_worst (Nat.le_of_ble_eq_true rfl) (fun g hl hD C E => ?_)
  subst hl
  subst hD
  unfold f_X10_worst at h
  refine j_bipush C (-9) dX10_worst_0 kb_m9 ?_
  refine j_istore_n C dX10_worst_2 (by decide) ?_
  refine j_bipush C (-9) dX10_worst_3 kb_m9 ?_
  refine j_istore_n C dX10_worst_5 (by decide) ?_
  refine j_iconst C (0) dX10_worst_6 ki_0 ?_
  refine j_istore_n C dX10_worst_7 (by decide) ?_
  obtain ⟨e_8, hl_8, h⟩ := of_bind h
  have ha_8 : J g (w_X10_worst (gD g) q_this q_now q_trial q_left w_kept w_refusals w_row w_letters w_dists w_steps w_partners w_times w_spliced w_piece w_balances w_prices w_hands w_hand w_dealing v_hasImage v_rows v_lettered v_stepsMany v_splicedMany v_most v_together v_z v_now e_8.2.1 e_8.2.2) [(1, .int (e_8.1))] 77 [] := by
    refine j_iload_n C dX10_worst_77 rfl ?_
    have h := Option.some.inj h
    subst h
    exact j_iret C E dX10_worst_78
  refine j_lv (lv' := [(0, .ref q_this), (1, .int ((-9 : Int32))), (2, .int ((-9 : Int32))), (3, .int ((0 : Int32)))]) rfl ?_
  refine lp_ind hl_8 (fun s_8 => J g (w_X10_worst (gD g) q_this q_now q_trial q_left w_kept w_refusals w_row w_letters w_dists w_steps w_partners w_times w_spliced w_piece w_balances w_prices w_hands w_hand w_dealing v_hasImage v_rows v_lettered v_stepsMany v_splicedMany v_most v_together v_z v_now s_8.2.2.2.1 s_8.2.2.2.2) [(0, .ref q_this), (1, .int (s_8.1)), (2, .int (s_8.2.1)), (3, .int (s_8.2.2.1))] 8 []) (fun s_8 r_8 h hc_8 hx_8 => ?_)
  unfold f_X10_worst_b8 at h
  refine j_iload_n C dX10_worst_8 rfl ?_
  refine j_aload_n C dX10_worst_9 rfl ?_
  refine j_get C 0 rfl rfl inX10 0 (by decide) kw_981 rfl rfl dX10_worst_10 ?_
  refine j_bipush C (49) dX10_worst_13 kb_49 ?_
  refine j_iaload 1 C h rfl rfl dX10_worst_15 (fun h => ?_)
  refine j_icmp_ge C h 77 dX10_worst_16 (by decide) (fun hc h => ?_) (fun hc h => ?_)
  · have h := Option.some.inj h
    subst h
    have h9 := hx_8 _ rfl
    subst h9
    exact j_lw ha_8 rfl
  · refine j_aload_n C dX10_worst_19 rfl ?_
    refine j_get C 0 rfl rfl inX10 0 (by decide) kw_981 rfl rfl dX10_worst_20 ?_
    refine j_iload_n C dX10_worst_23 rfl ?_
    obtain ⟨r_isDue_1, h_1, h⟩ := of_bind h
    refine j_callS1 C mk_X10_isDue ms_X10_isDue kw_1153 (c_X10_isDue (gl g) (gD g) h_1) (by decide) [1] rfl rfl rfl rfl rfl (Nat.le_of_ble_eq_true rfl) dX10_worst_24 ?_
    refine j_ws (ws' := (w_X10_worst (gD g) q_this q_now q_trial q_left w_kept w_refusals w_row w_letters w_dists w_steps w_partners w_times w_spliced w_piece w_balances w_prices w_hands w_hand w_dealing v_hasImage v_rows v_lettered v_stepsMany v_splicedMany v_most v_together v_z v_now s_8.2.2.2.1 s_8.2.2.2.2)) rfl ?_
    refine j_if_eq C h 71 dX10_worst_27 (by decide) (fun hc h => ?_) (fun hc h => ?_)
    · refine j_inc C (1) dX10_worst_71 rfl ki_1 (by decide) ?_
      refine j_goto C 8 dX10_worst_74 (by decide) ?_
      have h := Option.some.inj h
      subst h
      have hc9 := hc_8 _ rfl
      exact j_lw hc9 rfl
    · refine j_aload_n C dX10_worst_30 rfl ?_
      refine j_iload_n C dX10_worst_31 rfl ?_
      obtain ⟨r_withoutOf_2, h_2, h⟩ := of_bind h
      refine j_callV1 C mk_X10_withoutOf ms_X10_withoutOf kw_1335 (c_X10_withoutOf (gl g) (gD g) N h_2) (by decide) 0 rfl rfl [0, 1, 2, 3] rfl rfl rfl rfl rfl (Nat.le_of_ble_eq_true rfl) dX10_worst_32 ?_
      refine j_ws (ws' := (w_X10_worst (gD g) q_this q_now q_trial q_left w_kept w_refusals w_row w_letters w_dists w_steps w_partners w_times w_spliced w_piece w_balances w_prices w_hands w_hand w_dealing v_hasImage v_rows v_lettered v_stepsMany v_splicedMany v_most v_together v_z v_now r_withoutOf_2.2.1 r_withoutOf_2.2.2)) rfl ?_
      refine j_istore C dX10_worst_35 (by decide) ?_
      refine j_iload C dX10_worst_37 rfl ?_
      have hj_3 : J g (w_X10_worst (gD g) q_this q_now q_trial q_left w_kept w_refusals w_row w_letters w_dists w_steps w_partners w_times w_spliced w_piece w_balances w_prices w_hands w_hand w_dealing v_hasImage v_rows v_lettered v_stepsMany v_splicedMany v_most v_together v_z v_now r_withoutOf_2.2.1 r_withoutOf_2.2.2) [(0, .ref q_this), (1, .int (s_8.1)), (2, .int (s_8.2.1)), (3, .int (s_8.2.2.1))] 50 [.int (if 0 ≤ r_withoutOf_2.1 then r_withoutOf_2.1 else (10000 : Int32))] := by
        refine j_istore C dX10_worst_50 (by decide) ?_
        refine j_iload C dX10_worst_52 rfl ?_
        refine j_iload_n C dX10_worst_54 rfl ?_
        have hj_4 : J g (w_X10_worst (gD g) q_this q_now q_trial q_left w_kept w_refusals w_row w_letters w_dists w_steps w_partners w_times w_spliced w_piece w_balances w_prices w_hands w_hand w_dealing v_hasImage v_rows v_lettered v_stepsMany v_splicedMany v_most v_together v_z v_now r_withoutOf_2.2.1 r_withoutOf_2.2.2) [(0, .ref q_this), (2, .int (s_8.2.1)), (3, .int (s_8.2.2.1)), (5, .int (if 0 ≤ r_withoutOf_2.1 then r_withoutOf_2.1 else (10000 : Int32)))] 63 [.int (if (if 0 ≤ r_withoutOf_2.1 then r_withoutOf_2.1 else (10000 : Int32)) ≤ s_8.2.1 then s_8.1 else s_8.2.2.1)] := by
          refine j_istore_n C dX10_worst_63 (by decide) ?_
          refine j_iload_n C dX10_worst_64 rfl ?_
          refine j_iload C dX10_worst_65 rfl ?_
          refine j_mmax C (by decide) kw_1347 kw_884 kw_19 kw_885 (Nat.le_of_ble_eq_true rfl) dX10_worst_67 ?_
          refine j_istore_n C dX10_worst_70 (by decide) ?_
          refine j_inc C (1) dX10_worst_71 rfl ki_1 (by decide) ?_
          refine j_goto C 8 dX10_worst_74 (by decide) ?_
          have h := Option.some.inj h
          subst h
          have hc9 := hc_8 _ rfl
          exact j_lw hc9 rfl
        refine jv_icmp_le C 62 dX10_worst_55 (by decide) (fun hc => ?_) (fun hc => ?_)
        · try simp only [if_pos hc] at hj_4
          refine j_iload_n C dX10_worst_62 rfl ?_
          exact j_lw hj_4 rfl
        · try simp only [if_neg hc] at hj_4
          refine j_iload_n C dX10_worst_58 rfl ?_
          refine j_goto C 63 dX10_worst_59 (by decide) ?_
          exact j_lw hj_4 rfl
      refine jv_if_ge C 48 dX10_worst_39 (by decide) (fun hc => ?_) (fun hc => ?_)
      · try simp only [if_pos hc] at hj_3
        refine j_iload C dX10_worst_48 rfl ?_
        exact j_lw hj_3 rfl
      · try simp only [if_neg hc] at hj_3
        refine j_sipush C (10000) dX10_worst_42 kc_10000 ?_
        refine j_goto C 50 dX10_worst_45 (by decide) ?_
        exact j_lw hj_3 rfl

def w_X10_deals (D : va_G) (q_this q_prices q_hands q_hand q_dealing q_p1 : Nat) (w_now w_kept w_trial w_refusals w_row w_letters w_dists w_left w_steps w_partners w_times w_spliced w_piece w_balances : Value) (v_hasImage : Int32) (v_rows : Int32) (v_lettered : Int32) (v_stepsMany : Int32) (v_splicedMany : Int32) (v_most : Int32) (v_together : Int32) (v_z : Int32) (v_prices : (Nat → Int32)) (v_hands : (Nat → Int32)) (v_hand : (Nat → Int32)) (v_dealing : (Nat → Int32)) (v_p1 : (Nat → Int32)) : va_W := [(q_this, .inr (9, [w_now, w_kept, w_trial, .int v_hasImage, w_refusals, w_row, .int v_rows, w_letters, .int v_lettered, w_dists, w_left, w_steps, .int v_stepsMany, w_partners, w_times, w_spliced, .int v_splicedMany, w_piece, w_balances, .ref q_prices, .ref q_hands, .ref q_hand, .ref q_dealing, .int v_most, .int v_together, .int v_z])), (q_prices, .inl (D.1 100, 256, .inl v_prices)), (q_hands, .inl (D.1 100, 3, .inl v_hands)), (q_hand, .inl (D.1 100, 8, .inl v_hand)), (q_dealing, .inl (D.1 100, 8, .inl v_dealing)), (q_p1, .inl (D.1 100, 50, .inl v_p1))]
def f_X10_deals_b104 (x2 : Int32) (x6_104 : Int32) (x4_104 : Int32) (x5_104 : Int32) (v_hands : (Nat → Int32)) (v_prices : (Nat → Int32)) (v_most : Int32) (v_together : Int32) (v_hand : (Nat → Int32)) (v_dealing : (Nat → Int32)) : Option ((Int32 × Int32 × Int32) ⊕ ((Int32 × Int32) ⊕ (Int32 × Int32 × (Nat → Int32) × (Nat → Int32) × (Nat → Int32)))) :=
  (if x2 ≤ x6_104 then some (.inr (.inl (x4_104, x5_104))) else ga x6_104 3 (ga (v_hands (Int32.toNatClampNeg x6_104)) 256 ((if 0 ≤ (v_prices (Int32.toNatClampNeg (v_hands (Int32.toNatClampNeg x6_104)))) then some (.inl (if x4_104 < (v_prices (Int32.toNatClampNeg (v_hands (Int32.toNatClampNeg x6_104)))) then (v_prices (Int32.toNatClampNeg (v_hands (Int32.toNatClampNeg x6_104)))) else x4_104, x5_104 + (v_prices (Int32.toNatClampNeg (v_hands (Int32.toNatClampNeg x6_104)))), x6_104 + (1 : Int32))) else some (.inr (.inr (v_most, v_together, v_hands, v_hand, v_dealing)))))))
def f_X10_deals_b201 (x6_201 : Int32) (v_dealing_201 : (Nat → Int32)) (v_p1 : (Nat → Int32)) (v_hand : (Nat → Int32)) : Option ((Int32 × (Nat → Int32)) ⊕ (Nat → Int32)) :=
  (if (8 : Int32) ≤ x6_201 then some (.inr v_dealing_201) else ga (49 : Int32) 50 ((if (v_p1 (Int32.toNatClampNeg (49 : Int32))) ≤ x6_201 then ga x6_201 8 (some (.inl (x6_201 + (1 : Int32), upd v_dealing_201 (Int32.toNatClampNeg x6_201) (-9 : Int32)))) else ga x6_201 8 (ga x6_201 8 (some (.inl (x6_201 + (1 : Int32), upd v_dealing_201 (Int32.toNatClampNeg x6_201) (v_hand (Int32.toNatClampNeg x6_201)))))))))
def f_X10_deals_j1 (N : Nat) (v_p1 : (Nat → Int32)) (v_hand : (Nat → Int32)) (v_dealing : (Nat → Int32)) (x_104_0 : Int32) (x_104_1 : Int32) (v_hands : (Nat → Int32)) : Option (Int32 × Int32 × (Nat → Int32) × (Nat → Int32) × (Nat → Int32)) :=
  (lp (fun s_201 => f_X10_deals_b201 s_201.1 s_201.2 v_p1 v_hand) N ((0 : Int32), v_dealing)).bind (fun e_201 => some (x_104_0, x_104_1, v_hands, v_hand, e_201))
def f_X10_deals_b37 (rc : Int32 → Int32 → Int32 → Int32 → (Nat → Int32) → (Nat → Int32) → (Nat → Int32) → (Nat → Int32) → (Nat → Int32) → Option (Int32 × Int32 × (Nat → Int32) × (Nat → Int32) × (Nat → Int32))) (x2 : Int32) (x4_37 : Int32) (v_most_37 : Int32) (v_together_37 : Int32) (v_hands_37 : (Nat → Int32)) (v_hand_37 : (Nat → Int32)) (v_dealing_37 : (Nat → Int32)) (x3 : Int32) (v_prices : (Nat → Int32)) (v_p1 : (Nat → Int32)) : Option ((Int32 × Int32 × Int32 × (Nat → Int32) × (Nat → Int32) × (Nat → Int32)) ⊕ (Int32 × Int32 × (Nat → Int32) × (Nat → Int32) × (Nat → Int32))) :=
  (if x2 ≤ x4_37 then some (.inr (v_most_37, v_together_37, v_hands_37, v_hand_37, v_dealing_37)) else ga x3 8 (ga x4_37 3 (ga x4_37 3 ((rc x2 (x3 + (1 : Int32)) v_most_37 v_together_37 v_prices (upd v_hands_37 (Int32.toNatClampNeg x4_37) ((v_hands_37 (Int32.toNatClampNeg x4_37)) ||| ((1 : Int32) <<< (x3 &&& 31)))) (upd v_hand_37 (Int32.toNatClampNeg x3) x4_37) v_dealing_37 v_p1).bind (fun r_deals_3 => ga x4_37 3 (ga x4_37 3 (some (.inl (x4_37 + (1 : Int32), r_deals_3.1, r_deals_3.2.1, upd r_deals_3.2.2.1 (Int32.toNatClampNeg x4_37) ((r_deals_3.2.2.1 (Int32.toNatClampNeg x4_37)) &&& (((1 : Int32) <<< (x3 &&& 31)) ^^^ (-1 : Int32))), r_deals_3.2.2.2.1, r_deals_3.2.2.2.2)))))))))
def f_X10_deals (N : Nat) : Nat → Int32 → Int32 → Int32 → Int32 → (Nat → Int32) → (Nat → Int32) → (Nat → Int32) → (Nat → Int32) → (Nat → Int32) → Option (Int32 × Int32 × (Nat → Int32) × (Nat → Int32) × (Nat → Int32))
  | 0, _, _, _, _, _, _, _, _, _ => none
  | d + 1, x2, x3, v_most, v_together, v_prices, v_hands, v_hand, v_dealing, v_p1 =>
  ga (49 : Int32) 50 ((if (v_p1 (Int32.toNatClampNeg (49 : Int32))) ≤ x3 then (lp (fun s_104 => f_X10_deals_b104 x2 s_104.2.2 s_104.1 s_104.2.1 v_hands v_prices v_most v_together v_hand v_dealing) N ((0 : Int32), (0 : Int32), (0 : Int32))).bind (fun e_104 => match e_104 with | .inl x_104 => (if v_most < 0 then f_X10_deals_j1 N v_p1 v_hand v_dealing x_104.1 x_104.2 v_hands else (if x_104.1 < v_most then f_X10_deals_j1 N v_p1 v_hand v_dealing x_104.1 x_104.2 v_hands else (if x_104.1 = v_most then (if v_together ≤ x_104.2 then some (v_most, v_together, v_hands, v_hand, v_dealing) else f_X10_deals_j1 N v_p1 v_hand v_dealing x_104.1 x_104.2 v_hands) else some (v_most, v_together, v_hands, v_hand, v_dealing)))) | .inr o_104 => some o_104) else ga x3 8 ((f_X10_isDue x3 v_p1).bind (fun r_isDue_2 => (if r_isDue_2 = 0 then ((f_X10_deals N d) x2 (x3 + (1 : Int32)) v_most v_together v_prices v_hands (upd v_hand (Int32.toNatClampNeg x3) (-9 : Int32)) v_dealing v_p1).bind (fun r_deals_4 => some (r_deals_4.1, r_deals_4.2.1, r_deals_4.2.2.1, r_deals_4.2.2.2.1, r_deals_4.2.2.2.2)) else (lp (fun s_37 => f_X10_deals_b37 (f_X10_deals N d) x2 s_37.1 s_37.2.1 s_37.2.2.1 s_37.2.2.2.1 s_37.2.2.2.2.1 s_37.2.2.2.2.2 x3 v_prices v_p1) N ((0 : Int32), v_most, v_together, v_hands, upd v_hand (Int32.toNatClampNeg x3) (-9 : Int32), v_dealing)).bind (fun e_37 => some (e_37.1, e_37.2.1, e_37.2.2.1, e_37.2.2.2.1, e_37.2.2.2.2)))))))
set_option maxRecDepth 100000 in
set_option maxHeartbeats 4000000 in
theorem c_X10_deals (l : Launch) (D : va_G) (N : Nat) (d : Nat) : ∀ {q_this q_prices q_hands q_hand q_dealing q_p1 : Nat} {w_now w_kept w_trial w_refusals w_row w_letters w_dists w_left w_steps w_partners w_times w_spliced w_piece w_balances : Value} {v_hasImage : Int32} {v_rows : Int32} {v_lettered : Int32} {v_stepsMany : Int32} {v_splicedMany : Int32} {v_most : Int32} {v_together : Int32} {v_z : Int32} {v_prices : (Nat → Int32)} {v_hands : (Nat → Int32)} {v_hand : (Nat → Int32)} {v_dealing : (Nat → Int32)} {v_p1 : (Nat → Int32)} {x2 : Int32} {x3 : Int32} {o : (Int32 × Int32 × (Nat → Int32) × (Nat → Int32) × (Nat → Int32))} (h : f_X10_deals N d x2 x3 v_most v_together v_prices v_hands v_hand v_dealing v_p1 = some o), CT l D yX10_deals cX10_deals 8 (Option.none : Option FieldType) (1 + d) [.ref q_this, .ref q_p1, .int x2, .int x3] (w_X10_deals D q_this q_prices q_hands q_hand q_dealing q_p1 w_now w_kept w_trial w_refusals w_row w_letters w_dists w_left w_steps w_partners w_times w_spliced w_piece w_balances v_hasImage v_rows v_lettered v_stepsMany v_splicedMany v_most v_together v_z v_prices v_hands v_hand v_dealing v_p1) (w_X10_deals D q_this q_prices q_hands q_hand q_dealing q_p1 w_now w_kept w_trial w_refusals w_row w_letters w_dists w_left w_steps w_partners w_times w_spliced w_piece w_balances v_hasImage v_rows v_lettered v_stepsMany v_splicedMany o.1 o.2.1 v_z v_prices o.2.2.1 o.2.2.2.1 o.2.2.2.2 v_p1) (none) := by
  induction d with
  | zero =>
    intro q_this q_prices q_hands q_hand q_dealing q_p1 w_now w_kept w_trial w_refusals w_row w_letters w_dists w_left w_steps w_partners w_times w_spliced w_piece w_balances v_hasImage v_rows v_lettered v_stepsMany v_splicedMany v_most v_together v_z v_prices v_hands v_hand v_dealing v_p1 x2 x3 o h
    unfold f_X10_deals at h
    cases h
  | succ d ih =>
    intro q_this q_prices q_hands q_hand q_dealing q_p1 w_now w_kept w_trial w_refusals w_row w_letters w_dists w_left w_steps w_partners w_times w_spliced w_piece w_balances v_hasImage v_rows v_lettered v_stepsMany v_splicedMany v_most v_together v_z v_prices v_hands v_hand v_dealing v_p1 x2 x3 o h
    refine CT.of mk_X10_deals (Nat.le_of_ble_eq_true rfl) (fun g hl hD C E => ?_)
    subst hl
    subst hD
    unfold f_X10_deals at h
    refine j_iload_n C dX10_deals_0 rfl ?_
    refine j_aload_n C dX10_deals_1 rfl ?_
    refine j_bipush C (49) dX10_deals_2 kb_49 ?_
    refine j_iaload 5 C h rfl rfl dX10_deals_4 (fun h => ?_)
    refine j_icmp_ge C h 95 dX10_deals_5 (by decide) (fun hc h => ?_) (fun hc h => ?_)
    · refine j_iconst C (0) dX10_deals_95 ki_0 ?_
      refine j_istore C dX10_deals_96 (by decide) ?_
      refine j_iconst C (0) dX10_deals_98 ki_0 ?_
      refine j_istore C dX10_deals_99 (by decide) ?_
      refine j_iconst C (0) dX10_deals_101 ki_0 ?_
      refine j_istore C dX10_deals_102 (by decide) ?_
      obtain ⟨e_104, hl_104, h⟩ := of_bind h
      have hR_104 : ∀ o9, Sum.inr o9 = e_104 → some o9 = some o := by
        intro o9 ho9
        rw [← ho9] at h
        exact h
      have ha_104 : ∀ x_104, Sum.inl x_104 = e_104 → J g (w_X10_deals (gD g) q_this q_prices q_hands q_hand q_dealing q_p1 w_now w_kept w_trial w_refusals w_row w_letters w_dists w_left w_steps w_partners w_times w_spliced w_piece w_balances v_hasImage v_rows v_lettered v_stepsMany v_splicedMany v_most v_together v_z v_prices v_hands v_hand v_dealing v_p1) [(0, .ref q_this), (1, .ref q_p1), (4, .int (x_104.1)), (5, .int (x_104.2))] 152 [] := by
        intro x_104 hx9
        rw [← hx9] at h
        dsimp only at h
        refine j_aload_n C dX10_deals_152 rfl ?_
        refine j_get C 0 rfl rfl inX10 23 (by decide) kw_1004 rfl rfl dX10_deals_153 ?_
        have hj_1 : f_X10_deals_j1 N v_p1 v_hand v_dealing x_104.1 x_104.2 v_hands = some o → J g (w_X10_deals (gD g) q_this q_prices q_hands q_hand q_dealing q_p1 w_now w_kept w_trial w_refusals w_row w_letters w_dists w_left w_steps w_partners w_times w_spliced w_piece w_balances v_hasImage v_rows v_lettered v_stepsMany v_splicedMany v_most v_together v_z v_prices v_hands v_hand v_dealing v_p1) [(0, .ref q_this), (1, .ref q_p1), (4, .int (x_104.1)), (5, .int (x_104.2))] 186 [] := by
          intro  h
          unfold f_X10_deals_j1 at h
          refine j_aload_n C dX10_deals_186 rfl ?_
          refine j_iload C dX10_deals_187 rfl ?_
          refine j_put C 0 rfl rfl inX10 tyX10_ok nmX10 23 (by decide) kw_1004 rfl rfl rfl rfl (Nat.le_of_ble_eq_true rfl) dX10_deals_189 ?_
          refine j_ws (ws' := (w_X10_deals (gD g) q_this q_prices q_hands q_hand q_dealing q_p1 w_now w_kept w_trial w_refusals w_row w_letters w_dists w_left w_steps w_partners w_times w_spliced w_piece w_balances v_hasImage v_rows v_lettered v_stepsMany v_splicedMany x_104.1 v_together v_z v_prices v_hands v_hand v_dealing v_p1)) rfl ?_
          refine j_aload_n C dX10_deals_192 rfl ?_
          refine j_iload C dX10_deals_193 rfl ?_
          refine j_put C 0 rfl rfl inX10 tyX10_ok nmX10 24 (by decide) kw_1005 rfl rfl rfl rfl (Nat.le_of_ble_eq_true rfl) dX10_deals_195 ?_
          refine j_ws (ws' := (w_X10_deals (gD g) q_this q_prices q_hands q_hand q_dealing q_p1 w_now w_kept w_trial w_refusals w_row w_letters w_dists w_left w_steps w_partners w_times w_spliced w_piece w_balances v_hasImage v_rows v_lettered v_stepsMany v_splicedMany x_104.1 x_104.2 v_z v_prices v_hands v_hand v_dealing v_p1)) rfl ?_
          refine j_iconst C (0) dX10_deals_198 ki_0 ?_
          refine j_istore C dX10_deals_199 (by decide) ?_
          obtain ⟨e_201, hl_201, h⟩ := of_bind h
          have ha_201 : J g (w_X10_deals (gD g) q_this q_prices q_hands q_hand q_dealing q_p1 w_now w_kept w_trial w_refusals w_row w_letters w_dists w_left w_steps w_partners w_times w_spliced w_piece w_balances v_hasImage v_rows v_lettered v_stepsMany v_splicedMany x_104.1 x_104.2 v_z v_prices v_hands v_hand e_201 v_p1) [] 242 [] := by
            have h := Option.some.inj h
            subst h
            exact j_vret C E dX10_deals_242
          refine j_lv (lv' := [(0, .ref q_this), (1, .ref q_p1), (6, .int ((0 : Int32)))]) rfl ?_
          refine lp_ind hl_201 (fun s_201 => J g (w_X10_deals (gD g) q_this q_prices q_hands q_hand q_dealing q_p1 w_now w_kept w_trial w_refusals w_row w_letters w_dists w_left w_steps w_partners w_times w_spliced w_piece w_balances v_hasImage v_rows v_lettered v_stepsMany v_splicedMany x_104.1 x_104.2 v_z v_prices v_hands v_hand s_201.2 v_p1) [(0, .ref q_this), (1, .ref q_p1), (6, .int (s_201.1))] 201 []) (fun s_201 r_201 h hc_201 hx_201 => ?_)
          unfold f_X10_deals_b201 at h
          refine j_iload C dX10_deals_201 rfl ?_
          refine j_bipush C (8) dX10_deals_203 kb_8 ?_
          refine j_icmp_ge C h 242 dX10_deals_205 (by decide) (fun hc h => ?_) (fun hc h => ?_)
          · have h := Option.some.inj h
            subst h
            have h9 := hx_201 _ rfl
            subst h9
            exact j_lw ha_201 rfl
          · refine j_aload_n C dX10_deals_208 rfl ?_
            refine j_get C 0 rfl rfl inX10 22 (by decide) kw_1003 rfl rfl dX10_deals_209 ?_
            refine j_iload C dX10_deals_212 rfl ?_
            refine j_iload C dX10_deals_214 rfl ?_
            refine j_aload_n C dX10_deals_216 rfl ?_
            refine j_bipush C (49) dX10_deals_217 kb_49 ?_
            refine j_iaload 5 C h rfl rfl dX10_deals_219 (fun h => ?_)
            refine j_icmp_ge C h 233 dX10_deals_220 (by decide) (fun hc h => ?_) (fun hc h => ?_)
            · refine j_bipush C (-9) dX10_deals_233 kb_m9 ?_
              refine j_iastore 4 C h rfl rfl dX10_deals_235 (fun h => ?_)
              refine j_ws (ws' := (w_X10_deals (gD g) q_this q_prices q_hands q_hand q_dealing q_p1 w_now w_kept w_trial w_refusals w_row w_letters w_dists w_left w_steps w_partners w_times w_spliced w_piece w_balances v_hasImage v_rows v_lettered v_stepsMany v_splicedMany x_104.1 x_104.2 v_z v_prices v_hands v_hand (upd s_201.2 (Int32.toNatClampNeg s_201.1) (-9 : Int32)) v_p1)) rfl ?_
              refine j_inc C (1) dX10_deals_236 rfl ki_1 (by decide) ?_
              refine j_goto C 201 dX10_deals_239 (by decide) ?_
              have h := Option.some.inj h
              subst h
              have hc9 := hc_201 _ rfl
              exact j_lw hc9 rfl
            · refine j_aload_n C dX10_deals_223 rfl ?_
              refine j_get C 0 rfl rfl inX10 21 (by decide) kw_1002 rfl rfl dX10_deals_224 ?_
              refine j_iload C dX10_deals_227 rfl ?_
              refine j_iaload 3 C h rfl rfl dX10_deals_229 (fun h => ?_)
              refine j_goto C 235 dX10_deals_230 (by decide) ?_
              refine j_iastore 4 C h rfl rfl dX10_deals_235 (fun h => ?_)
              refine j_ws (ws' := (w_X10_deals (gD g) q_this q_prices q_hands q_hand q_dealing q_p1 w_now w_kept w_trial w_refusals w_row w_letters w_dists w_left w_steps w_partners w_times w_spliced w_piece w_balances v_hasImage v_rows v_lettered v_stepsMany v_splicedMany x_104.1 x_104.2 v_z v_prices v_hands v_hand (upd s_201.2 (Int32.toNatClampNeg s_201.1) (v_hand (Int32.toNatClampNeg s_201.1))) v_p1)) rfl ?_
              refine j_inc C (1) dX10_deals_236 rfl ki_1 (by decide) ?_
              refine j_goto C 201 dX10_deals_239 (by decide) ?_
              have h := Option.some.inj h
              subst h
              have hc9 := hc_201 _ rfl
              exact j_lw hc9 rfl
        refine j_if_lt C h 186 dX10_deals_156 (by decide) (fun hc h => ?_) (fun hc h => ?_)
        · have hj9 := hj_1  h
          exact j_lw hj9 rfl
        · refine j_iload C dX10_deals_159 rfl ?_
          refine j_aload_n C dX10_deals_161 rfl ?_
          refine j_get C 0 rfl rfl inX10 23 (by decide) kw_1004 rfl rfl dX10_deals_162 ?_
          refine j_icmp_lt C h 186 dX10_deals_165 (by decide) (fun hc h => ?_) (fun hc h => ?_)
          · have hj9 := hj_1  h
            exact j_lw hj9 rfl
          · refine j_iload C dX10_deals_168 rfl ?_
            refine j_aload_n C dX10_deals_170 rfl ?_
            refine j_get C 0 rfl rfl inX10 23 (by decide) kw_1004 rfl rfl dX10_deals_171 ?_
            refine j_icmp_ne C h 242 dX10_deals_174 (by decide) (fun hc h => ?_) (fun hc h => ?_)
            · refine j_iload C dX10_deals_177 rfl ?_
              refine j_aload_n C dX10_deals_179 rfl ?_
              refine j_get C 0 rfl rfl inX10 24 (by decide) kw_1005 rfl rfl dX10_deals_180 ?_
              refine j_icmp_ge C h 242 dX10_deals_183 (by decide) (fun hc h => ?_) (fun hc h => ?_)
              · have h := Option.some.inj h
                subst h
                exact j_vret C E dX10_deals_242
              · have hj9 := hj_1  h
                exact j_lw hj9 rfl
            · have h := Option.some.inj h
              subst h
              exact j_vret C E dX10_deals_242
      refine j_lv (lv' := [(0, .ref q_this), (1, .ref q_p1), (2, .int (x2)), (4, .int ((0 : Int32))), (5, .int ((0 : Int32))), (6, .int ((0 : Int32)))]) rfl ?_
      refine lp_ind hl_104 (fun s_104 => J g (w_X10_deals (gD g) q_this q_prices q_hands q_hand q_dealing q_p1 w_now w_kept w_trial w_refusals w_row w_letters w_dists w_left w_steps w_partners w_times w_spliced w_piece w_balances v_hasImage v_rows v_lettered v_stepsMany v_splicedMany v_most v_together v_z v_prices v_hands v_hand v_dealing v_p1) [(0, .ref q_this), (1, .ref q_p1), (2, .int (x2)), (4, .int (s_104.1)), (5, .int (s_104.2.1)), (6, .int (s_104.2.2))] 104 []) (fun s_104 r_104 h hc_104 hx_104 => ?_)
      unfold f_X10_deals_b104 at h
      refine j_iload C dX10_deals_104 rfl ?_
      refine j_iload_n C dX10_deals_106 rfl ?_
      refine j_icmp_ge C h 152 dX10_deals_107 (by decide) (fun hc h => ?_) (fun hc h => ?_)
      · have h := Option.some.inj h
        subst h
        have hx9 := hx_104 _ rfl
        have ha9 := ha_104 _ hx9
        exact j_lw ha9 rfl
      · refine j_aload_n C dX10_deals_110 rfl ?_
        refine j_get C 0 rfl rfl inX10 19 (by decide) kw_1000 rfl rfl dX10_deals_111 ?_
        refine j_aload_n C dX10_deals_114 rfl ?_
        refine j_get C 0 rfl rfl inX10 20 (by decide) kw_1001 rfl rfl dX10_deals_115 ?_
        refine j_iload C dX10_deals_118 rfl ?_
        refine j_iaload 2 C h rfl rfl dX10_deals_120 (fun h => ?_)
        refine j_iaload 1 C h rfl rfl dX10_deals_121 (fun h => ?_)
        refine j_istore C dX10_deals_122 (by decide) ?_
        refine j_iload C dX10_deals_124 rfl ?_
        refine j_if_ge C h 130 dX10_deals_126 (by decide) (fun hc h => ?_) (fun hc h => ?_)
        · refine j_iload C dX10_deals_130 rfl ?_
          refine j_iload C dX10_deals_132 rfl ?_
          refine j_mmax C (by omega) kw_1347 kw_884 kw_19 kw_885 (Nat.le_of_ble_eq_true rfl) dX10_deals_134 ?_
          refine j_istore C dX10_deals_137 (by decide) ?_
          refine j_iload C dX10_deals_139 rfl ?_
          refine j_iload C dX10_deals_141 rfl ?_
          refine j_iadd C dX10_deals_143 ?_
          refine j_istore C dX10_deals_144 (by decide) ?_
          refine j_inc C (1) dX10_deals_146 rfl ki_1 (by decide) ?_
          refine j_goto C 104 dX10_deals_149 (by decide) ?_
          have h := Option.some.inj h
          subst h
          have hc9 := hc_104 _ rfl
          exact j_lw hc9 rfl
        · have h := Option.some.inj h
          subst h
          have h := hR_104 _ (hx_104 _ rfl)
          have h := Option.some.inj h
          subst h
          exact j_vret C E dX10_deals_129
    · refine j_aload_n C dX10_deals_8 rfl ?_
      refine j_get C 0 rfl rfl inX10 21 (by decide) kw_1002 rfl rfl dX10_deals_9 ?_
      refine j_iload_n C dX10_deals_12 rfl ?_
      refine j_bipush C (-9) dX10_deals_13 kb_m9 ?_
      refine j_iastore 3 C h rfl rfl dX10_deals_15 (fun h => ?_)
      refine j_ws (ws' := (w_X10_deals (gD g) q_this q_prices q_hands q_hand q_dealing q_p1 w_now w_kept w_trial w_refusals w_row w_letters w_dists w_left w_steps w_partners w_times w_spliced w_piece w_balances v_hasImage v_rows v_lettered v_stepsMany v_splicedMany v_most v_together v_z v_prices v_hands (upd v_hand (Int32.toNatClampNeg x3) (-9 : Int32)) v_dealing v_p1)) rfl ?_
      refine j_aload_n C dX10_deals_16 rfl ?_
      refine j_iload_n C dX10_deals_17 rfl ?_
      obtain ⟨r_isDue_2, h_2, h⟩ := of_bind h
      refine j_callS1 C mk_X10_isDue ms_X10_isDue kw_1153 (c_X10_isDue (gl g) (gD g) h_2) (by omega) [5] rfl rfl rfl rfl rfl (Nat.le_of_ble_eq_true rfl) dX10_deals_18 ?_
      refine j_ws (ws' := (w_X10_deals (gD g) q_this q_prices q_hands q_hand q_dealing q_p1 w_now w_kept w_trial w_refusals w_row w_letters w_dists w_left w_steps w_partners w_times w_spliced w_piece w_balances v_hasImage v_rows v_lettered v_stepsMany v_splicedMany v_most v_together v_z v_prices v_hands (upd v_hand (Int32.toNatClampNeg x3) (-9 : Int32)) v_dealing v_p1)) rfl ?_
      refine j_if_ne C h 34 dX10_deals_21 (by decide) (fun hc h => ?_) (fun hc h => ?_)
      · refine j_aload_n C dX10_deals_24 rfl ?_
        refine j_aload_n C dX10_deals_25 rfl ?_
        refine j_iload_n C dX10_deals_26 rfl ?_
        refine j_iload_n C dX10_deals_27 rfl ?_
        refine j_iconst C (1) dX10_deals_28 ki_1 ?_
        refine j_iadd C dX10_deals_29 ?_
        obtain ⟨r_deals_4, h_4, h⟩ := of_bind h
        refine j_callV0 C mk_X10_deals ms_X10_deals kw_1356 (ih h_4) (by omega) 0 rfl rfl [0, 1, 2, 3, 4, 5] rfl rfl rfl rfl rfl (Nat.le_of_ble_eq_true rfl) dX10_deals_30 ?_
        refine j_ws (ws' := (w_X10_deals (gD g) q_this q_prices q_hands q_hand q_dealing q_p1 w_now w_kept w_trial w_refusals w_row w_letters w_dists w_left w_steps w_partners w_times w_spliced w_piece w_balances v_hasImage v_rows v_lettered v_stepsMany v_splicedMany r_deals_4.1 r_deals_4.2.1 v_z v_prices r_deals_4.2.2.1 r_deals_4.2.2.2.1 r_deals_4.2.2.2.2 v_p1)) rfl ?_
        have h := Option.some.inj h
        subst h
        exact j_vret C E dX10_deals_33
      · refine j_iconst C (0) dX10_deals_34 ki_0 ?_
        refine j_istore C dX10_deals_35 (by decide) ?_
        obtain ⟨e_37, hl_37, h⟩ := of_bind h
        have ha_37 : J g (w_X10_deals (gD g) q_this q_prices q_hands q_hand q_dealing q_p1 w_now w_kept w_trial w_refusals w_row w_letters w_dists w_left w_steps w_partners w_times w_spliced w_piece w_balances v_hasImage v_rows v_lettered v_stepsMany v_splicedMany e_37.1 e_37.2.1 v_z v_prices e_37.2.2.1 e_37.2.2.2.1 e_37.2.2.2.2 v_p1) [] 94 [] := by
          have h := Option.some.inj h
          subst h
          exact j_vret C E dX10_deals_94
        refine j_lv (lv' := [(0, .ref q_this), (1, .ref q_p1), (2, .int (x2)), (3, .int (x3)), (4, .int ((0 : Int32)))]) rfl ?_
        refine lp_ind hl_37 (fun s_37 => J g (w_X10_deals (gD g) q_this q_prices q_hands q_hand q_dealing q_p1 w_now w_kept w_trial w_refusals w_row w_letters w_dists w_left w_steps w_partners w_times w_spliced w_piece w_balances v_hasImage v_rows v_lettered v_stepsMany v_splicedMany s_37.2.1 s_37.2.2.1 v_z v_prices s_37.2.2.2.1 s_37.2.2.2.2.1 s_37.2.2.2.2.2 v_p1) [(0, .ref q_this), (1, .ref q_p1), (2, .int (x2)), (3, .int (x3)), (4, .int (s_37.1))] 37 []) (fun s_37 r_37 h hc_37 hx_37 => ?_)
        unfold f_X10_deals_b37 at h
        refine j_iload C dX10_deals_37 rfl ?_
        refine j_iload_n C dX10_deals_39 rfl ?_
        refine j_icmp_ge C h 94 dX10_deals_40 (by decide) (fun hc h => ?_) (fun hc h => ?_)
        · have h := Option.some.inj h
          subst h
          have h9 := hx_37 _ rfl
          subst h9
          exact j_lw ha_37 rfl
        · refine j_aload_n C dX10_deals_43 rfl ?_
          refine j_get C 0 rfl rfl inX10 21 (by decide) kw_1002 rfl rfl dX10_deals_44 ?_
          refine j_iload_n C dX10_deals_47 rfl ?_
          refine j_iload C dX10_deals_48 rfl ?_
          refine j_iastore 3 C h rfl rfl dX10_deals_50 (fun h => ?_)
          refine j_ws (ws' := (w_X10_deals (gD g) q_this q_prices q_hands q_hand q_dealing q_p1 w_now w_kept w_trial w_refusals w_row w_letters w_dists w_left w_steps w_partners w_times w_spliced w_piece w_balances v_hasImage v_rows v_lettered v_stepsMany v_splicedMany s_37.2.1 s_37.2.2.1 v_z v_prices s_37.2.2.2.1 (upd s_37.2.2.2.2.1 (Int32.toNatClampNeg x3) s_37.1) s_37.2.2.2.2.2 v_p1)) rfl ?_
          refine j_aload_n C dX10_deals_51 rfl ?_
          refine j_get C 0 rfl rfl inX10 20 (by decide) kw_1001 rfl rfl dX10_deals_52 ?_
          refine j_iload C dX10_deals_55 rfl ?_
          refine j_dup2 C dX10_deals_57 rfl rfl ?_
          refine j_iaload 2 C h rfl rfl dX10_deals_58 (fun h => ?_)
          refine j_iconst C (1) dX10_deals_59 ki_1 ?_
          refine j_iload_n C dX10_deals_60 rfl ?_
          refine j_ishl C dX10_deals_61 ?_
          refine j_ior C dX10_deals_62 ?_
          refine j_iastore 2 C h rfl rfl dX10_deals_63 (fun h => ?_)
          refine j_ws (ws' := (w_X10_deals (gD g) q_this q_prices q_hands q_hand q_dealing q_p1 w_now w_kept w_trial w_refusals w_row w_letters w_dists w_left w_steps w_partners w_times w_spliced w_piece w_balances v_hasImage v_rows v_lettered v_stepsMany v_splicedMany s_37.2.1 s_37.2.2.1 v_z v_prices (upd s_37.2.2.2.1 (Int32.toNatClampNeg s_37.1) ((s_37.2.2.2.1 (Int32.toNatClampNeg s_37.1)) ||| ((1 : Int32) <<< (x3 &&& 31)))) (upd s_37.2.2.2.2.1 (Int32.toNatClampNeg x3) s_37.1) s_37.2.2.2.2.2 v_p1)) rfl ?_
          refine j_aload_n C dX10_deals_64 rfl ?_
          refine j_aload_n C dX10_deals_65 rfl ?_
          refine j_iload_n C dX10_deals_66 rfl ?_
          refine j_iload_n C dX10_deals_67 rfl ?_
          refine j_iconst C (1) dX10_deals_68 ki_1 ?_
          refine j_iadd C dX10_deals_69 ?_
          obtain ⟨r_deals_3, h_3, h⟩ := of_bind h
          refine j_callV0 C mk_X10_deals ms_X10_deals kw_1356 (ih h_3) (by omega) 0 rfl rfl [0, 1, 2, 3, 4, 5] rfl rfl rfl rfl rfl (Nat.le_of_ble_eq_true rfl) dX10_deals_70 ?_
          refine j_ws (ws' := (w_X10_deals (gD g) q_this q_prices q_hands q_hand q_dealing q_p1 w_now w_kept w_trial w_refusals w_row w_letters w_dists w_left w_steps w_partners w_times w_spliced w_piece w_balances v_hasImage v_rows v_lettered v_stepsMany v_splicedMany r_deals_3.1 r_deals_3.2.1 v_z v_prices r_deals_3.2.2.1 r_deals_3.2.2.2.1 r_deals_3.2.2.2.2 v_p1)) rfl ?_
          refine j_aload_n C dX10_deals_73 rfl ?_
          refine j_get C 0 rfl rfl inX10 20 (by decide) kw_1001 rfl rfl dX10_deals_74 ?_
          refine j_iload C dX10_deals_77 rfl ?_
          refine j_dup2 C dX10_deals_79 rfl rfl ?_
          refine j_iaload 2 C h rfl rfl dX10_deals_80 (fun h => ?_)
          refine j_iconst C (1) dX10_deals_81 ki_1 ?_
          refine j_iload_n C dX10_deals_82 rfl ?_
          refine j_ishl C dX10_deals_83 ?_
          refine j_iconst C (-1) dX10_deals_84 ki_m1 ?_
          refine j_ixor C dX10_deals_85 ?_
          refine j_iand C dX10_deals_86 ?_
          refine j_iastore 2 C h rfl rfl dX10_deals_87 (fun h => ?_)
          refine j_ws (ws' := (w_X10_deals (gD g) q_this q_prices q_hands q_hand q_dealing q_p1 w_now w_kept w_trial w_refusals w_row w_letters w_dists w_left w_steps w_partners w_times w_spliced w_piece w_balances v_hasImage v_rows v_lettered v_stepsMany v_splicedMany r_deals_3.1 r_deals_3.2.1 v_z v_prices (upd r_deals_3.2.2.1 (Int32.toNatClampNeg s_37.1) ((r_deals_3.2.2.1 (Int32.toNatClampNeg s_37.1)) &&& (((1 : Int32) <<< (x3 &&& 31)) ^^^ (-1 : Int32)))) r_deals_3.2.2.2.1 r_deals_3.2.2.2.2 v_p1)) rfl ?_
          refine j_inc C (1) dX10_deals_88 rfl ki_1 (by decide) ?_
          refine j_goto C 37 dX10_deals_91 (by decide) ?_
          have h := Option.some.inj h
          subst h
          have hc9 := hc_37 _ rfl
          exact j_lw hc9 rfl

def w_X10_shares (D : va_G) (q_this q_left q_prices q_hands q_hand q_dealing q_p1 : Nat) (w_now w_kept w_trial w_refusals w_row w_letters w_dists w_steps w_partners w_times w_spliced w_piece w_balances : Value) (v_hasImage : Int32) (v_rows : Int32) (v_lettered : Int32) (v_stepsMany : Int32) (v_splicedMany : Int32) (v_most : Int32) (v_together : Int32) (v_z : Int32) (v_left : (Nat → Int32)) (v_prices : (Nat → Int32)) (v_hands : (Nat → Int32)) (v_hand : (Nat → Int32)) (v_dealing : (Nat → Int32)) (v_p1 : (Nat → Int32)) : va_W := [(q_this, .inr (9, [w_now, w_kept, w_trial, .int v_hasImage, w_refusals, w_row, .int v_rows, w_letters, .int v_lettered, w_dists, .ref q_left, w_steps, .int v_stepsMany, w_partners, w_times, w_spliced, .int v_splicedMany, w_piece, w_balances, .ref q_prices, .ref q_hands, .ref q_hand, .ref q_dealing, .int v_most, .int v_together, .int v_z])), (q_left, .inl (D.1 100, 1536, .inl v_left)), (q_prices, .inl (D.1 100, 256, .inl v_prices)), (q_hands, .inl (D.1 100, 3, .inl v_hands)), (q_hand, .inl (D.1 100, 8, .inl v_hand)), (q_dealing, .inl (D.1 100, 8, .inl v_dealing)), (q_p1, .inl (D.1 100, 50, .inl v_p1))]
def f_X10_shares_b8 (N : Nat) (r_due_1_0 : Int32) (x4_8 : Int32) (v_left_8 : (Nat → Int32)) (v_prices_8 : (Nat → Int32)) (v_p1 : (Nat → Int32)) : Option ((Int32 × (Nat → Int32) × (Nat → Int32)) ⊕ ((Nat → Int32) × (Nat → Int32))) :=
  (if r_due_1_0 < x4_8 then some (.inr (v_left_8, v_prices_8)) else (if (x4_8 &&& (r_due_1_0 ^^^ (-1 : Int32))) = 0 then ga (48 : Int32) 50 ((f_X10_seeks N x4_8 (v_p1 (Int32.toNatClampNeg (48 : Int32))) v_left_8 v_p1).bind (fun r_seeks_2 => ga x4_8 256 (some (.inl (x4_8 + (1 : Int32), r_seeks_2.2, upd v_prices_8 (Int32.toNatClampNeg x4_8) r_seeks_2.1))))) else some (.inl (x4_8 + (1 : Int32), v_left_8, v_prices_8))))
def f_X10_shares_b62 (x4_62 : Int32) (v_dealing_62 : (Nat → Int32)) : Option ((Int32 × (Nat → Int32)) ⊕ (Nat → Int32)) :=
  (if (8 : Int32) ≤ x4_62 then some (.inr v_dealing_62) else ga x4_62 8 (some (.inl (x4_62 + (1 : Int32), upd v_dealing_62 (Int32.toNatClampNeg x4_62) (-9 : Int32)))))
def f_X10_shares (N : Nat) (x2 : Int32) (v_most : Int32) (v_together : Int32) (v_left : (Nat → Int32)) (v_prices : (Nat → Int32)) (v_hands : (Nat → Int32)) (v_hand : (Nat → Int32)) (v_dealing : (Nat → Int32)) (v_p1 : (Nat → Int32)) : Option (Int32 × Int32 × (Nat → Int32) × (Nat → Int32) × (Nat → Int32) × (Nat → Int32) × (Nat → Int32)) :=
  (f_X10_due N v_p1).bind (fun r_due_1 => (lp (fun s_8 => f_X10_shares_b8 N r_due_1 s_8.1 s_8.2.1 s_8.2.2 v_p1) N ((0 : Int32), v_left, v_prices)).bind (fun e_8 => (lp (fun s_62 => f_X10_shares_b62 s_62.1 s_62.2) N ((0 : Int32), v_dealing)).bind (fun e_62 => (f_X10_deals N 12 x2 (0 : Int32) (-9 : Int32) (-9 : Int32) e_8.2 v_hands v_hand e_62 v_p1).bind (fun r_deals_3 => some (r_deals_3.1, r_deals_3.2.1, e_8.1, e_8.2, r_deals_3.2.2.1, r_deals_3.2.2.2.1, r_deals_3.2.2.2.2)))))
set_option maxRecDepth 100000 in
set_option maxHeartbeats 4000000 in
theorem c_X10_shares (l : Launch) (D : va_G) (N : Nat) {q_this q_left q_prices q_hands q_hand q_dealing q_p1 : Nat} {w_now w_kept w_trial w_refusals w_row w_letters w_dists w_steps w_partners w_times w_spliced w_piece w_balances : Value} {v_hasImage : Int32} {v_rows : Int32} {v_lettered : Int32} {v_stepsMany : Int32} {v_splicedMany : Int32} {v_most : Int32} {v_together : Int32} {v_z : Int32} {v_left : (Nat → Int32)} {v_prices : (Nat → Int32)} {v_hands : (Nat → Int32)} {v_hand : (Nat → Int32)} {v_dealing : (Nat → Int32)} {v_p1 : (Nat → Int32)} {x2 : Int32} {o : (Int32 × Int32 × (Nat → Int32) × (Nat → Int32) × (Nat → Int32) × (Nat → Int32) × (Nat → Int32))} (h : f_X10_shares N x2 v_most v_together v_left v_prices v_hands v_hand v_dealing v_p1 = some o) : CT l D yX10_shares cX10_shares 5 (Option.none : Option FieldType) 14 [.ref q_this, .ref q_p1, .int x2] (w_X10_shares D q_this q_left q_prices q_hands q_hand q_dealing q_p1 w_now w_kept w_trial w_refusals w_row w_letters w_dists w_steps w_partners w_times w_spliced w_piece w_balances v_hasImage v_rows v_lettered v_stepsMany v_splicedMany v_most v_together v_z v_left v_prices v_hands v_hand v_dealing v_p1) (w_X10_shares D q_this q_left q_prices q_hands q_hand q_dealing q_p1 w_now w_kept w_trial w_refusals w_row w_letters w_dists w_steps w_partners w_times w_spliced w_piece w_balances v_hasImage v_rows v_lettered v_stepsMany v_splicedMany o.1 o.2.1 v_z o.2.2.1 o.2.2.2.1 o.2.2.2.2.1 o.2.2.2.2.2.1 o.2.2.2.2.2.2 v_p1) (none) := by
  refine CT.of mk_X10_shares (Nat.le_of_ble_eq_true rfl) (fun g hl hD C E => ?_)
  subst hl
  subst hD
  unfold f_X10_shares at h
  refine j_aload_n C dX10_shares_0 rfl ?_
  obtain ⟨r_due_1, h_1, h⟩ := of_bind h
  refine j_callS1 C mk_X10_due ms_X10_due kw_1200 (c_X10_due (gl g) (gD g) N h_1) (by decide) [6] rfl rfl rfl rfl rfl (Nat.le_of_ble_eq_true rfl) dX10_shares_1 ?_
  refine j_ws (ws' := (w_X10_shares (gD g) q_this q_left q_prices q_hands q_hand q_dealing q_p1 w_now w_kept w_trial w_refusals w_row w_letters w_dists w_steps w_partners w_times w_spliced w_piece w_balances v_hasImage v_rows v_lettered v_stepsMany v_splicedMany v_most v_together v_z v_left v_prices v_hands v_hand v_dealing v_p1)) rfl ?_
  refine j_istore_n C dX10_shares_4 (by decide) ?_
  refine j_iconst C (0) dX10_shares_5 ki_0 ?_
  refine j_istore C dX10_shares_6 (by decide) ?_
  obtain ⟨e_8, hl_8, h⟩ := of_bind h
  have ha_8 : J g (w_X10_shares (gD g) q_this q_left q_prices q_hands q_hand q_dealing q_p1 w_now w_kept w_trial w_refusals w_row w_letters w_dists w_steps w_partners w_times w_spliced w_piece w_balances v_hasImage v_rows v_lettered v_stepsMany v_splicedMany v_most v_together v_z e_8.1 e_8.2 v_hands v_hand v_dealing v_p1) [(0, .ref q_this), (1, .ref q_p1), (2, .int (x2))] 47 [] := by
    refine j_aload_n C dX10_shares_47 rfl ?_
    refine j_bipush C (-9) dX10_shares_48 kb_m9 ?_
    refine j_put C 0 rfl rfl inX10 tyX10_ok nmX10 23 (by decide) kw_1004 rfl rfl rfl rfl (Nat.le_of_ble_eq_true rfl) dX10_shares_50 ?_
    refine j_ws (ws' := (w_X10_shares (gD g) q_this q_left q_prices q_hands q_hand q_dealing q_p1 w_now w_kept w_trial w_refusals w_row w_letters w_dists w_steps w_partners w_times w_spliced w_piece w_balances v_hasImage v_rows v_lettered v_stepsMany v_splicedMany ((-9 : Int32)) v_together v_z e_8.1 e_8.2 v_hands v_hand v_dealing v_p1)) rfl ?_
    refine j_aload_n C dX10_shares_53 rfl ?_
    refine j_bipush C (-9) dX10_shares_54 kb_m9 ?_
    refine j_put C 0 rfl rfl inX10 tyX10_ok nmX10 24 (by decide) kw_1005 rfl rfl rfl rfl (Nat.le_of_ble_eq_true rfl) dX10_shares_56 ?_
    refine j_ws (ws' := (w_X10_shares (gD g) q_this q_left q_prices q_hands q_hand q_dealing q_p1 w_now w_kept w_trial w_refusals w_row w_letters w_dists w_steps w_partners w_times w_spliced w_piece w_balances v_hasImage v_rows v_lettered v_stepsMany v_splicedMany ((-9 : Int32)) ((-9 : Int32)) v_z e_8.1 e_8.2 v_hands v_hand v_dealing v_p1)) rfl ?_
    refine j_iconst C (0) dX10_shares_59 ki_0 ?_
    refine j_istore C dX10_shares_60 (by decide) ?_
    obtain ⟨e_62, hl_62, h⟩ := of_bind h
    have ha_62 : J g (w_X10_shares (gD g) q_this q_left q_prices q_hands q_hand q_dealing q_p1 w_now w_kept w_trial w_refusals w_row w_letters w_dists w_steps w_partners w_times w_spliced w_piece w_balances v_hasImage v_rows v_lettered v_stepsMany v_splicedMany ((-9 : Int32)) ((-9 : Int32)) v_z e_8.1 e_8.2 v_hands v_hand e_62 v_p1) [(0, .ref q_this), (1, .ref q_p1), (2, .int (x2))] 84 [] := by
      refine j_aload_n C dX10_shares_84 rfl ?_
      refine j_aload_n C dX10_shares_85 rfl ?_
      refine j_iload_n C dX10_shares_86 rfl ?_
      refine j_iconst C (0) dX10_shares_87 ki_0 ?_
      obtain ⟨r_deals_3, h_3, h⟩ := of_bind h
      refine j_callV0 C mk_X10_deals ms_X10_deals kw_1356 (c_X10_deals (gl g) (gD g) N 12 h_3) (by decide) 0 rfl rfl [0, 2, 3, 4, 5, 6] rfl rfl rfl rfl rfl (Nat.le_of_ble_eq_true rfl) dX10_shares_88 ?_
      refine j_ws (ws' := (w_X10_shares (gD g) q_this q_left q_prices q_hands q_hand q_dealing q_p1 w_now w_kept w_trial w_refusals w_row w_letters w_dists w_steps w_partners w_times w_spliced w_piece w_balances v_hasImage v_rows v_lettered v_stepsMany v_splicedMany r_deals_3.1 r_deals_3.2.1 v_z e_8.1 e_8.2 r_deals_3.2.2.1 r_deals_3.2.2.2.1 r_deals_3.2.2.2.2 v_p1)) rfl ?_
      have h := Option.some.inj h
      subst h
      exact j_vret C E dX10_shares_91
    refine j_lv (lv' := [(0, .ref q_this), (1, .ref q_p1), (2, .int (x2)), (4, .int ((0 : Int32)))]) rfl ?_
    refine lp_ind hl_62 (fun s_62 => J g (w_X10_shares (gD g) q_this q_left q_prices q_hands q_hand q_dealing q_p1 w_now w_kept w_trial w_refusals w_row w_letters w_dists w_steps w_partners w_times w_spliced w_piece w_balances v_hasImage v_rows v_lettered v_stepsMany v_splicedMany ((-9 : Int32)) ((-9 : Int32)) v_z e_8.1 e_8.2 v_hands v_hand s_62.2 v_p1) [(0, .ref q_this), (1, .ref q_p1), (2, .int (x2)), (4, .int (s_62.1))] 62 []) (fun s_62 r_62 h hc_62 hx_62 => ?_)
    unfold f_X10_shares_b62 at h
    refine j_iload C dX10_shares_62 rfl ?_
    refine j_bipush C (8) dX10_shares_64 kb_8 ?_
    refine j_icmp_ge C h 84 dX10_shares_66 (by decide) (fun hc h => ?_) (fun hc h => ?_)
    · have h := Option.some.inj h
      subst h
      have h9 := hx_62 _ rfl
      subst h9
      exact j_lw ha_62 rfl
    · refine j_aload_n C dX10_shares_69 rfl ?_
      refine j_get C 0 rfl rfl inX10 22 (by decide) kw_1003 rfl rfl dX10_shares_70 ?_
      refine j_iload C dX10_shares_73 rfl ?_
      refine j_bipush C (-9) dX10_shares_75 kb_m9 ?_
      refine j_iastore 5 C h rfl rfl dX10_shares_77 (fun h => ?_)
      refine j_ws (ws' := (w_X10_shares (gD g) q_this q_left q_prices q_hands q_hand q_dealing q_p1 w_now w_kept w_trial w_refusals w_row w_letters w_dists w_steps w_partners w_times w_spliced w_piece w_balances v_hasImage v_rows v_lettered v_stepsMany v_splicedMany ((-9 : Int32)) ((-9 : Int32)) v_z e_8.1 e_8.2 v_hands v_hand (upd s_62.2 (Int32.toNatClampNeg s_62.1) (-9 : Int32)) v_p1)) rfl ?_
      refine j_inc C (1) dX10_shares_78 rfl ki_1 (by decide) ?_
      refine j_goto C 62 dX10_shares_81 (by decide) ?_
      have h := Option.some.inj h
      subst h
      have hc9 := hc_62 _ rfl
      exact j_lw hc9 rfl
  refine j_lv (lv' := [(0, .ref q_this), (1, .ref q_p1), (2, .int (x2)), (3, .int (r_due_1)), (4, .int ((0 : Int32)))]) rfl ?_
  refine lp_ind hl_8 (fun s_8 => J g (w_X10_shares (gD g) q_this q_left q_prices q_hands q_hand q_dealing q_p1 w_now w_kept w_trial w_refusals w_row w_letters w_dists w_steps w_partners w_times w_spliced w_piece w_balances v_hasImage v_rows v_lettered v_stepsMany v_splicedMany v_most v_together v_z s_8.2.1 s_8.2.2 v_hands v_hand v_dealing v_p1) [(0, .ref q_this), (1, .ref q_p1), (2, .int (x2)), (3, .int (r_due_1)), (4, .int (s_8.1))] 8 []) (fun s_8 r_8 h hc_8 hx_8 => ?_)
  unfold f_X10_shares_b8 at h
  refine j_iload C dX10_shares_8 rfl ?_
  refine j_iload_n C dX10_shares_10 rfl ?_
  refine j_icmp_gt C h 47 dX10_shares_11 (by decide) (fun hc h => ?_) (fun hc h => ?_)
  · have h := Option.some.inj h
    subst h
    have h9 := hx_8 _ rfl
    subst h9
    exact j_lw ha_8 rfl
  · refine j_iload C dX10_shares_14 rfl ?_
    refine j_iload_n C dX10_shares_16 rfl ?_
    refine j_iconst C (-1) dX10_shares_17 ki_m1 ?_
    refine j_ixor C dX10_shares_18 ?_
    refine j_iand C dX10_shares_19 ?_
    refine j_if_ne C h 41 dX10_shares_20 (by decide) (fun hc h => ?_) (fun hc h => ?_)
    · refine j_aload_n C dX10_shares_23 rfl ?_
      refine j_get C 0 rfl rfl inX10 19 (by decide) kw_1000 rfl rfl dX10_shares_24 ?_
      refine j_iload C dX10_shares_27 rfl ?_
      refine j_aload_n C dX10_shares_29 rfl ?_
      refine j_aload_n C dX10_shares_30 rfl ?_
      refine j_iload C dX10_shares_31 rfl ?_
      refine j_aload_n C dX10_shares_33 rfl ?_
      refine j_bipush C (48) dX10_shares_34 kb_48 ?_
      refine j_iaload 6 C h rfl rfl dX10_shares_36 (fun h => ?_)
      obtain ⟨r_seeks_2, h_2, h⟩ := of_bind h
      refine j_callV1 C mk_X10_seeks ms_X10_seeks kw_1203 (c_X10_seeks (gl g) (gD g) N h_2) (by decide) 0 rfl rfl [0, 1, 6] rfl rfl rfl rfl rfl (Nat.le_of_ble_eq_true rfl) dX10_shares_37 ?_
      refine j_ws (ws' := (w_X10_shares (gD g) q_this q_left q_prices q_hands q_hand q_dealing q_p1 w_now w_kept w_trial w_refusals w_row w_letters w_dists w_steps w_partners w_times w_spliced w_piece w_balances v_hasImage v_rows v_lettered v_stepsMany v_splicedMany v_most v_together v_z r_seeks_2.2 s_8.2.2 v_hands v_hand v_dealing v_p1)) rfl ?_
      refine j_iastore 2 C h rfl rfl dX10_shares_40 (fun h => ?_)
      refine j_ws (ws' := (w_X10_shares (gD g) q_this q_left q_prices q_hands q_hand q_dealing q_p1 w_now w_kept w_trial w_refusals w_row w_letters w_dists w_steps w_partners w_times w_spliced w_piece w_balances v_hasImage v_rows v_lettered v_stepsMany v_splicedMany v_most v_together v_z r_seeks_2.2 (upd s_8.2.2 (Int32.toNatClampNeg s_8.1) r_seeks_2.1) v_hands v_hand v_dealing v_p1)) rfl ?_
      refine j_inc C (1) dX10_shares_41 rfl ki_1 (by decide) ?_
      refine j_goto C 8 dX10_shares_44 (by decide) ?_
      have h := Option.some.inj h
      subst h
      have hc9 := hc_8 _ rfl
      exact j_lw hc9 rfl
    · refine j_inc C (1) dX10_shares_41 rfl ki_1 (by decide) ?_
      refine j_goto C 8 dX10_shares_44 (by decide) ?_
      have h := Option.some.inj h
      subst h
      have hc9 := hc_8 _ rfl
      exact j_lw hc9 rfl

def w_X10_shared (D : va_G) (q_this q_now q_refusals q_left q_prices q_hands q_hand q_dealing : Nat) (w_kept w_trial w_row w_letters w_dists w_steps w_partners w_times w_spliced w_piece w_balances : Value) (v_hasImage : Int32) (v_rows : Int32) (v_lettered : Int32) (v_stepsMany : Int32) (v_splicedMany : Int32) (v_most : Int32) (v_together : Int32) (v_z : Int32) (v_now : (Nat → Int32)) (v_refusals : (Nat → Int32)) (v_left : (Nat → Int32)) (v_prices : (Nat → Int32)) (v_hands : (Nat → Int32)) (v_hand : (Nat → Int32)) (v_dealing : (Nat → Int32)) : va_W := [(q_this, .inr (9, [.ref q_now, w_kept, w_trial, .int v_hasImage, .ref q_refusals, w_row, .int v_rows, w_letters, .int v_lettered, w_dists, .ref q_left, w_steps, .int v_stepsMany, w_partners, w_times, w_spliced, .int v_splicedMany, w_piece, w_balances, .ref q_prices, .ref q_hands, .ref q_hand, .ref q_dealing, .int v_most, .int v_together, .int v_z])), (q_now, .inl (D.1 100, 50, .inl v_now)), (q_refusals, .inl (D.1 100, 7, .inl v_refusals)), (q_left, .inl (D.1 100, 1536, .inl v_left)), (q_prices, .inl (D.1 100, 256, .inl v_prices)), (q_hands, .inl (D.1 100, 3, .inl v_hands)), (q_hand, .inl (D.1 100, 8, .inl v_hand)), (q_dealing, .inl (D.1 100, 8, .inl v_dealing))]
def f_X10_shared_j4 (x2 : Int32) (r_shares_3_1 : Int32) (r_shares_3_0 : Int32) (v_refusals : (Nat → Int32)) (r_shares_3_2 : (Nat → Int32)) (r_shares_3_3 : (Nat → Int32)) (r_shares_3_4 : (Nat → Int32)) (r_shares_3_5 : (Nat → Int32)) (r_shares_3_6 : (Nat → Int32)) : Option (Int32 × Int32 × Int32 × (Nat → Int32) × (Nat → Int32) × (Nat → Int32) × (Nat → Int32) × (Nat → Int32) × (Nat → Int32)) :=
  some (if x2 = (1 : Int32) then r_shares_3_1 else r_shares_3_0, r_shares_3_0, r_shares_3_1, v_refusals, r_shares_3_2, r_shares_3_3, r_shares_3_4, r_shares_3_5, r_shares_3_6)
def f_X10_shared_b91 (x4_91 : Int32) (x3_91 : Int32) (r_shares_3_6 : (Nat → Int32)) : Option ((Int32 × Int32) ⊕ Int32) :=
  (if (8 : Int32) ≤ x4_91 then some (.inr x3_91) else ga x4_91 8 ((if (r_shares_3_6 (Int32.toNatClampNeg x4_91)) < 0 then some (.inl (x3_91 ||| (0 : Int32), x4_91 + (1 : Int32))) else ga x4_91 8 (some (.inl (x3_91 ||| ((1 : Int32) <<< ((r_shares_3_6 (Int32.toNatClampNeg x4_91)) &&& 31)), x4_91 + (1 : Int32)))))))
def f_X10_shared (N : Nat) (x1 : Int32) (x2 : Int32) (v_most : Int32) (v_together : Int32) (v_now : (Nat → Int32)) (v_refusals : (Nat → Int32)) (v_left : (Nat → Int32)) (v_prices : (Nat → Int32)) (v_hands : (Nat → Int32)) (v_hand : (Nat → Int32)) (v_dealing : (Nat → Int32)) : Option (Int32 × Int32 × Int32 × (Nat → Int32) × (Nat → Int32) × (Nat → Int32) × (Nat → Int32) × (Nat → Int32) × (Nat → Int32)) :=
  (f_X10_in (Int32.toInt64 x1) (1 : Int64) (3 : Int64)).bind (fun r_in_1 => (if r_in_1 = 0 then (f_X10_refused (if (1 : Int32) ≤ x1 then (-6 : Int32) else (-4 : Int32)) v_refusals).bind (fun r_refused_9 => some (r_refused_9.1, v_most, v_together, r_refused_9.2, v_left, v_prices, v_hands, v_hand, v_dealing)) else (f_X10_in (Int32.toInt64 x2) (0 : Int64) (2 : Int64)).bind (fun r_in_2 => (if r_in_2 = 0 then (f_X10_refused (-2 : Int32) v_refusals).bind (fun r_refused_7 => some (r_refused_7.1, v_most, v_together, r_refused_7.2, v_left, v_prices, v_hands, v_hand, v_dealing)) else (f_X10_shares N x1 v_most v_together v_left v_prices v_hands v_hand v_dealing v_now).bind (fun r_shares_3 => (if x2 < (2 : Int32) then f_X10_shared_j4 x2 r_shares_3.2.1 r_shares_3.1 v_refusals r_shares_3.2.2.1 r_shares_3.2.2.2.1 r_shares_3.2.2.2.2.1 r_shares_3.2.2.2.2.2.1 r_shares_3.2.2.2.2.2.2 else (if 0 ≤ r_shares_3.1 then (lp (fun s_91 => f_X10_shared_b91 s_91.2 s_91.1 r_shares_3.2.2.2.2.2.2) N ((0 : Int32), (0 : Int32))).bind (fun e_91 => (f_J6_bitCount_0f7a4 e_91).bind (fun r_bitCount_6 => some (r_bitCount_6, r_shares_3.1, r_shares_3.2.1, v_refusals, r_shares_3.2.2.1, r_shares_3.2.2.2.1, r_shares_3.2.2.2.2.1, r_shares_3.2.2.2.2.2.1, r_shares_3.2.2.2.2.2.2))) else f_X10_shared_j4 x2 r_shares_3.2.1 r_shares_3.1 v_refusals r_shares_3.2.2.1 r_shares_3.2.2.2.1 r_shares_3.2.2.2.2.1 r_shares_3.2.2.2.2.2.1 r_shares_3.2.2.2.2.2.2)))))))
set_option maxRecDepth 100000 in
set_option maxHeartbeats 4000000 in
theorem c_X10_shared (l : Launch) (D : va_G) (N : Nat) {q_this q_now q_refusals q_left q_prices q_hands q_hand q_dealing : Nat} {w_kept w_trial w_row w_letters w_dists w_steps w_partners w_times w_spliced w_piece w_balances : Value} {v_hasImage : Int32} {v_rows : Int32} {v_lettered : Int32} {v_stepsMany : Int32} {v_splicedMany : Int32} {v_most : Int32} {v_together : Int32} {v_z : Int32} {v_now : (Nat → Int32)} {v_refusals : (Nat → Int32)} {v_left : (Nat → Int32)} {v_prices : (Nat → Int32)} {v_hands : (Nat → Int32)} {v_hand : (Nat → Int32)} {v_dealing : (Nat → Int32)} {x1 : Int32} {x2 : Int32} {o : (Int32 × Int32 × Int32 × (Nat → Int32) × (Nat → Int32) × (Nat → Int32) × (Nat → Int32) × (Nat → Int32) × (Nat → Int32))} (h : f_X10_shared N x1 x2 v_most v_together v_now v_refusals v_left v_prices v_hands v_hand v_dealing = some o) : CT l D yX10_shared cX10_shared 5 (Option.some FieldType.int) 15 [.ref q_this, .int x1, .int x2] (w_X10_shared D q_this q_now q_refusals q_left q_prices q_hands q_hand q_dealing w_kept w_trial w_row w_letters w_dists w_steps w_partners w_times w_spliced w_piece w_balances v_hasImage v_rows v_lettered v_stepsMany v_splicedMany v_most v_together v_z v_now v_refusals v_left v_prices v_hands v_hand v_dealing) (w_X10_shared D q_this q_now q_refusals q_left q_prices q_hands q_hand q_dealing w_kept w_trial w_row w_letters w_dists w_steps w_partners w_times w_spliced w_piece w_balances v_hasImage v_rows v_lettered v_stepsMany v_splicedMany o.2.1 o.2.2.1 v_z v_now o.2.2.2.1 o.2.2.2.2.1 o.2.2.2.2.2.1 o.2.2.2.2.2.2.1 o.2.2.2.2.2.2.2.1 o.2.2.2.2.2.2.2.2) (some (.int o.1)) := by
  refine CT.of mk_X10_shared (Nat.le_of_ble_eq_true rfl) (fun g hl hD C E => ?_)
  subst hl
  subst hD
  unfold f_X10_shared at h
  refine j_iload_n C dX10_shared_0 rfl ?_
  refine j_i2l C dX10_shared_1 ?_
  refine j_lconst C 1 dX10_shared_2 rfl ?_
  refine j_ldc2 C kw_1191 dX10_shared_3 ?_
  obtain ⟨r_in_1, h_1, h⟩ := of_bind h
  refine j_callS1 C mk_X10_in ms_X10_in kw_1085 (c_X10_in (gl g) (gD g) h_1) (by decide) [] rfl rfl rfl rfl rfl (Nat.le_of_ble_eq_true rfl) dX10_shared_6 ?_
  refine j_ws (ws' := (w_X10_shared (gD g) q_this q_now q_refusals q_left q_prices q_hands q_hand q_dealing w_kept w_trial w_row w_letters w_dists w_steps w_partners w_times w_spliced w_piece w_balances v_hasImage v_rows v_lettered v_stepsMany v_splicedMany v_most v_together v_z v_now v_refusals v_left v_prices v_hands v_hand v_dealing)) rfl ?_
  refine j_if_ne C h 29 dX10_shared_9 (by decide) (fun hc h => ?_) (fun hc h => ?_)
  · refine j_aload_n C dX10_shared_12 rfl ?_
    refine j_iload_n C dX10_shared_13 rfl ?_
    refine j_iconst C (1) dX10_shared_14 ki_1 ?_
    have hj_8 : J g (w_X10_shared (gD g) q_this q_now q_refusals q_left q_prices q_hands q_hand q_dealing w_kept w_trial w_row w_letters w_dists w_steps w_partners w_times w_spliced w_piece w_balances v_hasImage v_rows v_lettered v_stepsMany v_splicedMany v_most v_together v_z v_now v_refusals v_left v_prices v_hands v_hand v_dealing) [] 25 [.int (if (1 : Int32) ≤ x1 then (-6 : Int32) else (-4 : Int32)), .ref q_this] := by
      obtain ⟨r_refused_9, h_9, h⟩ := of_bind h
      refine j_callV1 C mk_X10_refused ms_X10_refused kw_1064 (c_X10_refused (gl g) (gD g) h_9) (by decide) 0 rfl rfl [0, 2] rfl rfl rfl rfl rfl (Nat.le_of_ble_eq_true rfl) dX10_shared_25 ?_
      refine j_ws (ws' := (w_X10_shared (gD g) q_this q_now q_refusals q_left q_prices q_hands q_hand q_dealing w_kept w_trial w_row w_letters w_dists w_steps w_partners w_times w_spliced w_piece w_balances v_hasImage v_rows v_lettered v_stepsMany v_splicedMany v_most v_together v_z v_now r_refused_9.2 v_left v_prices v_hands v_hand v_dealing)) rfl ?_
      have h := Option.some.inj h
      subst h
      exact j_iret C E dX10_shared_28
    refine jv_icmp_ge C 23 dX10_shared_15 (by decide) (fun hc => ?_) (fun hc => ?_)
    · try simp only [if_pos hc] at hj_8
      refine j_bipush C (-6) dX10_shared_23 kb_m6 ?_
      exact j_lw hj_8 rfl
    · try simp only [if_neg hc] at hj_8
      refine j_bipush C (-4) dX10_shared_18 kb_m4 ?_
      refine j_goto C 25 dX10_shared_20 (by decide) ?_
      exact j_lw hj_8 rfl
  · refine j_iload_n C dX10_shared_29 rfl ?_
    refine j_i2l C dX10_shared_30 ?_
    refine j_lconst C 0 dX10_shared_31 rfl ?_
    refine j_ldc2 C kw_1149 dX10_shared_32 ?_
    obtain ⟨r_in_2, h_2, h⟩ := of_bind h
    refine j_callS1 C mk_X10_in ms_X10_in kw_1085 (c_X10_in (gl g) (gD g) h_2) (by decide) [] rfl rfl rfl rfl rfl (Nat.le_of_ble_eq_true rfl) dX10_shared_35 ?_
    refine j_ws (ws' := (w_X10_shared (gD g) q_this q_now q_refusals q_left q_prices q_hands q_hand q_dealing w_kept w_trial w_row w_letters w_dists w_steps w_partners w_times w_spliced w_piece w_balances v_hasImage v_rows v_lettered v_stepsMany v_splicedMany v_most v_together v_z v_now v_refusals v_left v_prices v_hands v_hand v_dealing)) rfl ?_
    refine j_if_ne C h 48 dX10_shared_38 (by decide) (fun hc h => ?_) (fun hc h => ?_)
    · refine j_aload_n C dX10_shared_41 rfl ?_
      refine j_bipush C (-2) dX10_shared_42 kb_m2 ?_
      obtain ⟨r_refused_7, h_7, h⟩ := of_bind h
      refine j_callV1 C mk_X10_refused ms_X10_refused kw_1064 (c_X10_refused (gl g) (gD g) h_7) (by decide) 0 rfl rfl [0, 2] rfl rfl rfl rfl rfl (Nat.le_of_ble_eq_true rfl) dX10_shared_44 ?_
      refine j_ws (ws' := (w_X10_shared (gD g) q_this q_now q_refusals q_left q_prices q_hands q_hand q_dealing w_kept w_trial w_row w_letters w_dists w_steps w_partners w_times w_spliced w_piece w_balances v_hasImage v_rows v_lettered v_stepsMany v_splicedMany v_most v_together v_z v_now r_refused_7.2 v_left v_prices v_hands v_hand v_dealing)) rfl ?_
      have h := Option.some.inj h
      subst h
      exact j_iret C E dX10_shared_47
    · refine j_aload_n C dX10_shared_48 rfl ?_
      refine j_aload_n C dX10_shared_49 rfl ?_
      refine j_get C 0 rfl rfl inX10 0 (by decide) kw_981 rfl rfl dX10_shared_50 ?_
      refine j_iload_n C dX10_shared_53 rfl ?_
      obtain ⟨r_shares_3, h_3, h⟩ := of_bind h
      refine j_callV0 C mk_X10_shares ms_X10_shares kw_1352 (c_X10_shares (gl g) (gD g) N h_3) (by decide) 0 rfl rfl [0, 3, 4, 5, 6, 7, 1] rfl rfl rfl rfl rfl (Nat.le_of_ble_eq_true rfl) dX10_shared_54 ?_
      refine j_ws (ws' := (w_X10_shared (gD g) q_this q_now q_refusals q_left q_prices q_hands q_hand q_dealing w_kept w_trial w_row w_letters w_dists w_steps w_partners w_times w_spliced w_piece w_balances v_hasImage v_rows v_lettered v_stepsMany v_splicedMany r_shares_3.1 r_shares_3.2.1 v_z v_now v_refusals r_shares_3.2.2.1 r_shares_3.2.2.2.1 r_shares_3.2.2.2.2.1 r_shares_3.2.2.2.2.2.1 r_shares_3.2.2.2.2.2.2)) rfl ?_
      refine j_iload_n C dX10_shared_57 rfl ?_
      refine j_iconst C (2) dX10_shared_58 ki_2 ?_
      have hj_4 : f_X10_shared_j4 x2 r_shares_3.2.1 r_shares_3.1 v_refusals r_shares_3.2.2.1 r_shares_3.2.2.2.1 r_shares_3.2.2.2.2.1 r_shares_3.2.2.2.2.2.1 r_shares_3.2.2.2.2.2.2 = some o → J g (w_X10_shared (gD g) q_this q_now q_refusals q_left q_prices q_hands q_hand q_dealing w_kept w_trial w_row w_letters w_dists w_steps w_partners w_times w_spliced w_piece w_balances v_hasImage v_rows v_lettered v_stepsMany v_splicedMany r_shares_3.1 r_shares_3.2.1 v_z v_now v_refusals r_shares_3.2.2.1 r_shares_3.2.2.2.1 r_shares_3.2.2.2.2.1 r_shares_3.2.2.2.2.2.1 r_shares_3.2.2.2.2.2.2) [(0, .ref q_this), (2, .int (x2))] 69 [] := by
        intro  h
        unfold f_X10_shared_j4 at h
        refine j_iload_n C dX10_shared_69 rfl ?_
        refine j_iconst C (1) dX10_shared_70 ki_1 ?_
        have hj_5 : J g (w_X10_shared (gD g) q_this q_now q_refusals q_left q_prices q_hands q_hand q_dealing w_kept w_trial w_row w_letters w_dists w_steps w_partners w_times w_spliced w_piece w_balances v_hasImage v_rows v_lettered v_stepsMany v_splicedMany r_shares_3.1 r_shares_3.2.1 v_z v_now v_refusals r_shares_3.2.2.1 r_shares_3.2.2.2.1 r_shares_3.2.2.2.2.1 r_shares_3.2.2.2.2.2.1 r_shares_3.2.2.2.2.2.2) [] 85 [.int (if x2 = (1 : Int32) then r_shares_3.2.1 else r_shares_3.1)] := by
          have h := Option.some.inj h
          subst h
          exact j_iret C E dX10_shared_85
        refine jv_icmp_ne C 81 dX10_shared_71 (by decide) (fun hc => ?_) (fun hc => ?_)
        · try simp only [if_pos hc] at hj_5
          refine j_aload_n C dX10_shared_74 rfl ?_
          refine j_get C 0 rfl rfl inX10 24 (by decide) kw_1005 rfl rfl dX10_shared_75 ?_
          refine j_goto C 85 dX10_shared_78 (by decide) ?_
          exact j_lw hj_5 rfl
        · try simp only [if_neg hc] at hj_5
          refine j_aload_n C dX10_shared_81 rfl ?_
          refine j_get C 0 rfl rfl inX10 23 (by decide) kw_1004 rfl rfl dX10_shared_82 ?_
          exact j_lw hj_5 rfl
      refine j_icmp_lt C h 69 dX10_shared_59 (by decide) (fun hc h => ?_) (fun hc h => ?_)
      · have hj9 := hj_4  h
        exact j_lw hj9 rfl
      · refine j_aload_n C dX10_shared_62 rfl ?_
        refine j_get C 0 rfl rfl inX10 23 (by decide) kw_1004 rfl rfl dX10_shared_63 ?_
        refine j_if_ge C h 86 dX10_shared_66 (by decide) (fun hc h => ?_) (fun hc h => ?_)
        · refine j_iconst C (0) dX10_shared_86 ki_0 ?_
          refine j_istore_n C dX10_shared_87 (by decide) ?_
          refine j_iconst C (0) dX10_shared_88 ki_0 ?_
          refine j_istore C dX10_shared_89 (by decide) ?_
          obtain ⟨e_91, hl_91, h⟩ := of_bind h
          have ha_91 : J g (w_X10_shared (gD g) q_this q_now q_refusals q_left q_prices q_hands q_hand q_dealing w_kept w_trial w_row w_letters w_dists w_steps w_partners w_times w_spliced w_piece w_balances v_hasImage v_rows v_lettered v_stepsMany v_splicedMany r_shares_3.1 r_shares_3.2.1 v_z v_now v_refusals r_shares_3.2.2.1 r_shares_3.2.2.2.1 r_shares_3.2.2.2.2.1 r_shares_3.2.2.2.2.2.1 r_shares_3.2.2.2.2.2.2) [(3, .int (e_91))] 130 [] := by
            refine j_iload_n C dX10_shared_130 rfl ?_
            obtain ⟨r_bitCount_6, h_6, h⟩ := of_bind h
            refine j_callS1 C mk_J6_bitCount_0f7a4 ms_J6_bitCount_0f7a4 kw_1360 (c_J6_bitCount_0f7a4 (gl g) (gD g) h_6) (by decide) [] rfl rfl rfl rfl rfl (Nat.le_of_ble_eq_true rfl) dX10_shared_131 ?_
            refine j_ws (ws' := (w_X10_shared (gD g) q_this q_now q_refusals q_left q_prices q_hands q_hand q_dealing w_kept w_trial w_row w_letters w_dists w_steps w_partners w_times w_spliced w_piece w_balances v_hasImage v_rows v_lettered v_stepsMany v_splicedMany r_shares_3.1 r_shares_3.2.1 v_z v_now v_refusals r_shares_3.2.2.1 r_shares_3.2.2.2.1 r_shares_3.2.2.2.2.1 r_shares_3.2.2.2.2.2.1 r_shares_3.2.2.2.2.2.2)) rfl ?_
            have h := Option.some.inj h
            subst h
            exact j_iret C E dX10_shared_134
          refine j_lv (lv' := [(0, .ref q_this), (3, .int ((0 : Int32))), (4, .int ((0 : Int32)))]) rfl ?_
          refine lp_ind hl_91 (fun s_91 => J g (w_X10_shared (gD g) q_this q_now q_refusals q_left q_prices q_hands q_hand q_dealing w_kept w_trial w_row w_letters w_dists w_steps w_partners w_times w_spliced w_piece w_balances v_hasImage v_rows v_lettered v_stepsMany v_splicedMany r_shares_3.1 r_shares_3.2.1 v_z v_now v_refusals r_shares_3.2.2.1 r_shares_3.2.2.2.1 r_shares_3.2.2.2.2.1 r_shares_3.2.2.2.2.2.1 r_shares_3.2.2.2.2.2.2) [(0, .ref q_this), (3, .int (s_91.1)), (4, .int (s_91.2))] 91 []) (fun s_91 r_91 h hc_91 hx_91 => ?_)
          unfold f_X10_shared_b91 at h
          refine j_iload C dX10_shared_91 rfl ?_
          refine j_bipush C (8) dX10_shared_93 kb_8 ?_
          refine j_icmp_ge C h 130 dX10_shared_95 (by decide) (fun hc h => ?_) (fun hc h => ?_)
          · have h := Option.some.inj h
            subst h
            have h9 := hx_91 _ rfl
            subst h9
            exact j_lw ha_91 rfl
          · refine j_iload_n C dX10_shared_98 rfl ?_
            refine j_aload_n C dX10_shared_99 rfl ?_
            refine j_get C 0 rfl rfl inX10 22 (by decide) kw_1003 rfl rfl dX10_shared_100 ?_
            refine j_iload C dX10_shared_103 rfl ?_
            refine j_iaload 7 C h rfl rfl dX10_shared_105 (fun h => ?_)
            refine j_if_lt C h 121 dX10_shared_106 (by decide) (fun hc h => ?_) (fun hc h => ?_)
            · refine j_iconst C (0) dX10_shared_121 ki_0 ?_
              refine j_ior C dX10_shared_122 ?_
              refine j_istore_n C dX10_shared_123 (by decide) ?_
              refine j_inc C (1) dX10_shared_124 rfl ki_1 (by decide) ?_
              refine j_goto C 91 dX10_shared_127 (by decide) ?_
              have h := Option.some.inj h
              subst h
              have hc9 := hc_91 _ rfl
              exact j_lw hc9 rfl
            · refine j_iconst C (1) dX10_shared_109 ki_1 ?_
              refine j_aload_n C dX10_shared_110 rfl ?_
              refine j_get C 0 rfl rfl inX10 22 (by decide) kw_1003 rfl rfl dX10_shared_111 ?_
              refine j_iload C dX10_shared_114 rfl ?_
              refine j_iaload 7 C h rfl rfl dX10_shared_116 (fun h => ?_)
              refine j_ishl C dX10_shared_117 ?_
              refine j_goto C 122 dX10_shared_118 (by decide) ?_
              refine j_ior C dX10_shared_122 ?_
              refine j_istore_n C dX10_shared_123 (by decide) ?_
              refine j_inc C (1) dX10_shared_124 rfl ki_1 (by decide) ?_
              refine j_goto C 91 dX10_shared_127 (by decide) ?_
              have h := Option.some.inj h
              subst h
              have hc9 := hc_91 _ rfl
              exact j_lw hc9 rfl
        · have hj9 := hj_4  h
          exact j_lw hj9 rfl

def w_X10_dealt (D : va_G) (q_this q_now q_refusals q_left q_prices q_hands q_hand q_dealing : Nat) (w_kept w_trial w_row w_letters w_dists w_steps w_partners w_times w_spliced w_piece w_balances : Value) (v_hasImage : Int32) (v_rows : Int32) (v_lettered : Int32) (v_stepsMany : Int32) (v_splicedMany : Int32) (v_most : Int32) (v_together : Int32) (v_z : Int32) (v_now : (Nat → Int32)) (v_refusals : (Nat → Int32)) (v_left : (Nat → Int32)) (v_prices : (Nat → Int32)) (v_hands : (Nat → Int32)) (v_hand : (Nat → Int32)) (v_dealing : (Nat → Int32)) : va_W := [(q_this, .inr (9, [.ref q_now, w_kept, w_trial, .int v_hasImage, .ref q_refusals, w_row, .int v_rows, w_letters, .int v_lettered, w_dists, .ref q_left, w_steps, .int v_stepsMany, w_partners, w_times, w_spliced, .int v_splicedMany, w_piece, w_balances, .ref q_prices, .ref q_hands, .ref q_hand, .ref q_dealing, .int v_most, .int v_together, .int v_z])), (q_now, .inl (D.1 100, 50, .inl v_now)), (q_refusals, .inl (D.1 100, 7, .inl v_refusals)), (q_left, .inl (D.1 100, 1536, .inl v_left)), (q_prices, .inl (D.1 100, 256, .inl v_prices)), (q_hands, .inl (D.1 100, 3, .inl v_hands)), (q_hand, .inl (D.1 100, 8, .inl v_hand)), (q_dealing, .inl (D.1 100, 8, .inl v_dealing))]
def f_X10_dealt (N : Nat) (x1 : Int32) (x2 : Int32) (v_most : Int32) (v_together : Int32) (v_now : (Nat → Int32)) (v_refusals : (Nat → Int32)) (v_left : (Nat → Int32)) (v_prices : (Nat → Int32)) (v_hands : (Nat → Int32)) (v_hand : (Nat → Int32)) (v_dealing : (Nat → Int32)) : Option (Int32 × Int32 × Int32 × (Nat → Int32) × (Nat → Int32) × (Nat → Int32) × (Nat → Int32) × (Nat → Int32) × (Nat → Int32)) :=
  (f_X10_in (Int32.toInt64 x1) (1 : Int64) (3 : Int64)).bind (fun r_in_1 => (if r_in_1 = 0 then (f_X10_refused (if (1 : Int32) ≤ x1 then (-6 : Int32) else (-4 : Int32)) v_refusals).bind (fun r_refused_6 => some (r_refused_6.1, v_most, v_together, r_refused_6.2, v_left, v_prices, v_hands, v_hand, v_dealing)) else (f_X10_isStreet x2 v_now).bind (fun r_isStreet_2 => (if r_isStreet_2 = 0 then (f_X10_refused (-1 : Int32) v_refusals).bind (fun r_refused_4 => some (r_refused_4.1, v_most, v_together, r_refused_4.2, v_left, v_prices, v_hands, v_hand, v_dealing)) else (f_X10_shares N x1 v_most v_together v_left v_prices v_hands v_hand v_dealing v_now).bind (fun r_shares_3 => ga x2 8 (some (r_shares_3.2.2.2.2.2.2 (Int32.toNatClampNeg x2), r_shares_3.1, r_shares_3.2.1, v_refusals, r_shares_3.2.2.1, r_shares_3.2.2.2.1, r_shares_3.2.2.2.2.1, r_shares_3.2.2.2.2.2.1, r_shares_3.2.2.2.2.2.2)))))))
set_option maxRecDepth 100000 in
set_option maxHeartbeats 4000000 in
theorem c_X10_dealt (l : Launch) (D : va_G) (N : Nat) {q_this q_now q_refusals q_left q_prices q_hands q_hand q_dealing : Nat} {w_kept w_trial w_row w_letters w_dists w_steps w_partners w_times w_spliced w_piece w_balances : Value} {v_hasImage : Int32} {v_rows : Int32} {v_lettered : Int32} {v_stepsMany : Int32} {v_splicedMany : Int32} {v_most : Int32} {v_together : Int32} {v_z : Int32} {v_now : (Nat → Int32)} {v_refusals : (Nat → Int32)} {v_left : (Nat → Int32)} {v_prices : (Nat → Int32)} {v_hands : (Nat → Int32)} {v_hand : (Nat → Int32)} {v_dealing : (Nat → Int32)} {x1 : Int32} {x2 : Int32} {o : (Int32 × Int32 × Int32 × (Nat → Int32) × (Nat → Int32) × (Nat → Int32) × (Nat → Int32) × (Nat → Int32) × (Nat → Int32))} (h : f_X10_dealt N x1 x2 v_most v_together v_now v_refusals v_left v_prices v_hands v_hand v_dealing = some o) : CT l D yX10_dealt cX10_dealt 3 (Option.some FieldType.int) 15 [.ref q_this, .int x1, .int x2] (w_X10_dealt D q_this q_now q_refusals q_left q_prices q_hands q_hand q_dealing w_kept w_trial w_row w_letters w_dists w_steps w_partners w_times w_spliced w_piece w_balances v_hasImage v_rows v_lettered v_stepsMany v_splicedMany v_most v_together v_z v_now v_refusals v_left v_prices v_hands v_hand v_dealing) (w_X10_dealt D q_this q_now q_refusals q_left q_prices q_hands q_hand q_dealing w_kept w_trial w_row w_letters w_dists w_steps w_partners w_times w_spliced w_piece w_balances v_hasImage v_rows v_lettered v_stepsMany v_splicedMany o.2.1 o.2.2.1 v_z v_now o.2.2.2.1 o.2.2.2.2.1 o.2.2.2.2.2.1 o.2.2.2.2.2.2.1 o.2.2.2.2.2.2.2.1 o.2.2.2.2.2.2.2.2) (some (.int o.1)) := by
  refine CT.of mk_X10_dealt (Nat.le_of_ble_eq_true rfl) (fun g hl hD C E => ?_)
  subst hl
  subst hD
  unfold f_X10_dealt at h
  refine j_iload_n C dX10_dealt_0 rfl ?_
  refine j_i2l C dX10_dealt_1 ?_
  refine j_lconst C 1 dX10_dealt_2 rfl ?_
  refine j_ldc2 C kw_1191 dX10_dealt_3 ?_
  obtain ⟨r_in_1, h_1, h⟩ := of_bind h
  refine j_callS1 C mk_X10_in ms_X10_in kw_1085 (c_X10_in (gl g) (gD g) h_1) (by decide) [] rfl rfl rfl rfl rfl (Nat.le_of_ble_eq_true rfl) dX10_dealt_6 ?_
  refine j_ws (ws' := (w_X10_dealt (gD g) q_this q_now q_refusals q_left q_prices q_hands q_hand q_dealing w_kept w_trial w_row w_letters w_dists w_steps w_partners w_times w_spliced w_piece w_balances v_hasImage v_rows v_lettered v_stepsMany v_splicedMany v_most v_together v_z v_now v_refusals v_left v_prices v_hands v_hand v_dealing)) rfl ?_
  refine j_if_ne C h 29 dX10_dealt_9 (by decide) (fun hc h => ?_) (fun hc h => ?_)
  · refine j_aload_n C dX10_dealt_12 rfl ?_
    refine j_iload_n C dX10_dealt_13 rfl ?_
    refine j_iconst C (1) dX10_dealt_14 ki_1 ?_
    have hj_5 : J g (w_X10_dealt (gD g) q_this q_now q_refusals q_left q_prices q_hands q_hand q_dealing w_kept w_trial w_row w_letters w_dists w_steps w_partners w_times w_spliced w_piece w_balances v_hasImage v_rows v_lettered v_stepsMany v_splicedMany v_most v_together v_z v_now v_refusals v_left v_prices v_hands v_hand v_dealing) [] 25 [.int (if (1 : Int32) ≤ x1 then (-6 : Int32) else (-4 : Int32)), .ref q_this] := by
      obtain ⟨r_refused_6, h_6, h⟩ := of_bind h
      refine j_callV1 C mk_X10_refused ms_X10_refused kw_1064 (c_X10_refused (gl g) (gD g) h_6) (by decide) 0 rfl rfl [0, 2] rfl rfl rfl rfl rfl (Nat.le_of_ble_eq_true rfl) dX10_dealt_25 ?_
      refine j_ws (ws' := (w_X10_dealt (gD g) q_this q_now q_refusals q_left q_prices q_hands q_hand q_dealing w_kept w_trial w_row w_letters w_dists w_steps w_partners w_times w_spliced w_piece w_balances v_hasImage v_rows v_lettered v_stepsMany v_splicedMany v_most v_together v_z v_now r_refused_6.2 v_left v_prices v_hands v_hand v_dealing)) rfl ?_
      have h := Option.some.inj h
      subst h
      exact j_iret C E dX10_dealt_28
    refine jv_icmp_ge C 23 dX10_dealt_15 (by decide) (fun hc => ?_) (fun hc => ?_)
    · try simp only [if_pos hc] at hj_5
      refine j_bipush C (-6) dX10_dealt_23 kb_m6 ?_
      exact j_lw hj_5 rfl
    · try simp only [if_neg hc] at hj_5
      refine j_bipush C (-4) dX10_dealt_18 kb_m4 ?_
      refine j_goto C 25 dX10_dealt_20 (by decide) ?_
      exact j_lw hj_5 rfl
  · refine j_aload_n C dX10_dealt_29 rfl ?_
    refine j_get C 0 rfl rfl inX10 0 (by decide) kw_981 rfl rfl dX10_dealt_30 ?_
    refine j_iload_n C dX10_dealt_33 rfl ?_
    obtain ⟨r_isStreet_2, h_2, h⟩ := of_bind h
    refine j_callS1 C mk_X10_isStreet ms_X10_isStreet kw_1113 (c_X10_isStreet (gl g) (gD g) h_2) (by decide) [1] rfl rfl rfl rfl rfl (Nat.le_of_ble_eq_true rfl) dX10_dealt_34 ?_
    refine j_ws (ws' := (w_X10_dealt (gD g) q_this q_now q_refusals q_left q_prices q_hands q_hand q_dealing w_kept w_trial w_row w_letters w_dists w_steps w_partners w_times w_spliced w_piece w_balances v_hasImage v_rows v_lettered v_stepsMany v_splicedMany v_most v_together v_z v_now v_refusals v_left v_prices v_hands v_hand v_dealing)) rfl ?_
    refine j_if_ne C h 46 dX10_dealt_37 (by decide) (fun hc h => ?_) (fun hc h => ?_)
    · refine j_aload_n C dX10_dealt_40 rfl ?_
      refine j_iconst C (-1) dX10_dealt_41 ki_m1 ?_
      obtain ⟨r_refused_4, h_4, h⟩ := of_bind h
      refine j_callV1 C mk_X10_refused ms_X10_refused kw_1064 (c_X10_refused (gl g) (gD g) h_4) (by decide) 0 rfl rfl [0, 2] rfl rfl rfl rfl rfl (Nat.le_of_ble_eq_true rfl) dX10_dealt_42 ?_
      refine j_ws (ws' := (w_X10_dealt (gD g) q_this q_now q_refusals q_left q_prices q_hands q_hand q_dealing w_kept w_trial w_row w_letters w_dists w_steps w_partners w_times w_spliced w_piece w_balances v_hasImage v_rows v_lettered v_stepsMany v_splicedMany v_most v_together v_z v_now r_refused_4.2 v_left v_prices v_hands v_hand v_dealing)) rfl ?_
      have h := Option.some.inj h
      subst h
      exact j_iret C E dX10_dealt_45
    · refine j_aload_n C dX10_dealt_46 rfl ?_
      refine j_aload_n C dX10_dealt_47 rfl ?_
      refine j_get C 0 rfl rfl inX10 0 (by decide) kw_981 rfl rfl dX10_dealt_48 ?_
      refine j_iload_n C dX10_dealt_51 rfl ?_
      obtain ⟨r_shares_3, h_3, h⟩ := of_bind h
      refine j_callV0 C mk_X10_shares ms_X10_shares kw_1352 (c_X10_shares (gl g) (gD g) N h_3) (by decide) 0 rfl rfl [0, 3, 4, 5, 6, 7, 1] rfl rfl rfl rfl rfl (Nat.le_of_ble_eq_true rfl) dX10_dealt_52 ?_
      refine j_ws (ws' := (w_X10_dealt (gD g) q_this q_now q_refusals q_left q_prices q_hands q_hand q_dealing w_kept w_trial w_row w_letters w_dists w_steps w_partners w_times w_spliced w_piece w_balances v_hasImage v_rows v_lettered v_stepsMany v_splicedMany r_shares_3.1 r_shares_3.2.1 v_z v_now v_refusals r_shares_3.2.2.1 r_shares_3.2.2.2.1 r_shares_3.2.2.2.2.1 r_shares_3.2.2.2.2.2.1 r_shares_3.2.2.2.2.2.2)) rfl ?_
      refine j_aload_n C dX10_dealt_55 rfl ?_
      refine j_get C 0 rfl rfl inX10 22 (by decide) kw_1003 rfl rfl dX10_dealt_56 ?_
      refine j_iload_n C dX10_dealt_59 rfl ?_
      refine j_iaload 7 C h rfl rfl dX10_dealt_60 (fun h => ?_)
      have h := Option.some.inj h
      subst h
      exact j_iret C E dX10_dealt_61

def w_X10_lowest (D : va_G) : va_W := []
def f_X10_lowest_b6 (x7_6 : Int64) (x5_6 : Int64) : Option ((Int64 × Int64) ⊕ Int64) :=
  (if (lg_cmp x7_6 (0 : Int64)) = 0 then some (.inr x5_6) else gdl x7_6 (some (.inl (x7_6, x5_6 - x5_6 / x7_6 * x7_6))))
def f_X10_lowest (N : Nat) (x0 : Int64) (x2 : Int64) (x4 : Int32) : Option Int64 :=
  (lp (fun s_6 => f_X10_lowest_b6 s_6.2 s_6.1) N (x0, x2)).bind (fun e_6 => gdl e_6 (some ((if x4 = 0 then x0 else x2) / e_6)))
set_option maxRecDepth 100000 in
set_option maxHeartbeats 4000000 in
theorem c_X10_lowest (l : Launch) (D : va_G) (N : Nat) {x0 : Int64} {x2 : Int64} {x4 : Int32} {o : Int64} (h : f_X10_lowest N x0 x2 x4 = some o) : CT l D yX10_lowest cX10_lowest 11 (Option.some FieldType.long) 0 [.long x0, .long x2, .int x4] (w_X10_lowest D) (w_X10_lowest D) (some (.long o)) := by
  refine CT.of mk_X10_lowest (Nat.le_of_ble_eq_true rfl) (fun g hl hD C E => ?_)
  subst hl
  subst hD
  unfold f_X10_lowest at h
  refine j_lload_n C dX10_lowest_0 rfl ?_
  refine j_lstore C dX10_lowest_1 (by decide) ?_
  refine j_lload_n C dX10_lowest_3 rfl ?_
  refine j_lstore C dX10_lowest_4 (by decide) ?_
  obtain ⟨e_6, hl_6, h⟩ := of_bind h
  have ha_6 : J g (w_X10_lowest (gD g)) [(0, .long (x0)), (2, .long (x2)), (4, .int (x4)), (5, .long (e_6))] 31 [] := by
    refine j_iload C dX10_lowest_31 rfl ?_
    have hj_1 : J g (w_X10_lowest (gD g)) [(5, .long (e_6))] 41 [.long (if x4 = 0 then x0 else x2)] := by
      refine j_lload C dX10_lowest_41 rfl ?_
      refine j_ldiv C h dX10_lowest_43 (fun h => ?_)
      have h := Option.some.inj h
      subst h
      exact j_lret C E dX10_lowest_44
    refine jv_if_ne C 40 dX10_lowest_33 (by decide) (fun hc => ?_) (fun hc => ?_)
    · try simp only [if_pos hc] at hj_1
      refine j_lload_n C dX10_lowest_36 rfl ?_
      refine j_goto C 41 dX10_lowest_37 (by decide) ?_
      exact j_lw hj_1 rfl
    · try simp only [if_neg hc] at hj_1
      refine j_lload_n C dX10_lowest_40 rfl ?_
      exact j_lw hj_1 rfl
  refine j_lv (lv' := [(0, .long (x0)), (2, .long (x2)), (4, .int (x4)), (5, .long (x0)), (7, .long (x2))]) rfl ?_
  refine lp_ind hl_6 (fun s_6 => J g (w_X10_lowest (gD g)) [(0, .long (x0)), (2, .long (x2)), (4, .int (x4)), (5, .long (s_6.1)), (7, .long (s_6.2))] 6 []) (fun s_6 r_6 h hc_6 hx_6 => ?_)
  unfold f_X10_lowest_b6 at h
  refine j_lload C dX10_lowest_6 rfl ?_
  refine j_lconst C 0 dX10_lowest_8 rfl ?_
  refine j_lcmp C dX10_lowest_9 ?_
  refine j_if_eq C h 31 dX10_lowest_10 (by decide) (fun hc h => ?_) (fun hc h => ?_)
  · have h := Option.some.inj h
    subst h
    have h9 := hx_6 _ rfl
    subst h9
    exact j_lw ha_6 rfl
  · refine j_lload C dX10_lowest_13 rfl ?_
    refine j_lload C dX10_lowest_15 rfl ?_
    refine j_lrem C h dX10_lowest_17 (fun h => ?_)
    refine j_lstore C dX10_lowest_18 (by decide) ?_
    refine j_lload C dX10_lowest_20 rfl ?_
    refine j_lstore C dX10_lowest_22 (by decide) ?_
    refine j_lload C dX10_lowest_24 rfl ?_
    refine j_lstore C dX10_lowest_26 (by decide) ?_
    refine j_goto C 6 dX10_lowest_28 (by decide) ?_
    have h := Option.some.inj h
    subst h
    have hc9 := hc_6 _ rfl
    exact j_lw hc9 rfl

def w_X10_lost (D : va_G) (q_this q_now q_trial q_refusals q_left : Nat) (w_kept w_row w_letters w_dists w_steps w_partners w_times w_spliced w_piece w_balances w_prices w_hands w_hand w_dealing : Value) (v_hasImage : Int32) (v_rows : Int32) (v_lettered : Int32) (v_stepsMany : Int32) (v_splicedMany : Int32) (v_most : Int32) (v_together : Int32) (v_z : Int32) (v_now : (Nat → Int32)) (v_trial : (Nat → Int32)) (v_refusals : (Nat → Int32)) (v_left : (Nat → Int32)) : va_W := [(q_this, .inr (9, [.ref q_now, w_kept, .ref q_trial, .int v_hasImage, .ref q_refusals, w_row, .int v_rows, w_letters, .int v_lettered, w_dists, .ref q_left, w_steps, .int v_stepsMany, w_partners, w_times, w_spliced, .int v_splicedMany, w_piece, w_balances, w_prices, w_hands, w_hand, w_dealing, .int v_most, .int v_together, .int v_z])), (q_now, .inl (D.1 100, 50, .inl v_now)), (q_trial, .inl (D.1 100, 50, .inl v_trial)), (q_refusals, .inl (D.1 100, 7, .inl v_refusals)), (q_left, .inl (D.1 100, 1536, .inl v_left))]
def f_X10_lost_j1 (v_trial_j1 : (Nat → Int32)) (v_refusals_j1 : (Nat → Int32)) (v_left_j1 : (Nat → Int32)) : Option (Int64 × (Nat → Int32) × (Nat → Int32) × (Nat → Int32)) :=
  (f_X10_refusedLong (-4 : Int32) v_refusals_j1).bind (fun r_refusedLong_2 => some (r_refusedLong_2.1, v_trial_j1, r_refusedLong_2.2, v_left_j1))
def f_X10_lost_j3 (v_trial_j3 : (Nat → Int32)) (v_refusals_j3 : (Nat → Int32)) (v_left_j3 : (Nat → Int32)) : Option (Int64 × (Nat → Int32) × (Nat → Int32) × (Nat → Int32)) :=
  (f_X10_refusedLong (-6 : Int32) v_refusals_j3).bind (fun r_refusedLong_4 => some (r_refusedLong_4.1, v_trial_j3, r_refusedLong_4.2, v_left_j3))
def f_X10_lost_b62 (v_now : (Nat → Int32)) (x7_62 : Int32) (x4_62 : Int32) (x5_62 : Int64) (x2 : Int32) : Option ((Int32 × Int64 × Int32) ⊕ (Int32 × Int64)) :=
  ga (49 : Int32) 50 ((if (if (v_now (Int32.toNatClampNeg (49 : Int32))) < (6 : Int32) then (v_now (Int32.toNatClampNeg (49 : Int32))) else (6 : Int32)) ≤ x7_62 then some (.inr (x4_62, x5_62)) else ga ((40 : Int32) + x7_62) 50 (ga ((40 : Int32) + x7_62) 50 (some (.inl (x4_62 ||| ((v_now (Int32.toNatClampNeg ((40 : Int32) + x7_62))) <<< (x7_62 &&& 31)), x5_62 * (if (v_now (Int32.toNatClampNeg ((40 : Int32) + x7_62))) = (1 : Int32) then (Int32.toInt64 x2) else (1 : Int64)), x7_62 + (1 : Int32)))))))
def f_X10_lost_b166 (x13_166 : Int32) (x11_166 : Int64) (v_trial_166 : (Nat → Int32)) (x9_134 : Int32) (e_62_0 : Int32) (x2 : Int32) : Option ((Int64 × Int32 × (Nat → Int32)) ⊕ (Int64 × (Nat → Int32))) :=
  (if (6 : Int32) ≤ x13_166 then some (.inr (x11_166, v_trial_166)) else (if ((x9_134 >>> (x13_166 &&& 31)) &&& (1 : Int32)) = (1 : Int32) then ga ((40 : Int32) + x13_166) 50 (some (.inl (x11_166, x13_166 + (1 : Int32), upd v_trial_166 (Int32.toNatClampNeg ((40 : Int32) + x13_166)) (0 : Int32)))) else some (.inl (if ((e_62_0 >>> (x13_166 &&& 31)) &&& (1 : Int32)) = (1 : Int32) then (x11_166 * (Int32.toInt64 (x2 - (1 : Int32)))) else x11_166, x13_166 + (1 : Int32), v_trial_166))))
def f_X10_lost_b134 (N : Nat) (x9_134 : Int32) (x7_134 : Int64) (v_trial_134 : (Nat → Int32)) (v_left_134 : (Nat → Int32)) (e_62_0 : Int32) (v_now : (Nat → Int32)) (x2 : Int32) (x1 : Int32) : Option ((Int64 × Int32 × (Nat → Int32) × (Nat → Int32)) ⊕ (Int64 × (Nat → Int32) × (Nat → Int32))) :=
  (if (64 : Int32) ≤ x9_134 then some (.inr (x7_134, v_trial_134, v_left_134)) else (if (x9_134 &&& (e_62_0 ^^^ (-1 : Int32))) = 0 then (f_X10_thought N v_now v_trial_134).bind (fun r_thought_7 => (lp (fun s_166 => f_X10_lost_b166 s_166.2.1 s_166.1 s_166.2.2 x9_134 e_62_0 x2) N ((1 : Int64), (0 : Int32), r_thought_7)).bind (fun e_166 => (f_X10_roundOf N v_left_134 e_166.2).bind (fun r_roundOf_9 => (f_X10_in (Int32.toInt64 r_roundOf_9.1) (0 : Int64) (Int32.toInt64 x1)).bind (fun r_in_10 => some (.inl (x7_134 + (if r_in_10 = 0 then (0 : Int64) else e_166.1), x9_134 + (1 : Int32), e_166.2, r_roundOf_9.2)))))) else some (.inl (x7_134, x9_134 + (1 : Int32), v_trial_134, v_left_134))))
def f_X10_lost (N : Nat) (x1 : Int32) (x2 : Int32) (x3 : Int32) (v_now : (Nat → Int32)) (v_trial : (Nat → Int32)) (v_refusals : (Nat → Int32)) (v_left : (Nat → Int32)) : Option (Int64 × (Nat → Int32) × (Nat → Int32) × (Nat → Int32)) :=
  (if x1 < 0 then f_X10_lost_j1 v_trial v_refusals v_left else (if (2 : Int32) ≤ x2 then (if (9999 : Int32) < x1 then f_X10_lost_j3 v_trial v_refusals v_left else (if x2 ≤ (20 : Int32) then (f_X10_in (Int32.toInt64 x3) (0 : Int64) (1 : Int64)).bind (fun r_in_5 => (if r_in_5 = 0 then (f_X10_refusedLong (-2 : Int32) v_refusals).bind (fun r_refusedLong_13 => some (r_refusedLong_13.1, v_trial, r_refusedLong_13.2, v_left)) else (lp (fun s_62 => f_X10_lost_b62 v_now s_62.2.2 s_62.1 s_62.2.1 x2) N ((0 : Int32), (1 : Int64), (0 : Int32))).bind (fun e_62 => (lp (fun s_134 => f_X10_lost_b134 N s_134.2.1 s_134.1 s_134.2.2.1 s_134.2.2.2 e_62.1 v_now x2 x1) N ((0 : Int64), (0 : Int32), v_trial, v_left)).bind (fun e_134 => (f_X10_lowest N e_134.1 e_62.2 x3).bind (fun r_lowest_12 => some (r_lowest_12, e_134.2.1, v_refusals, e_134.2.2)))))) else f_X10_lost_j3 v_trial v_refusals v_left)) else f_X10_lost_j1 v_trial v_refusals v_left))
set_option maxRecDepth 100000 in
set_option maxHeartbeats 4000000 in
theorem c_X10_lost (l : Launch) (D : va_G) (N : Nat) {q_this q_now q_trial q_refusals q_left : Nat} {w_kept w_row w_letters w_dists w_steps w_partners w_times w_spliced w_piece w_balances w_prices w_hands w_hand w_dealing : Value} {v_hasImage : Int32} {v_rows : Int32} {v_lettered : Int32} {v_stepsMany : Int32} {v_splicedMany : Int32} {v_most : Int32} {v_together : Int32} {v_z : Int32} {v_now : (Nat → Int32)} {v_trial : (Nat → Int32)} {v_refusals : (Nat → Int32)} {v_left : (Nat → Int32)} {x1 : Int32} {x2 : Int32} {x3 : Int32} {o : (Int64 × (Nat → Int32) × (Nat → Int32) × (Nat → Int32))} (h : f_X10_lost N x1 x2 x3 v_now v_trial v_refusals v_left = some o) : CT l D yX10_lost cX10_lost 14 (Option.some FieldType.long) 5 [.ref q_this, .int x1, .int x2, .int x3] (w_X10_lost D q_this q_now q_trial q_refusals q_left w_kept w_row w_letters w_dists w_steps w_partners w_times w_spliced w_piece w_balances w_prices w_hands w_hand w_dealing v_hasImage v_rows v_lettered v_stepsMany v_splicedMany v_most v_together v_z v_now v_trial v_refusals v_left) (w_X10_lost D q_this q_now q_trial q_refusals q_left w_kept w_row w_letters w_dists w_steps w_partners w_times w_spliced w_piece w_balances w_prices w_hands w_hand w_dealing v_hasImage v_rows v_lettered v_stepsMany v_splicedMany v_most v_together v_z v_now o.2.1 o.2.2.1 o.2.2.2) (some (.long o.1)) := by
  refine CT.of mk_X10_lost (Nat.le_of_ble_eq_true rfl) (fun g hl hD C E => ?_)
  subst hl
  subst hD
  unfold f_X10_lost at h
  refine j_iload_n C dX10_lost_0 rfl ?_
  have hj_1 : ∀ (v_trial_j1 : (Nat → Int32)) (v_refusals_j1 : (Nat → Int32)) (v_left_j1 : (Nat → Int32)), f_X10_lost_j1 v_trial_j1 v_refusals_j1 v_left_j1 = some o → J g (w_X10_lost (gD g) q_this q_now q_trial q_refusals q_left w_kept w_row w_letters w_dists w_steps w_partners w_times w_spliced w_piece w_balances w_prices w_hands w_hand w_dealing v_hasImage v_rows v_lettered v_stepsMany v_splicedMany v_most v_together v_z v_now v_trial_j1 v_refusals_j1 v_left_j1) [(0, .ref q_this)] 9 [] := by
    intro v_trial_j1 v_refusals_j1 v_left_j1 h
    unfold f_X10_lost_j1 at h
    refine j_aload_n C dX10_lost_9 rfl ?_
    refine j_bipush C (-4) dX10_lost_10 kb_m4 ?_
    obtain ⟨r_refusedLong_2, h_2, h⟩ := of_bind h
    refine j_callV1 C mk_X10_refusedLong ms_X10_refusedLong kw_1369 (c_X10_refusedLong (gl g) (gD g) h_2) (by decide) 0 rfl rfl [0, 3] rfl rfl rfl rfl rfl (Nat.le_of_ble_eq_true rfl) dX10_lost_12 ?_
    refine j_ws (ws' := (w_X10_lost (gD g) q_this q_now q_trial q_refusals q_left w_kept w_row w_letters w_dists w_steps w_partners w_times w_spliced w_piece w_balances w_prices w_hands w_hand w_dealing v_hasImage v_rows v_lettered v_stepsMany v_splicedMany v_most v_together v_z v_now v_trial_j1 r_refusedLong_2.2 v_left_j1)) rfl ?_
    have h := Option.some.inj h
    subst h
    exact j_lret C E dX10_lost_15
  refine j_if_lt C h 9 dX10_lost_1 (by decide) (fun hc h => ?_) (fun hc h => ?_)
  · have hj9 := hj_1 _ _ _ h
    exact j_lw hj9 rfl
  · refine j_iload_n C dX10_lost_4 rfl ?_
    refine j_iconst C (2) dX10_lost_5 ki_2 ?_
    refine j_icmp_ge C h 16 dX10_lost_6 (by decide) (fun hc h => ?_) (fun hc h => ?_)
    · refine j_iload_n C dX10_lost_16 rfl ?_
      refine j_sipush C (9999) dX10_lost_17 kc_9999 ?_
      have hj_3 : ∀ (v_trial_j3 : (Nat → Int32)) (v_refusals_j3 : (Nat → Int32)) (v_left_j3 : (Nat → Int32)), f_X10_lost_j3 v_trial_j3 v_refusals_j3 v_left_j3 = some o → J g (w_X10_lost (gD g) q_this q_now q_trial q_refusals q_left w_kept w_row w_letters w_dists w_steps w_partners w_times w_spliced w_piece w_balances w_prices w_hands w_hand w_dealing v_hasImage v_rows v_lettered v_stepsMany v_splicedMany v_most v_together v_z v_now v_trial_j3 v_refusals_j3 v_left_j3) [(0, .ref q_this)] 29 [] := by
        intro v_trial_j3 v_refusals_j3 v_left_j3 h
        unfold f_X10_lost_j3 at h
        refine j_aload_n C dX10_lost_29 rfl ?_
        refine j_bipush C (-6) dX10_lost_30 kb_m6 ?_
        obtain ⟨r_refusedLong_4, h_4, h⟩ := of_bind h
        refine j_callV1 C mk_X10_refusedLong ms_X10_refusedLong kw_1369 (c_X10_refusedLong (gl g) (gD g) h_4) (by decide) 0 rfl rfl [0, 3] rfl rfl rfl rfl rfl (Nat.le_of_ble_eq_true rfl) dX10_lost_32 ?_
        refine j_ws (ws' := (w_X10_lost (gD g) q_this q_now q_trial q_refusals q_left w_kept w_row w_letters w_dists w_steps w_partners w_times w_spliced w_piece w_balances w_prices w_hands w_hand w_dealing v_hasImage v_rows v_lettered v_stepsMany v_splicedMany v_most v_together v_z v_now v_trial_j3 r_refusedLong_4.2 v_left_j3)) rfl ?_
        have h := Option.some.inj h
        subst h
        exact j_lret C E dX10_lost_35
      refine j_icmp_gt C h 29 dX10_lost_20 (by decide) (fun hc h => ?_) (fun hc h => ?_)
      · have hj9 := hj_3 _ _ _ h
        exact j_lw hj9 rfl
      · refine j_iload_n C dX10_lost_23 rfl ?_
        refine j_bipush C (20) dX10_lost_24 kb_20 ?_
        refine j_icmp_le C h 36 dX10_lost_26 (by decide) (fun hc h => ?_) (fun hc h => ?_)
        · refine j_iload_n C dX10_lost_36 rfl ?_
          refine j_i2l C dX10_lost_37 ?_
          refine j_lconst C 0 dX10_lost_38 rfl ?_
          refine j_lconst C 1 dX10_lost_39 rfl ?_
          obtain ⟨r_in_5, h_5, h⟩ := of_bind h
          refine j_callS1 C mk_X10_in ms_X10_in kw_1085 (c_X10_in (gl g) (gD g) h_5) (by decide) [] rfl rfl rfl rfl rfl (Nat.le_of_ble_eq_true rfl) dX10_lost_40 ?_
          refine j_ws (ws' := (w_X10_lost (gD g) q_this q_now q_trial q_refusals q_left w_kept w_row w_letters w_dists w_steps w_partners w_times w_spliced w_piece w_balances w_prices w_hands w_hand w_dealing v_hasImage v_rows v_lettered v_stepsMany v_splicedMany v_most v_together v_z v_now v_trial v_refusals v_left)) rfl ?_
          refine j_if_ne C h 53 dX10_lost_43 (by decide) (fun hc h => ?_) (fun hc h => ?_)
          · refine j_aload_n C dX10_lost_46 rfl ?_
            refine j_bipush C (-2) dX10_lost_47 kb_m2 ?_
            obtain ⟨r_refusedLong_13, h_13, h⟩ := of_bind h
            refine j_callV1 C mk_X10_refusedLong ms_X10_refusedLong kw_1369 (c_X10_refusedLong (gl g) (gD g) h_13) (by decide) 0 rfl rfl [0, 3] rfl rfl rfl rfl rfl (Nat.le_of_ble_eq_true rfl) dX10_lost_49 ?_
            refine j_ws (ws' := (w_X10_lost (gD g) q_this q_now q_trial q_refusals q_left w_kept w_row w_letters w_dists w_steps w_partners w_times w_spliced w_piece w_balances w_prices w_hands w_hand w_dealing v_hasImage v_rows v_lettered v_stepsMany v_splicedMany v_most v_together v_z v_now v_trial r_refusedLong_13.2 v_left)) rfl ?_
            have h := Option.some.inj h
            subst h
            exact j_lret C E dX10_lost_52
          · refine j_iconst C (0) dX10_lost_53 ki_0 ?_
            refine j_istore C dX10_lost_54 (by decide) ?_
            refine j_lconst C 1 dX10_lost_56 rfl ?_
            refine j_lstore C dX10_lost_57 (by decide) ?_
            refine j_iconst C (0) dX10_lost_59 ki_0 ?_
            refine j_istore C dX10_lost_60 (by decide) ?_
            obtain ⟨e_62, hl_62, h⟩ := of_bind h
            have ha_62 : J g (w_X10_lost (gD g) q_this q_now q_trial q_refusals q_left w_kept w_row w_letters w_dists w_steps w_partners w_times w_spliced w_piece w_balances w_prices w_hands w_hand w_dealing v_hasImage v_rows v_lettered v_stepsMany v_splicedMany v_most v_together v_z v_now v_trial v_refusals v_left) [(0, .ref q_this), (1, .int (x1)), (2, .int (x2)), (3, .int (x3)), (4, .int (e_62.1)), (5, .long (e_62.2))] 128 [] := by
              refine j_lconst C 0 dX10_lost_128 rfl ?_
              refine j_lstore C dX10_lost_129 (by decide) ?_
              refine j_iconst C (0) dX10_lost_131 ki_0 ?_
              refine j_istore C dX10_lost_132 (by decide) ?_
              obtain ⟨e_134, hl_134, h⟩ := of_bind h
              have ha_134 : J g (w_X10_lost (gD g) q_this q_now q_trial q_refusals q_left w_kept w_row w_letters w_dists w_steps w_partners w_times w_spliced w_piece w_balances w_prices w_hands w_hand w_dealing v_hasImage v_rows v_lettered v_stepsMany v_splicedMany v_most v_together v_z v_now e_134.2.1 v_refusals e_134.2.2) [(3, .int (x3)), (5, .long (e_62.2)), (7, .long (e_134.1))] 255 [] := by
                refine j_lload C dX10_lost_255 rfl ?_
                refine j_lload C dX10_lost_257 rfl ?_
                refine j_iload_n C dX10_lost_259 rfl ?_
                obtain ⟨r_lowest_12, h_12, h⟩ := of_bind h
                refine j_callS1 C mk_X10_lowest ms_X10_lowest kw_1374 (c_X10_lowest (gl g) (gD g) N h_12) (by decide) [] rfl rfl rfl rfl rfl (Nat.le_of_ble_eq_true rfl) dX10_lost_260 ?_
                refine j_ws (ws' := (w_X10_lost (gD g) q_this q_now q_trial q_refusals q_left w_kept w_row w_letters w_dists w_steps w_partners w_times w_spliced w_piece w_balances w_prices w_hands w_hand w_dealing v_hasImage v_rows v_lettered v_stepsMany v_splicedMany v_most v_together v_z v_now e_134.2.1 v_refusals e_134.2.2)) rfl ?_
                have h := Option.some.inj h
                subst h
                exact j_lret C E dX10_lost_263
              refine j_lv (lv' := [(0, .ref q_this), (1, .int (x1)), (2, .int (x2)), (3, .int (x3)), (4, .int (e_62.1)), (5, .long (e_62.2)), (7, .long ((0 : Int64))), (9, .int ((0 : Int32)))]) rfl ?_
              refine lp_ind hl_134 (fun s_134 => J g (w_X10_lost (gD g) q_this q_now q_trial q_refusals q_left w_kept w_row w_letters w_dists w_steps w_partners w_times w_spliced w_piece w_balances w_prices w_hands w_hand w_dealing v_hasImage v_rows v_lettered v_stepsMany v_splicedMany v_most v_together v_z v_now s_134.2.2.1 v_refusals s_134.2.2.2) [(0, .ref q_this), (1, .int (x1)), (2, .int (x2)), (3, .int (x3)), (4, .int (e_62.1)), (5, .long (e_62.2)), (7, .long (s_134.1)), (9, .int (s_134.2.1))] 134 []) (fun s_134 r_134 h hc_134 hx_134 => ?_)
              unfold f_X10_lost_b134 at h
              refine j_iload C dX10_lost_134 rfl ?_
              refine j_bipush C (64) dX10_lost_136 kb_64 ?_
              refine j_icmp_ge C h 255 dX10_lost_138 (by decide) (fun hc h => ?_) (fun hc h => ?_)
              · have h := Option.some.inj h
                subst h
                have h9 := hx_134 _ rfl
                subst h9
                exact j_lw ha_134 rfl
              · refine j_iload C dX10_lost_141 rfl ?_
                refine j_iload C dX10_lost_143 rfl ?_
                refine j_iconst C (-1) dX10_lost_145 ki_m1 ?_
                refine j_ixor C dX10_lost_146 ?_
                refine j_iand C dX10_lost_147 ?_
                refine j_if_eq C h 154 dX10_lost_148 (by decide) (fun hc h => ?_) (fun hc h => ?_)
                · refine j_aload_n C dX10_lost_154 rfl ?_
                  obtain ⟨r_thought_7, h_7, h⟩ := of_bind h
                  refine j_callV1 C mk_X10_thought ms_X10_thought kw_1090 (c_X10_thought (gl g) (gD g) N h_7) (by decide) 0 rfl rfl [0, 1, 2] rfl rfl rfl rfl rfl (Nat.le_of_ble_eq_true rfl) dX10_lost_155 ?_
                  refine j_ws (ws' := (w_X10_lost (gD g) q_this q_now q_trial q_refusals q_left w_kept w_row w_letters w_dists w_steps w_partners w_times w_spliced w_piece w_balances w_prices w_hands w_hand w_dealing v_hasImage v_rows v_lettered v_stepsMany v_splicedMany v_most v_together v_z v_now r_thought_7 v_refusals s_134.2.2.2)) rfl ?_
                  refine j_astore C dX10_lost_158 (by decide) ?_
                  refine j_lconst C 1 dX10_lost_160 rfl ?_
                  refine j_lstore C dX10_lost_161 (by decide) ?_
                  refine j_iconst C (0) dX10_lost_163 ki_0 ?_
                  refine j_istore C dX10_lost_164 (by decide) ?_
                  obtain ⟨e_166, hl_166, h⟩ := of_bind h
                  have ha_166 : J g (w_X10_lost (gD g) q_this q_now q_trial q_refusals q_left w_kept w_row w_letters w_dists w_steps w_partners w_times w_spliced w_piece w_balances w_prices w_hands w_hand w_dealing v_hasImage v_rows v_lettered v_stepsMany v_splicedMany v_most v_together v_z v_now e_166.2 v_refusals s_134.2.2.2) [(0, .ref q_this), (1, .int (x1)), (2, .int (x2)), (3, .int (x3)), (4, .int (e_62.1)), (5, .long (e_62.2)), (7, .long (s_134.1)), (9, .int (s_134.2.1)), (10, .ref q_trial), (11, .long (e_166.1))] 222 [] := by
                    refine j_lload C dX10_lost_222 rfl ?_
                    refine j_aload_n C dX10_lost_224 rfl ?_
                    refine j_aload C dX10_lost_225 rfl ?_
                    obtain ⟨r_roundOf_9, h_9, h⟩ := of_bind h
                    refine j_callV1 C mk_X10_roundOf ms_X10_roundOf kw_1196 (c_X10_roundOf (gl g) (gD g) N h_9) (by decide) 0 rfl rfl [0, 4, 2] rfl rfl rfl rfl rfl (Nat.le_of_ble_eq_true rfl) dX10_lost_227 ?_
                    refine j_ws (ws' := (w_X10_lost (gD g) q_this q_now q_trial q_refusals q_left w_kept w_row w_letters w_dists w_steps w_partners w_times w_spliced w_piece w_balances w_prices w_hands w_hand w_dealing v_hasImage v_rows v_lettered v_stepsMany v_splicedMany v_most v_together v_z v_now e_166.2 v_refusals r_roundOf_9.2)) rfl ?_
                    refine j_i2l C dX10_lost_230 ?_
                    refine j_lconst C 0 dX10_lost_231 rfl ?_
                    refine j_iload_n C dX10_lost_232 rfl ?_
                    refine j_i2l C dX10_lost_233 ?_
                    obtain ⟨r_in_10, h_10, h⟩ := of_bind h
                    refine j_callS1 C mk_X10_in ms_X10_in kw_1085 (c_X10_in (gl g) (gD g) h_10) (by decide) [] rfl rfl rfl rfl rfl (Nat.le_of_ble_eq_true rfl) dX10_lost_234 ?_
                    refine j_ws (ws' := (w_X10_lost (gD g) q_this q_now q_trial q_refusals q_left w_kept w_row w_letters w_dists w_steps w_partners w_times w_spliced w_piece w_balances w_prices w_hands w_hand w_dealing v_hasImage v_rows v_lettered v_stepsMany v_splicedMany v_most v_together v_z v_now e_166.2 v_refusals r_roundOf_9.2)) rfl ?_
                    have hj_11 : J g (w_X10_lost (gD g) q_this q_now q_trial q_refusals q_left w_kept w_row w_letters w_dists w_steps w_partners w_times w_spliced w_piece w_balances w_prices w_hands w_hand w_dealing v_hasImage v_rows v_lettered v_stepsMany v_splicedMany v_most v_together v_z v_now e_166.2 v_refusals r_roundOf_9.2) [(0, .ref q_this), (1, .int (x1)), (2, .int (x2)), (3, .int (x3)), (4, .int (e_62.1)), (5, .long (e_62.2)), (9, .int (s_134.2.1))] 246 [.long (if r_in_10 = 0 then (0 : Int64) else e_166.1), .long (s_134.1)] := by
                      refine j_ladd C dX10_lost_246 ?_
                      refine j_lstore C dX10_lost_247 (by decide) ?_
                      refine j_inc C (1) dX10_lost_249 rfl ki_1 (by decide) ?_
                      refine j_goto C 134 dX10_lost_252 (by decide) ?_
                      have h := Option.some.inj h
                      subst h
                      have hc9 := hc_134 _ rfl
                      exact j_lw hc9 rfl
                    refine jv_if_eq C 245 dX10_lost_237 (by decide) (fun hc => ?_) (fun hc => ?_)
                    · try simp only [if_pos hc] at hj_11
                      refine j_lconst C 0 dX10_lost_245 rfl ?_
                      exact j_lw hj_11 rfl
                    · try simp only [if_neg hc] at hj_11
                      refine j_lload C dX10_lost_240 rfl ?_
                      refine j_goto C 246 dX10_lost_242 (by decide) ?_
                      exact j_lw hj_11 rfl
                  refine j_lv (lv' := [(0, .ref q_this), (1, .int (x1)), (2, .int (x2)), (3, .int (x3)), (4, .int (e_62.1)), (5, .long (e_62.2)), (7, .long (s_134.1)), (9, .int (s_134.2.1)), (10, .ref q_trial), (11, .long ((1 : Int64))), (13, .int ((0 : Int32)))]) rfl ?_
                  refine lp_ind hl_166 (fun s_166 => J g (w_X10_lost (gD g) q_this q_now q_trial q_refusals q_left w_kept w_row w_letters w_dists w_steps w_partners w_times w_spliced w_piece w_balances w_prices w_hands w_hand w_dealing v_hasImage v_rows v_lettered v_stepsMany v_splicedMany v_most v_together v_z v_now s_166.2.2 v_refusals s_134.2.2.2) [(0, .ref q_this), (1, .int (x1)), (2, .int (x2)), (3, .int (x3)), (4, .int (e_62.1)), (5, .long (e_62.2)), (7, .long (s_134.1)), (9, .int (s_134.2.1)), (10, .ref q_trial), (11, .long (s_166.1)), (13, .int (s_166.2.1))] 166 []) (fun s_166 r_166 h hc_166 hx_166 => ?_)
                  unfold f_X10_lost_b166 at h
                  refine j_iload C dX10_lost_166 rfl ?_
                  refine j_bipush C (6) dX10_lost_168 kb_6 ?_
                  refine j_icmp_ge C h 222 dX10_lost_170 (by decide) (fun hc h => ?_) (fun hc h => ?_)
                  · have h := Option.some.inj h
                    subst h
                    have h9 := hx_166 _ rfl
                    subst h9
                    exact j_lw ha_166 rfl
                  · refine j_iload C dX10_lost_173 rfl ?_
                    refine j_iload C dX10_lost_175 rfl ?_
                    refine j_ishr C dX10_lost_177 ?_
                    refine j_iconst C (1) dX10_lost_178 ki_1 ?_
                    refine j_iand C dX10_lost_179 ?_
                    refine j_iconst C (1) dX10_lost_180 ki_1 ?_
                    refine j_icmp_ne C h 196 dX10_lost_181 (by decide) (fun hc h => ?_) (fun hc h => ?_)
                    · refine j_aload C dX10_lost_184 rfl ?_
                      refine j_bipush C (40) dX10_lost_186 kb_40 ?_
                      refine j_iload C dX10_lost_188 rfl ?_
                      refine j_iadd C dX10_lost_190 ?_
                      refine j_iconst C (0) dX10_lost_191 ki_0 ?_
                      refine j_iastore 2 C h rfl rfl dX10_lost_192 (fun h => ?_)
                      refine j_ws (ws' := (w_X10_lost (gD g) q_this q_now q_trial q_refusals q_left w_kept w_row w_letters w_dists w_steps w_partners w_times w_spliced w_piece w_balances w_prices w_hands w_hand w_dealing v_hasImage v_rows v_lettered v_stepsMany v_splicedMany v_most v_together v_z v_now (upd s_166.2.2 (Int32.toNatClampNeg ((40 : Int32) + s_166.2.1)) (0 : Int32)) v_refusals s_134.2.2.2)) rfl ?_
                      refine j_goto C 216 dX10_lost_193 (by decide) ?_
                      refine j_inc C (1) dX10_lost_216 rfl ki_1 (by decide) ?_
                      refine j_goto C 166 dX10_lost_219 (by decide) ?_
                      have h := Option.some.inj h
                      subst h
                      have hc9 := hc_166 _ rfl
                      exact j_lw hc9 rfl
                    · refine j_iload C dX10_lost_196 rfl ?_
                      refine j_iload C dX10_lost_198 rfl ?_
                      refine j_ishr C dX10_lost_200 ?_
                      refine j_iconst C (1) dX10_lost_201 ki_1 ?_
                      refine j_iand C dX10_lost_202 ?_
                      refine j_iconst C (1) dX10_lost_203 ki_1 ?_
                      have hj_8 : J g (w_X10_lost (gD g) q_this q_now q_trial q_refusals q_left w_kept w_row w_letters w_dists w_steps w_partners w_times w_spliced w_piece w_balances w_prices w_hands w_hand w_dealing v_hasImage v_rows v_lettered v_stepsMany v_splicedMany v_most v_together v_z v_now s_166.2.2 v_refusals s_134.2.2.2) [(0, .ref q_this), (1, .int (x1)), (2, .int (x2)), (3, .int (x3)), (4, .int (e_62.1)), (5, .long (e_62.2)), (7, .long (s_134.1)), (9, .int (s_134.2.1)), (10, .ref q_trial), (11, .long (if ((e_62.1 >>> (s_166.2.1 &&& 31)) &&& (1 : Int32)) = (1 : Int32) then (s_166.1 * (Int32.toInt64 (x2 - (1 : Int32)))) else s_166.1)), (13, .int (s_166.2.1))] 216 [] := by
                        refine j_inc C (1) dX10_lost_216 rfl ki_1 (by decide) ?_
                        refine j_goto C 166 dX10_lost_219 (by decide) ?_
                        have h := Option.some.inj h
                        subst h
                        have hc9 := hc_166 _ rfl
                        exact j_lw hc9 rfl
                      refine jv_icmp_ne C 216 dX10_lost_204 (by decide) (fun hc => ?_) (fun hc => ?_)
                      · try simp only [if_pos hc] at hj_8
                        refine j_lload C dX10_lost_207 rfl ?_
                        refine j_iload_n C dX10_lost_209 rfl ?_
                        refine j_iconst C (1) dX10_lost_210 ki_1 ?_
                        refine j_isub C dX10_lost_211 ?_
                        refine j_i2l C dX10_lost_212 ?_
                        refine j_lmul C dX10_lost_213 ?_
                        refine j_lstore C dX10_lost_214 (by decide) ?_
                        exact j_lw hj_8 rfl
                      · try simp only [if_neg hc] at hj_8
                        exact j_lw hj_8 rfl
                · refine j_goto C 249 dX10_lost_151 (by decide) ?_
                  refine j_inc C (1) dX10_lost_249 rfl ki_1 (by decide) ?_
                  refine j_goto C 134 dX10_lost_252 (by decide) ?_
                  have h := Option.some.inj h
                  subst h
                  have hc9 := hc_134 _ rfl
                  exact j_lw hc9 rfl
            refine j_lv (lv' := [(0, .ref q_this), (1, .int (x1)), (2, .int (x2)), (3, .int (x3)), (4, .int ((0 : Int32))), (5, .long ((1 : Int64))), (7, .int ((0 : Int32)))]) rfl ?_
            refine lp_ind hl_62 (fun s_62 => J g (w_X10_lost (gD g) q_this q_now q_trial q_refusals q_left w_kept w_row w_letters w_dists w_steps w_partners w_times w_spliced w_piece w_balances w_prices w_hands w_hand w_dealing v_hasImage v_rows v_lettered v_stepsMany v_splicedMany v_most v_together v_z v_now v_trial v_refusals v_left) [(0, .ref q_this), (1, .int (x1)), (2, .int (x2)), (3, .int (x3)), (4, .int (s_62.1)), (5, .long (s_62.2.1)), (7, .int (s_62.2.2))] 62 []) (fun s_62 r_62 h hc_62 hx_62 => ?_)
            unfold f_X10_lost_b62 at h
            refine j_iload C dX10_lost_62 rfl ?_
            refine j_bipush C (6) dX10_lost_64 kb_6 ?_
            refine j_aload_n C dX10_lost_66 rfl ?_
            refine j_get C 0 rfl rfl inX10 0 (by decide) kw_981 rfl rfl dX10_lost_67 ?_
            refine j_bipush C (49) dX10_lost_70 kb_49 ?_
            refine j_iaload 1 C h rfl rfl dX10_lost_72 (fun h => ?_)
            refine j_mmin C (by decide) kw_1167 kw_636 kw_19 kw_637 (Nat.le_of_ble_eq_true rfl) dX10_lost_73 ?_
            refine j_icmp_ge C h 128 dX10_lost_76 (by decide) (fun hc h => ?_) (fun hc h => ?_)
            · have h := Option.some.inj h
              subst h
              have h9 := hx_62 _ rfl
              subst h9
              exact j_lw ha_62 rfl
            · refine j_iload C dX10_lost_79 rfl ?_
              refine j_aload_n C dX10_lost_81 rfl ?_
              refine j_get C 0 rfl rfl inX10 0 (by decide) kw_981 rfl rfl dX10_lost_82 ?_
              refine j_bipush C (40) dX10_lost_85 kb_40 ?_
              refine j_iload C dX10_lost_87 rfl ?_
              refine j_iadd C dX10_lost_89 ?_
              refine j_iaload 1 C h rfl rfl dX10_lost_90 (fun h => ?_)
              refine j_iload C dX10_lost_91 rfl ?_
              refine j_ishl C dX10_lost_93 ?_
              refine j_ior C dX10_lost_94 ?_
              refine j_istore C dX10_lost_95 (by decide) ?_
              refine j_lload C dX10_lost_97 rfl ?_
              refine j_aload_n C dX10_lost_99 rfl ?_
              refine j_get C 0 rfl rfl inX10 0 (by decide) kw_981 rfl rfl dX10_lost_100 ?_
              refine j_bipush C (40) dX10_lost_103 kb_40 ?_
              refine j_iload C dX10_lost_105 rfl ?_
              refine j_iadd C dX10_lost_107 ?_
              refine j_iaload 1 C h rfl rfl dX10_lost_108 (fun h => ?_)
              refine j_iconst C (1) dX10_lost_109 ki_1 ?_
              have hj_6 : J g (w_X10_lost (gD g) q_this q_now q_trial q_refusals q_left w_kept w_row w_letters w_dists w_steps w_partners w_times w_spliced w_piece w_balances w_prices w_hands w_hand w_dealing v_hasImage v_rows v_lettered v_stepsMany v_splicedMany v_most v_together v_z v_now v_trial v_refusals v_left) [(0, .ref q_this), (1, .int (x1)), (2, .int (x2)), (3, .int (x3)), (4, .int (s_62.1 ||| ((v_now (Int32.toNatClampNeg ((40 : Int32) + s_62.2.2))) <<< (s_62.2.2 &&& 31)))), (7, .int (s_62.2.2))] 119 [.long (if (v_now (Int32.toNatClampNeg ((40 : Int32) + s_62.2.2))) = (1 : Int32) then (Int32.toInt64 x2) else (1 : Int64)), .long (s_62.2.1)] := by
                refine j_lmul C dX10_lost_119 ?_
                refine j_lstore C dX10_lost_120 (by decide) ?_
                refine j_inc C (1) dX10_lost_122 rfl ki_1 (by decide) ?_
                refine j_goto C 62 dX10_lost_125 (by decide) ?_
                have h := Option.some.inj h
                subst h
                have hc9 := hc_62 _ rfl
                exact j_lw hc9 rfl
              refine jv_icmp_ne C 118 dX10_lost_110 (by decide) (fun hc => ?_) (fun hc => ?_)
              · try simp only [if_pos hc] at hj_6
                refine j_iload_n C dX10_lost_113 rfl ?_
                refine j_i2l C dX10_lost_114 ?_
                refine j_goto C 119 dX10_lost_115 (by decide) ?_
                exact j_lw hj_6 rfl
              · try simp only [if_neg hc] at hj_6
                refine j_lconst C 1 dX10_lost_118 rfl ?_
                exact j_lw hj_6 rfl
        · have hj9 := hj_3 _ _ _ h
          exact j_lw hj9 rfl
    · have hj9 := hj_1 _ _ _ h
      exact j_lw hj9 rfl

def w_X10_cornerOf (D : va_G) (q_this q_steps q_p1 : Nat) (w_now w_kept w_trial w_refusals w_row w_letters w_dists w_left w_partners w_times w_spliced w_piece w_balances w_prices w_hands w_hand w_dealing : Value) (v_hasImage : Int32) (v_rows : Int32) (v_lettered : Int32) (v_stepsMany : Int32) (v_splicedMany : Int32) (v_most : Int32) (v_together : Int32) (v_z : Int32) (v_steps : (Nat → Int32)) (v_p1 : (Nat → Int32)) : va_W := [(q_this, .inr (9, [w_now, w_kept, w_trial, .int v_hasImage, w_refusals, w_row, .int v_rows, w_letters, .int v_lettered, w_dists, w_left, .ref q_steps, .int v_stepsMany, w_partners, w_times, w_spliced, .int v_splicedMany, w_piece, w_balances, w_prices, w_hands, w_hand, w_dealing, .int v_most, .int v_together, .int v_z])), (q_steps, .inl (D.1 100, 64, .inl v_steps)), (q_p1, .inl (D.1 100, 50, .inl v_p1))]
def f_X10_cornerOf (x2 : Int32) (v_steps : (Nat → Int32)) (v_p1 : (Nat → Int32)) : Option Int32 :=
  (if x2 = 0 then ga (48 : Int32) 50 (some (v_p1 (Int32.toNatClampNeg (48 : Int32)))) else ga (x2 - (1 : Int32)) 64 ((f_X10_ends (v_steps (Int32.toNatClampNeg (x2 - (1 : Int32)))) v_p1).bind (fun r_ends_1 => some r_ends_1)))
set_option maxRecDepth 100000 in
set_option maxHeartbeats 4000000 in
theorem c_X10_cornerOf (l : Launch) (D : va_G) {q_this q_steps q_p1 : Nat} {w_now w_kept w_trial w_refusals w_row w_letters w_dists w_left w_partners w_times w_spliced w_piece w_balances w_prices w_hands w_hand w_dealing : Value} {v_hasImage : Int32} {v_rows : Int32} {v_lettered : Int32} {v_stepsMany : Int32} {v_splicedMany : Int32} {v_most : Int32} {v_together : Int32} {v_z : Int32} {v_steps : (Nat → Int32)} {v_p1 : (Nat → Int32)} {x2 : Int32} {o : Int32} (h : f_X10_cornerOf x2 v_steps v_p1 = some o) : CT l D yX10_cornerOf cX10_cornerOf 3 (Option.some FieldType.int) 1 [.ref q_this, .ref q_p1, .int x2] (w_X10_cornerOf D q_this q_steps q_p1 w_now w_kept w_trial w_refusals w_row w_letters w_dists w_left w_partners w_times w_spliced w_piece w_balances w_prices w_hands w_hand w_dealing v_hasImage v_rows v_lettered v_stepsMany v_splicedMany v_most v_together v_z v_steps v_p1) (w_X10_cornerOf D q_this q_steps q_p1 w_now w_kept w_trial w_refusals w_row w_letters w_dists w_left w_partners w_times w_spliced w_piece w_balances w_prices w_hands w_hand w_dealing v_hasImage v_rows v_lettered v_stepsMany v_splicedMany v_most v_together v_z v_steps v_p1) (some (.int o)) := by
  refine CT.of mk_X10_cornerOf (Nat.le_of_ble_eq_true rfl) (fun g hl hD C E => ?_)
  subst hl
  subst hD
  unfold f_X10_cornerOf at h
  refine j_iload_n C dX10_cornerOf_0 rfl ?_
  refine j_if_ne C h 11 dX10_cornerOf_1 (by decide) (fun hc h => ?_) (fun hc h => ?_)
  · refine j_aload_n C dX10_cornerOf_4 rfl ?_
    refine j_bipush C (48) dX10_cornerOf_5 kb_48 ?_
    refine j_iaload 2 C h rfl rfl dX10_cornerOf_7 (fun h => ?_)
    refine j_goto C 23 dX10_cornerOf_8 (by decide) ?_
    have h := Option.some.inj h
    subst h
    exact j_iret C E dX10_cornerOf_23
  · refine j_aload_n C dX10_cornerOf_11 rfl ?_
    refine j_aload_n C dX10_cornerOf_12 rfl ?_
    refine j_get C 0 rfl rfl inX10 11 (by decide) kw_992 rfl rfl dX10_cornerOf_13 ?_
    refine j_iload_n C dX10_cornerOf_16 rfl ?_
    refine j_iconst C (1) dX10_cornerOf_17 ki_1 ?_
    refine j_isub C dX10_cornerOf_18 ?_
    refine j_iaload 1 C h rfl rfl dX10_cornerOf_19 (fun h => ?_)
    obtain ⟨r_ends_1, h_1, h⟩ := of_bind h
    refine j_callS1 C mk_X10_ends ms_X10_ends kw_1164 (c_X10_ends (gl g) (gD g) h_1) (by decide) [2] rfl rfl rfl rfl rfl (Nat.le_of_ble_eq_true rfl) dX10_cornerOf_20 ?_
    refine j_ws (ws' := (w_X10_cornerOf (gD g) q_this q_steps q_p1 w_now w_kept w_trial w_refusals w_row w_letters w_dists w_left w_partners w_times w_spliced w_piece w_balances w_prices w_hands w_hand w_dealing v_hasImage v_rows v_lettered v_stepsMany v_splicedMany v_most v_together v_z v_steps v_p1)) rfl ?_
    have h := Option.some.inj h
    subst h
    exact j_iret C E dX10_cornerOf_23

def w_X10_isSo (D : va_G) (q_this q_row q_left q_steps q_p1 : Nat) (w_now w_kept w_trial w_refusals w_letters w_dists w_partners w_times w_spliced w_piece w_balances w_prices w_hands w_hand w_dealing : Value) (v_hasImage : Int32) (v_rows : Int32) (v_lettered : Int32) (v_stepsMany : Int32) (v_splicedMany : Int32) (v_most : Int32) (v_together : Int32) (v_z : Int32) (v_row : (Nat → Int32)) (v_left : (Nat → Int32)) (v_steps : (Nat → Int32)) (v_p1 : (Nat → Int32)) : va_W := [(q_this, .inr (9, [w_now, w_kept, w_trial, .int v_hasImage, w_refusals, .ref q_row, .int v_rows, w_letters, .int v_lettered, w_dists, .ref q_left, .ref q_steps, .int v_stepsMany, w_partners, w_times, w_spliced, .int v_splicedMany, w_piece, w_balances, w_prices, w_hands, w_hand, w_dealing, .int v_most, .int v_together, .int v_z])), (q_row, .inl (D.1 100, 32, .inl v_row)), (q_left, .inl (D.1 100, 1536, .inl v_left)), (q_steps, .inl (D.1 100, 64, .inl v_steps)), (q_p1, .inl (D.1 100, 50, .inl v_p1))]
def f_X10_isSo_b25 (v_rows : Int32) (x2_25 : Int32) (r_walks_1_3 : (Nat → Int32)) (v_p1 : (Nat → Int32)) (v_row : (Nat → Int32)) (r_walks_1_1 : Int32) (r_walks_1_2 : (Nat → Int32)) : Option (Int32 ⊕ (Unit ⊕ (Int32 × Int32 × (Nat → Int32) × (Nat → Int32)))) :=
  (if v_rows ≤ x2_25 then some (.inr (.inl ())) else ga x2_25 32 ((f_X10_cornerOf x2_25 r_walks_1_3 v_p1).bind (fun r_cornerOf_2 => (if (v_row (Int32.toNatClampNeg x2_25)) = r_cornerOf_2 then some (.inl (x2_25 + (1 : Int32))) else some (.inr (.inr ((0 : Int32), r_walks_1_1, r_walks_1_2, r_walks_1_3)))))))
def f_X10_isSo (N : Nat) (v_rows : Int32) (v_stepsMany : Int32) (v_row : (Nat → Int32)) (v_left : (Nat → Int32)) (v_steps : (Nat → Int32)) (v_p1 : (Nat → Int32)) : Option (Int32 × Int32 × (Nat → Int32) × (Nat → Int32)) :=
  (f_X10_walks N v_stepsMany v_left v_steps v_p1).bind (fun r_walks_1 => (if r_walks_1.1 < 0 then some ((0 : Int32), r_walks_1.2.1, r_walks_1.2.2.1, r_walks_1.2.2.2) else (if v_rows ≤ (r_walks_1.2.1 + (1 : Int32)) then (lp (fun s_25 => f_X10_isSo_b25 v_rows s_25 r_walks_1.2.2.2 v_p1 v_row r_walks_1.2.1 r_walks_1.2.2.1) N ((0 : Int32))).bind (fun e_25 => match e_25 with | .inl x_25 => some ((1 : Int32), r_walks_1.2.1, r_walks_1.2.2.1, r_walks_1.2.2.2) | .inr o_25 => some o_25) else some ((0 : Int32), r_walks_1.2.1, r_walks_1.2.2.1, r_walks_1.2.2.2))))
set_option maxRecDepth 100000 in
set_option maxHeartbeats 4000000 in
theorem c_X10_isSo (l : Launch) (D : va_G) (N : Nat) {q_this q_row q_left q_steps q_p1 : Nat} {w_now w_kept w_trial w_refusals w_letters w_dists w_partners w_times w_spliced w_piece w_balances w_prices w_hands w_hand w_dealing : Value} {v_hasImage : Int32} {v_rows : Int32} {v_lettered : Int32} {v_stepsMany : Int32} {v_splicedMany : Int32} {v_most : Int32} {v_together : Int32} {v_z : Int32} {v_row : (Nat → Int32)} {v_left : (Nat → Int32)} {v_steps : (Nat → Int32)} {v_p1 : (Nat → Int32)} {o : (Int32 × Int32 × (Nat → Int32) × (Nat → Int32))} (h : f_X10_isSo N v_rows v_stepsMany v_row v_left v_steps v_p1 = some o) : CT l D yX10_isSo cX10_isSo 3 (Option.some FieldType.boolean) 6 [.ref q_this, .ref q_p1] (w_X10_isSo D q_this q_row q_left q_steps q_p1 w_now w_kept w_trial w_refusals w_letters w_dists w_partners w_times w_spliced w_piece w_balances w_prices w_hands w_hand w_dealing v_hasImage v_rows v_lettered v_stepsMany v_splicedMany v_most v_together v_z v_row v_left v_steps v_p1) (w_X10_isSo D q_this q_row q_left q_steps q_p1 w_now w_kept w_trial w_refusals w_letters w_dists w_partners w_times w_spliced w_piece w_balances w_prices w_hands w_hand w_dealing v_hasImage v_rows v_lettered o.2.1 v_splicedMany v_most v_together v_z v_row o.2.2.1 o.2.2.2 v_p1) (some (.int o.1)) := by
  refine CT.of mk_X10_isSo (Nat.le_of_ble_eq_true rfl) (fun g hl hD C E => ?_)
  subst hl
  subst hD
  unfold f_X10_isSo at h
  refine j_aload_n C dX10_isSo_0 rfl ?_
  refine j_aload_n C dX10_isSo_1 rfl ?_
  obtain ⟨r_walks_1, h_1, h⟩ := of_bind h
  refine j_callV1 C mk_X10_walks ms_X10_walks kw_1192 (c_X10_walks (gl g) (gD g) N h_1) (by decide) 0 rfl rfl [0, 2, 3, 4] rfl rfl rfl rfl rfl (Nat.le_of_ble_eq_true rfl) dX10_isSo_2 ?_
  refine j_ws (ws' := (w_X10_isSo (gD g) q_this q_row q_left q_steps q_p1 w_now w_kept w_trial w_refusals w_letters w_dists w_partners w_times w_spliced w_piece w_balances w_prices w_hands w_hand w_dealing v_hasImage v_rows v_lettered r_walks_1.2.1 v_splicedMany v_most v_together v_z v_row r_walks_1.2.2.1 r_walks_1.2.2.2 v_p1)) rfl ?_
  refine j_if_lt C h 21 dX10_isSo_5 (by decide) (fun hc h => ?_) (fun hc h => ?_)
  · refine j_iconst C (0) dX10_isSo_21 ki_0 ?_
    have h := Option.some.inj h
    subst h
    exact j_zret C E rfl dX10_isSo_22
  · refine j_aload_n C dX10_isSo_8 rfl ?_
    refine j_get C 0 rfl rfl inX10 6 (by decide) kw_987 rfl rfl dX10_isSo_9 ?_
    refine j_aload_n C dX10_isSo_12 rfl ?_
    refine j_get C 0 rfl rfl inX10 12 (by decide) kw_993 rfl rfl dX10_isSo_13 ?_
    refine j_iconst C (1) dX10_isSo_16 ki_1 ?_
    refine j_iadd C dX10_isSo_17 ?_
    refine j_icmp_le C h 23 dX10_isSo_18 (by decide) (fun hc h => ?_) (fun hc h => ?_)
    · refine j_iconst C (0) dX10_isSo_23 ki_0 ?_
      refine j_istore_n C dX10_isSo_24 (by decide) ?_
      obtain ⟨e_25, hl_25, h⟩ := of_bind h
      have hR_25 : ∀ o9, Sum.inr o9 = e_25 → some o9 = some o := by
        intro o9 ho9
        rw [← ho9] at h
        exact h
      have ha_25 : ∀ x_25, Sum.inl x_25 = e_25 → J g (w_X10_isSo (gD g) q_this q_row q_left q_steps q_p1 w_now w_kept w_trial w_refusals w_letters w_dists w_partners w_times w_spliced w_piece w_balances w_prices w_hands w_hand w_dealing v_hasImage v_rows v_lettered r_walks_1.2.1 v_splicedMany v_most v_together v_z v_row r_walks_1.2.2.1 r_walks_1.2.2.2 v_p1) [] 56 [] := by
        intro x_25 hx9
        rw [← hx9] at h
        dsimp only at h
        refine j_iconst C (1) dX10_isSo_56 ki_1 ?_
        have h := Option.some.inj h
        subst h
        exact j_zret C E rfl dX10_isSo_57
      refine j_lv (lv' := [(0, .ref q_this), (1, .ref q_p1), (2, .int ((0 : Int32)))]) rfl ?_
      refine lp_ind hl_25 (fun s_25 => J g (w_X10_isSo (gD g) q_this q_row q_left q_steps q_p1 w_now w_kept w_trial w_refusals w_letters w_dists w_partners w_times w_spliced w_piece w_balances w_prices w_hands w_hand w_dealing v_hasImage v_rows v_lettered r_walks_1.2.1 v_splicedMany v_most v_together v_z v_row r_walks_1.2.2.1 r_walks_1.2.2.2 v_p1) [(0, .ref q_this), (1, .ref q_p1), (2, .int (s_25))] 25 []) (fun s_25 r_25 h hc_25 hx_25 => ?_)
      unfold f_X10_isSo_b25 at h
      refine j_iload_n C dX10_isSo_25 rfl ?_
      refine j_aload_n C dX10_isSo_26 rfl ?_
      refine j_get C 0 rfl rfl inX10 6 (by decide) kw_987 rfl rfl dX10_isSo_27 ?_
      refine j_icmp_ge C h 56 dX10_isSo_30 (by decide) (fun hc h => ?_) (fun hc h => ?_)
      · have h := Option.some.inj h
        subst h
        have hx9 := hx_25 _ rfl
        have ha9 := ha_25 _ hx9
        exact j_lw ha9 rfl
      · refine j_aload_n C dX10_isSo_33 rfl ?_
        refine j_get C 0 rfl rfl inX10 5 (by decide) kw_986 rfl rfl dX10_isSo_34 ?_
        refine j_iload_n C dX10_isSo_37 rfl ?_
        refine j_iaload 1 C h rfl rfl dX10_isSo_38 (fun h => ?_)
        refine j_aload_n C dX10_isSo_39 rfl ?_
        refine j_aload_n C dX10_isSo_40 rfl ?_
        refine j_iload_n C dX10_isSo_41 rfl ?_
        obtain ⟨r_cornerOf_2, h_2, h⟩ := of_bind h
        refine j_callV1 C mk_X10_cornerOf ms_X10_cornerOf kw_1385 (c_X10_cornerOf (gl g) (gD g) h_2) (by decide) 0 rfl rfl [0, 3, 4] rfl rfl rfl rfl rfl (Nat.le_of_ble_eq_true rfl) dX10_isSo_42 ?_
        refine j_ws (ws' := (w_X10_isSo (gD g) q_this q_row q_left q_steps q_p1 w_now w_kept w_trial w_refusals w_letters w_dists w_partners w_times w_spliced w_piece w_balances w_prices w_hands w_hand w_dealing v_hasImage v_rows v_lettered r_walks_1.2.1 v_splicedMany v_most v_together v_z v_row r_walks_1.2.2.1 r_walks_1.2.2.2 v_p1)) rfl ?_
        refine j_icmp_eq C h 50 dX10_isSo_45 (by decide) (fun hc h => ?_) (fun hc h => ?_)
        · refine j_inc C (1) dX10_isSo_50 rfl ki_1 (by decide) ?_
          refine j_goto C 25 dX10_isSo_53 (by decide) ?_
          have h := Option.some.inj h
          subst h
          have hc9 := hc_25 _ rfl
          exact j_lw hc9 rfl
        · refine j_iconst C (0) dX10_isSo_48 ki_0 ?_
          have h := Option.some.inj h
          subst h
          have h := hR_25 _ (hx_25 _ rfl)
          have h := Option.some.inj h
          subst h
          exact j_zret C E rfl dX10_isSo_49
    · refine j_iconst C (0) dX10_isSo_21 ki_0 ?_
      have h := Option.some.inj h
      subst h
      exact j_zret C E rfl dX10_isSo_22

def w_X10_whatIs (D : va_G) (q_this q_now q_trial q_refusals q_row q_left q_steps : Nat) (w_kept w_letters w_dists w_partners w_times w_spliced w_piece w_balances w_prices w_hands w_hand w_dealing : Value) (v_hasImage : Int32) (v_rows : Int32) (v_lettered : Int32) (v_stepsMany : Int32) (v_splicedMany : Int32) (v_most : Int32) (v_together : Int32) (v_z : Int32) (v_now : (Nat → Int32)) (v_trial : (Nat → Int32)) (v_refusals : (Nat → Int32)) (v_row : (Nat → Int32)) (v_left : (Nat → Int32)) (v_steps : (Nat → Int32)) : va_W := [(q_this, .inr (9, [.ref q_now, w_kept, .ref q_trial, .int v_hasImage, .ref q_refusals, .ref q_row, .int v_rows, w_letters, .int v_lettered, w_dists, .ref q_left, .ref q_steps, .int v_stepsMany, w_partners, w_times, w_spliced, .int v_splicedMany, w_piece, w_balances, w_prices, w_hands, w_hand, w_dealing, .int v_most, .int v_together, .int v_z])), (q_now, .inl (D.1 100, 50, .inl v_now)), (q_trial, .inl (D.1 100, 50, .inl v_trial)), (q_refusals, .inl (D.1 100, 7, .inl v_refusals)), (q_row, .inl (D.1 100, 32, .inl v_row)), (q_left, .inl (D.1 100, 1536, .inl v_left)), (q_steps, .inl (D.1 100, 64, .inl v_steps))]
def f_X10_whatIs_b39 (N : Nat) (x2 : Int32) (x4_39 : Int32) (x3_39 : Int32) (v_stepsMany_39 : Int32) (v_trial_39 : (Nat → Int32)) (v_left_39 : (Nat → Int32)) (v_steps_39 : (Nat → Int32)) (v_now : (Nat → Int32)) (x1 : Int32) (v_rows : Int32) (v_row : (Nat → Int32)) : Option ((Int32 × Int32 × Int32 × (Nat → Int32) × (Nat → Int32) × (Nat → Int32)) ⊕ (Int32 × Int32 × (Nat → Int32) × (Nat → Int32) × (Nat → Int32))) :=
  (if (if x2 = 0 then (6 : Int32) else (10 : Int32)) ≤ x4_39 then some (.inr (x3_39, v_stepsMany_39, v_trial_39, v_left_39, v_steps_39)) else (f_X10_thought N v_now v_trial_39).bind (fun r_thought_4 => ga ((if x2 = 0 then (24 : Int32) else (32 : Int32)) + x1) 50 ((f_X10_isSo N v_rows v_stepsMany_39 v_row v_left_39 v_steps_39 (upd r_thought_4 (Int32.toNatClampNeg ((if x2 = 0 then (24 : Int32) else (32 : Int32)) + x1)) x4_39)).bind (fun r_isSo_6 => some (.inl (x3_39 ||| (if r_isSo_6.1 = 0 then (0 : Int32) else ((1 : Int32) <<< (x4_39 &&& 31))), x4_39 + (1 : Int32), r_isSo_6.2.1, upd r_thought_4 (Int32.toNatClampNeg ((if x2 = 0 then (24 : Int32) else (32 : Int32)) + x1)) x4_39, r_isSo_6.2.2.1, r_isSo_6.2.2.2))))))
def f_X10_whatIs (N : Nat) (x1 : Int32) (x2 : Int32) (v_rows : Int32) (v_stepsMany : Int32) (v_now : (Nat → Int32)) (v_trial : (Nat → Int32)) (v_refusals : (Nat → Int32)) (v_row : (Nat → Int32)) (v_left : (Nat → Int32)) (v_steps : (Nat → Int32)) : Option (Int32 × Int32 × (Nat → Int32) × (Nat → Int32) × (Nat → Int32) × (Nat → Int32)) :=
  (f_X10_isStreet x1 v_now).bind (fun r_isStreet_1 => (if r_isStreet_1 = 0 then (f_X10_refused (-1 : Int32) v_refusals).bind (fun r_refused_9 => some (r_refused_9.1, v_stepsMany, v_trial, r_refused_9.2, v_left, v_steps)) else (f_X10_in (Int32.toInt64 x2) (0 : Int64) (1 : Int64)).bind (fun r_in_2 => (if r_in_2 = 0 then (f_X10_refused (-2 : Int32) v_refusals).bind (fun r_refused_8 => some (r_refused_8.1, v_stepsMany, v_trial, r_refused_8.2, v_left, v_steps)) else (lp (fun s_39 => f_X10_whatIs_b39 N x2 s_39.2.1 s_39.1 s_39.2.2.1 s_39.2.2.2.1 s_39.2.2.2.2.1 s_39.2.2.2.2.2 v_now x1 v_rows v_row) N ((0 : Int32), (0 : Int32), v_stepsMany, v_trial, v_left, v_steps)).bind (fun e_39 => some (e_39.1, e_39.2.1, e_39.2.2.1, v_refusals, e_39.2.2.2.1, e_39.2.2.2.2))))))
set_option maxRecDepth 100000 in
set_option maxHeartbeats 4000000 in
theorem c_X10_whatIs (l : Launch) (D : va_G) (N : Nat) {q_this q_now q_trial q_refusals q_row q_left q_steps : Nat} {w_kept w_letters w_dists w_partners w_times w_spliced w_piece w_balances w_prices w_hands w_hand w_dealing : Value} {v_hasImage : Int32} {v_rows : Int32} {v_lettered : Int32} {v_stepsMany : Int32} {v_splicedMany : Int32} {v_most : Int32} {v_together : Int32} {v_z : Int32} {v_now : (Nat → Int32)} {v_trial : (Nat → Int32)} {v_refusals : (Nat → Int32)} {v_row : (Nat → Int32)} {v_left : (Nat → Int32)} {v_steps : (Nat → Int32)} {x1 : Int32} {x2 : Int32} {o : (Int32 × Int32 × (Nat → Int32) × (Nat → Int32) × (Nat → Int32) × (Nat → Int32))} (h : f_X10_whatIs N x1 x2 v_rows v_stepsMany v_now v_trial v_refusals v_row v_left v_steps = some o) : CT l D yX10_whatIs cX10_whatIs 6 (Option.some FieldType.int) 7 [.ref q_this, .int x1, .int x2] (w_X10_whatIs D q_this q_now q_trial q_refusals q_row q_left q_steps w_kept w_letters w_dists w_partners w_times w_spliced w_piece w_balances w_prices w_hands w_hand w_dealing v_hasImage v_rows v_lettered v_stepsMany v_splicedMany v_most v_together v_z v_now v_trial v_refusals v_row v_left v_steps) (w_X10_whatIs D q_this q_now q_trial q_refusals q_row q_left q_steps w_kept w_letters w_dists w_partners w_times w_spliced w_piece w_balances w_prices w_hands w_hand w_dealing v_hasImage v_rows v_lettered o.2.1 v_splicedMany v_most v_together v_z v_now o.2.2.1 o.2.2.2.1 v_row o.2.2.2.2.1 o.2.2.2.2.2) (some (.int o.1)) := by
  refine CT.of mk_X10_whatIs (Nat.le_of_ble_eq_true rfl) (fun g hl hD C E => ?_)
  subst hl
  subst hD
  unfold f_X10_whatIs at h
  refine j_aload_n C dX10_whatIs_0 rfl ?_
  refine j_get C 0 rfl rfl inX10 0 (by decide) kw_981 rfl rfl dX10_whatIs_1 ?_
  refine j_iload_n C dX10_whatIs_4 rfl ?_
  obtain ⟨r_isStreet_1, h_1, h⟩ := of_bind h
  refine j_callS1 C mk_X10_isStreet ms_X10_isStreet kw_1113 (c_X10_isStreet (gl g) (gD g) h_1) (by decide) [1] rfl rfl rfl rfl rfl (Nat.le_of_ble_eq_true rfl) dX10_whatIs_5 ?_
  refine j_ws (ws' := (w_X10_whatIs (gD g) q_this q_now q_trial q_refusals q_row q_left q_steps w_kept w_letters w_dists w_partners w_times w_spliced w_piece w_balances w_prices w_hands w_hand w_dealing v_hasImage v_rows v_lettered v_stepsMany v_splicedMany v_most v_together v_z v_now v_trial v_refusals v_row v_left v_steps)) rfl ?_
  refine j_if_ne C h 17 dX10_whatIs_8 (by decide) (fun hc h => ?_) (fun hc h => ?_)
  · refine j_aload_n C dX10_whatIs_11 rfl ?_
    refine j_iconst C (-1) dX10_whatIs_12 ki_m1 ?_
    obtain ⟨r_refused_9, h_9, h⟩ := of_bind h
    refine j_callV1 C mk_X10_refused ms_X10_refused kw_1064 (c_X10_refused (gl g) (gD g) h_9) (by decide) 0 rfl rfl [0, 3] rfl rfl rfl rfl rfl (Nat.le_of_ble_eq_true rfl) dX10_whatIs_13 ?_
    refine j_ws (ws' := (w_X10_whatIs (gD g) q_this q_now q_trial q_refusals q_row q_left q_steps w_kept w_letters w_dists w_partners w_times w_spliced w_piece w_balances w_prices w_hands w_hand w_dealing v_hasImage v_rows v_lettered v_stepsMany v_splicedMany v_most v_together v_z v_now v_trial r_refused_9.2 v_row v_left v_steps)) rfl ?_
    have h := Option.some.inj h
    subst h
    exact j_iret C E dX10_whatIs_16
  · refine j_iload_n C dX10_whatIs_17 rfl ?_
    refine j_i2l C dX10_whatIs_18 ?_
    refine j_lconst C 0 dX10_whatIs_19 rfl ?_
    refine j_lconst C 1 dX10_whatIs_20 rfl ?_
    obtain ⟨r_in_2, h_2, h⟩ := of_bind h
    refine j_callS1 C mk_X10_in ms_X10_in kw_1085 (c_X10_in (gl g) (gD g) h_2) (by decide) [] rfl rfl rfl rfl rfl (Nat.le_of_ble_eq_true rfl) dX10_whatIs_21 ?_
    refine j_ws (ws' := (w_X10_whatIs (gD g) q_this q_now q_trial q_refusals q_row q_left q_steps w_kept w_letters w_dists w_partners w_times w_spliced w_piece w_balances w_prices w_hands w_hand w_dealing v_hasImage v_rows v_lettered v_stepsMany v_splicedMany v_most v_together v_z v_now v_trial v_refusals v_row v_left v_steps)) rfl ?_
    refine j_if_ne C h 34 dX10_whatIs_24 (by decide) (fun hc h => ?_) (fun hc h => ?_)
    · refine j_aload_n C dX10_whatIs_27 rfl ?_
      refine j_bipush C (-2) dX10_whatIs_28 kb_m2 ?_
      obtain ⟨r_refused_8, h_8, h⟩ := of_bind h
      refine j_callV1 C mk_X10_refused ms_X10_refused kw_1064 (c_X10_refused (gl g) (gD g) h_8) (by decide) 0 rfl rfl [0, 3] rfl rfl rfl rfl rfl (Nat.le_of_ble_eq_true rfl) dX10_whatIs_30 ?_
      refine j_ws (ws' := (w_X10_whatIs (gD g) q_this q_now q_trial q_refusals q_row q_left q_steps w_kept w_letters w_dists w_partners w_times w_spliced w_piece w_balances w_prices w_hands w_hand w_dealing v_hasImage v_rows v_lettered v_stepsMany v_splicedMany v_most v_together v_z v_now v_trial r_refused_8.2 v_row v_left v_steps)) rfl ?_
      have h := Option.some.inj h
      subst h
      exact j_iret C E dX10_whatIs_33
    · refine j_iconst C (0) dX10_whatIs_34 ki_0 ?_
      refine j_istore_n C dX10_whatIs_35 (by decide) ?_
      refine j_iconst C (0) dX10_whatIs_36 ki_0 ?_
      refine j_istore C dX10_whatIs_37 (by decide) ?_
      obtain ⟨e_39, hl_39, h⟩ := of_bind h
      have ha_39 : J g (w_X10_whatIs (gD g) q_this q_now q_trial q_refusals q_row q_left q_steps w_kept w_letters w_dists w_partners w_times w_spliced w_piece w_balances w_prices w_hands w_hand w_dealing v_hasImage v_rows v_lettered e_39.2.1 v_splicedMany v_most v_together v_z v_now e_39.2.2.1 v_refusals v_row e_39.2.2.2.1 e_39.2.2.2.2) [(3, .int (e_39.1))] 105 [] := by
        refine j_iload_n C dX10_whatIs_105 rfl ?_
        have h := Option.some.inj h
        subst h
        exact j_iret C E dX10_whatIs_106
      refine j_lv (lv' := [(0, .ref q_this), (1, .int (x1)), (2, .int (x2)), (3, .int ((0 : Int32))), (4, .int ((0 : Int32)))]) rfl ?_
      refine lp_ind hl_39 (fun s_39 => J g (w_X10_whatIs (gD g) q_this q_now q_trial q_refusals q_row q_left q_steps w_kept w_letters w_dists w_partners w_times w_spliced w_piece w_balances w_prices w_hands w_hand w_dealing v_hasImage v_rows v_lettered s_39.2.2.1 v_splicedMany v_most v_together v_z v_now s_39.2.2.2.1 v_refusals v_row s_39.2.2.2.2.1 s_39.2.2.2.2.2) [(0, .ref q_this), (1, .int (x1)), (2, .int (x2)), (3, .int (s_39.1)), (4, .int (s_39.2.1))] 39 []) (fun s_39 r_39 h hc_39 hx_39 => ?_)
      unfold f_X10_whatIs_b39 at h
      refine j_iload C dX10_whatIs_39 rfl ?_
      refine j_iload_n C dX10_whatIs_41 rfl ?_
      have hj_3 : J g (w_X10_whatIs (gD g) q_this q_now q_trial q_refusals q_row q_left q_steps w_kept w_letters w_dists w_partners w_times w_spliced w_piece w_balances w_prices w_hands w_hand w_dealing v_hasImage v_rows v_lettered s_39.2.2.1 v_splicedMany v_most v_together v_z v_now s_39.2.2.2.1 v_refusals v_row s_39.2.2.2.2.1 s_39.2.2.2.2.2) [(0, .ref q_this), (1, .int (x1)), (2, .int (x2)), (3, .int (s_39.1)), (4, .int (s_39.2.1))] 52 [.int (if x2 = 0 then (6 : Int32) else (10 : Int32)), .int (s_39.2.1)] := by
        refine j_icmp_ge C h 105 dX10_whatIs_52 (by decide) (fun hc h => ?_) (fun hc h => ?_)
        · have h := Option.some.inj h
          subst h
          have h9 := hx_39 _ rfl
          subst h9
          exact j_lw ha_39 rfl
        · refine j_aload_n C dX10_whatIs_55 rfl ?_
          obtain ⟨r_thought_4, h_4, h⟩ := of_bind h
          refine j_callV1 C mk_X10_thought ms_X10_thought kw_1090 (c_X10_thought (gl g) (gD g) N h_4) (by decide) 0 rfl rfl [0, 1, 2] rfl rfl rfl rfl rfl (Nat.le_of_ble_eq_true rfl) dX10_whatIs_56 ?_
          refine j_ws (ws' := (w_X10_whatIs (gD g) q_this q_now q_trial q_refusals q_row q_left q_steps w_kept w_letters w_dists w_partners w_times w_spliced w_piece w_balances w_prices w_hands w_hand w_dealing v_hasImage v_rows v_lettered s_39.2.2.1 v_splicedMany v_most v_together v_z v_now r_thought_4 v_refusals v_row s_39.2.2.2.2.1 s_39.2.2.2.2.2)) rfl ?_
          refine j_astore C dX10_whatIs_59 (by decide) ?_
          refine j_aload C dX10_whatIs_61 rfl ?_
          refine j_iload_n C dX10_whatIs_63 rfl ?_
          have hj_5 : J g (w_X10_whatIs (gD g) q_this q_now q_trial q_refusals q_row q_left q_steps w_kept w_letters w_dists w_partners w_times w_spliced w_piece w_balances w_prices w_hands w_hand w_dealing v_hasImage v_rows v_lettered s_39.2.2.1 v_splicedMany v_most v_together v_z v_now r_thought_4 v_refusals v_row s_39.2.2.2.2.1 s_39.2.2.2.2.2) [(0, .ref q_this), (1, .int (x1)), (2, .int (x2)), (3, .int (s_39.1)), (4, .int (s_39.2.1)), (5, .ref q_trial)] 74 [.int (if x2 = 0 then (24 : Int32) else (32 : Int32)), .ref q_trial] := by
            refine j_iload_n C dX10_whatIs_74 rfl ?_
            refine j_iadd C dX10_whatIs_75 ?_
            refine j_iload C dX10_whatIs_76 rfl ?_
            refine j_iastore 2 C h rfl rfl dX10_whatIs_78 (fun h => ?_)
            refine j_ws (ws' := (w_X10_whatIs (gD g) q_this q_now q_trial q_refusals q_row q_left q_steps w_kept w_letters w_dists w_partners w_times w_spliced w_piece w_balances w_prices w_hands w_hand w_dealing v_hasImage v_rows v_lettered s_39.2.2.1 v_splicedMany v_most v_together v_z v_now (upd r_thought_4 (Int32.toNatClampNeg ((if x2 = 0 then (24 : Int32) else (32 : Int32)) + x1)) s_39.2.1) v_refusals v_row s_39.2.2.2.2.1 s_39.2.2.2.2.2)) rfl ?_
            refine j_iload_n C dX10_whatIs_79 rfl ?_
            refine j_aload_n C dX10_whatIs_80 rfl ?_
            refine j_aload C dX10_whatIs_81 rfl ?_
            obtain ⟨r_isSo_6, h_6, h⟩ := of_bind h
            refine j_callV1 C mk_X10_isSo ms_X10_isSo kw_1381 (c_X10_isSo (gl g) (gD g) N h_6) (by decide) 0 rfl rfl [0, 4, 5, 6, 2] rfl rfl rfl rfl rfl (Nat.le_of_ble_eq_true rfl) dX10_whatIs_83 ?_
            refine j_ws (ws' := (w_X10_whatIs (gD g) q_this q_now q_trial q_refusals q_row q_left q_steps w_kept w_letters w_dists w_partners w_times w_spliced w_piece w_balances w_prices w_hands w_hand w_dealing v_hasImage v_rows v_lettered r_isSo_6.2.1 v_splicedMany v_most v_together v_z v_now (upd r_thought_4 (Int32.toNatClampNeg ((if x2 = 0 then (24 : Int32) else (32 : Int32)) + x1)) s_39.2.1) v_refusals v_row r_isSo_6.2.2.1 r_isSo_6.2.2.2)) rfl ?_
            have hj_7 : J g (w_X10_whatIs (gD g) q_this q_now q_trial q_refusals q_row q_left q_steps w_kept w_letters w_dists w_partners w_times w_spliced w_piece w_balances w_prices w_hands w_hand w_dealing v_hasImage v_rows v_lettered r_isSo_6.2.1 v_splicedMany v_most v_together v_z v_now (upd r_thought_4 (Int32.toNatClampNeg ((if x2 = 0 then (24 : Int32) else (32 : Int32)) + x1)) s_39.2.1) v_refusals v_row r_isSo_6.2.2.1 r_isSo_6.2.2.2) [(0, .ref q_this), (1, .int (x1)), (2, .int (x2)), (4, .int (s_39.2.1))] 97 [.int (if r_isSo_6.1 = 0 then (0 : Int32) else ((1 : Int32) <<< (s_39.2.1 &&& 31))), .int (s_39.1)] := by
              refine j_ior C dX10_whatIs_97 ?_
              refine j_istore_n C dX10_whatIs_98 (by decide) ?_
              refine j_inc C (1) dX10_whatIs_99 rfl ki_1 (by decide) ?_
              refine j_goto C 39 dX10_whatIs_102 (by decide) ?_
              have h := Option.some.inj h
              subst h
              have hc9 := hc_39 _ rfl
              exact j_lw hc9 rfl
            refine jv_if_eq C 96 dX10_whatIs_86 (by decide) (fun hc => ?_) (fun hc => ?_)
            · try simp only [if_pos hc] at hj_7
              refine j_iconst C (0) dX10_whatIs_96 ki_0 ?_
              exact j_lw hj_7 rfl
            · try simp only [if_neg hc] at hj_7
              refine j_iconst C (1) dX10_whatIs_89 ki_1 ?_
              refine j_iload C dX10_whatIs_90 rfl ?_
              refine j_ishl C dX10_whatIs_92 ?_
              refine j_goto C 97 dX10_whatIs_93 (by decide) ?_
              exact j_lw hj_7 rfl
          refine jv_if_ne C 72 dX10_whatIs_64 (by decide) (fun hc => ?_) (fun hc => ?_)
          · try simp only [if_pos hc] at hj_5
            refine j_bipush C (24) dX10_whatIs_67 kb_24 ?_
            refine j_goto C 74 dX10_whatIs_69 (by decide) ?_
            exact j_lw hj_5 rfl
          · try simp only [if_neg hc] at hj_5
            refine j_bipush C (32) dX10_whatIs_72 kb_32 ?_
            exact j_lw hj_5 rfl
      refine jv_if_ne C 50 dX10_whatIs_42 (by decide) (fun hc => ?_) (fun hc => ?_)
      · try simp only [if_pos hc] at hj_3
        refine j_bipush C (6) dX10_whatIs_45 kb_6 ?_
        refine j_goto C 52 dX10_whatIs_47 (by decide) ?_
        exact j_lw hj_3 rfl
      · try simp only [if_neg hc] at hj_3
        refine j_bipush C (10) dX10_whatIs_50 kb_10 ?_
        exact j_lw hj_3 rfl

def w_X10_row (D : va_G) (q_this q_refusals q_row : Nat) (w_now w_kept w_trial w_letters w_dists w_left w_steps w_partners w_times w_spliced w_piece w_balances w_prices w_hands w_hand w_dealing : Value) (v_hasImage : Int32) (v_rows : Int32) (v_lettered : Int32) (v_stepsMany : Int32) (v_splicedMany : Int32) (v_most : Int32) (v_together : Int32) (v_z : Int32) (v_refusals : (Nat → Int32)) (v_row : (Nat → Int32)) : va_W := [(q_this, .inr (9, [w_now, w_kept, w_trial, .int v_hasImage, .ref q_refusals, .ref q_row, .int v_rows, w_letters, .int v_lettered, w_dists, w_left, w_steps, .int v_stepsMany, w_partners, w_times, w_spliced, .int v_splicedMany, w_piece, w_balances, w_prices, w_hands, w_hand, w_dealing, .int v_most, .int v_together, .int v_z])), (q_refusals, .inl (D.1 100, 7, .inl v_refusals)), (q_row, .inl (D.1 100, 32, .inl v_row))]
def f_X10_row_j1 (v_rows_j1 : Int32) (v_row_j1 : (Nat → Int32)) (v_refusals : (Nat → Int32)) : Option (Int32 × Int32 × (Nat → Int32) × (Nat → Int32)) :=
  (f_X10_refused (-6 : Int32) v_refusals).bind (fun r_refused_2 => some (r_refused_2.1, v_rows_j1, r_refused_2.2, v_row_j1))
def f_X10_row (x1 : Int32) (v_rows : Int32) (v_refusals : (Nat → Int32)) (v_row : (Nat → Int32)) : Option (Int32 × Int32 × (Nat → Int32) × (Nat → Int32)) :=
  (if 0 ≤ x1 then (if (9 : Int32) < x1 then f_X10_row_j1 v_rows v_row v_refusals else (if v_rows = (32 : Int32) then f_X10_row_j1 v_rows v_row v_refusals else ga v_rows 32 (some (v_rows + (1 : Int32), v_rows + (1 : Int32), v_refusals, upd v_row (Int32.toNatClampNeg v_rows) x1)))) else (f_X10_refused (-4 : Int32) v_refusals).bind (fun r_refused_3 => some (r_refused_3.1, v_rows, r_refused_3.2, v_row)))
set_option maxRecDepth 100000 in
set_option maxHeartbeats 4000000 in
theorem c_X10_row (l : Launch) (D : va_G) {q_this q_refusals q_row : Nat} {w_now w_kept w_trial w_letters w_dists w_left w_steps w_partners w_times w_spliced w_piece w_balances w_prices w_hands w_hand w_dealing : Value} {v_hasImage : Int32} {v_rows : Int32} {v_lettered : Int32} {v_stepsMany : Int32} {v_splicedMany : Int32} {v_most : Int32} {v_together : Int32} {v_z : Int32} {v_refusals : (Nat → Int32)} {v_row : (Nat → Int32)} {x1 : Int32} {o : (Int32 × Int32 × (Nat → Int32) × (Nat → Int32))} (h : f_X10_row x1 v_rows v_refusals v_row = some o) : CT l D yX10_row cX10_row 2 (Option.some FieldType.int) 1 [.ref q_this, .int x1] (w_X10_row D q_this q_refusals q_row w_now w_kept w_trial w_letters w_dists w_left w_steps w_partners w_times w_spliced w_piece w_balances w_prices w_hands w_hand w_dealing v_hasImage v_rows v_lettered v_stepsMany v_splicedMany v_most v_together v_z v_refusals v_row) (w_X10_row D q_this q_refusals q_row w_now w_kept w_trial w_letters w_dists w_left w_steps w_partners w_times w_spliced w_piece w_balances w_prices w_hands w_hand w_dealing v_hasImage o.2.1 v_lettered v_stepsMany v_splicedMany v_most v_together v_z o.2.2.1 o.2.2.2) (some (.int o.1)) := by
  refine CT.of mk_X10_row (Nat.le_of_ble_eq_true rfl) (fun g hl hD C E => ?_)
  subst hl
  subst hD
  unfold f_X10_row at h
  refine j_iload_n C dX10_row_0 rfl ?_
  refine j_if_ge C h 11 dX10_row_1 (by decide) (fun hc h => ?_) (fun hc h => ?_)
  · refine j_iload_n C dX10_row_11 rfl ?_
    refine j_bipush C (9) dX10_row_12 kb_9 ?_
    have hj_1 : ∀ (v_rows_j1 : Int32) (v_row_j1 : (Nat → Int32)), f_X10_row_j1 v_rows_j1 v_row_j1 v_refusals = some o → J g (w_X10_row (gD g) q_this q_refusals q_row w_now w_kept w_trial w_letters w_dists w_left w_steps w_partners w_times w_spliced w_piece w_balances w_prices w_hands w_hand w_dealing v_hasImage v_rows_j1 v_lettered v_stepsMany v_splicedMany v_most v_together v_z v_refusals v_row_j1) [(0, .ref q_this)] 26 [] := by
      intro v_rows_j1 v_row_j1 h
      unfold f_X10_row_j1 at h
      refine j_aload_n C dX10_row_26 rfl ?_
      refine j_bipush C (-6) dX10_row_27 kb_m6 ?_
      obtain ⟨r_refused_2, h_2, h⟩ := of_bind h
      refine j_callV1 C mk_X10_refused ms_X10_refused kw_1064 (c_X10_refused (gl g) (gD g) h_2) (by decide) 0 rfl rfl [0, 1] rfl rfl rfl rfl rfl (Nat.le_of_ble_eq_true rfl) dX10_row_29 ?_
      refine j_ws (ws' := (w_X10_row (gD g) q_this q_refusals q_row w_now w_kept w_trial w_letters w_dists w_left w_steps w_partners w_times w_spliced w_piece w_balances w_prices w_hands w_hand w_dealing v_hasImage v_rows_j1 v_lettered v_stepsMany v_splicedMany v_most v_together v_z r_refused_2.2 v_row_j1)) rfl ?_
      have h := Option.some.inj h
      subst h
      exact j_iret C E dX10_row_32
    refine j_icmp_gt C h 26 dX10_row_14 (by decide) (fun hc h => ?_) (fun hc h => ?_)
    · have hj9 := hj_1 _ _ h
      exact j_lw hj9 rfl
    · refine j_aload_n C dX10_row_17 rfl ?_
      refine j_get C 0 rfl rfl inX10 6 (by decide) kw_987 rfl rfl dX10_row_18 ?_
      refine j_bipush C (32) dX10_row_21 kb_32 ?_
      refine j_icmp_ne C h 33 dX10_row_23 (by decide) (fun hc h => ?_) (fun hc h => ?_)
      · have hj9 := hj_1 _ _ h
        exact j_lw hj9 rfl
      · refine j_aload_n C dX10_row_33 rfl ?_
        refine j_get C 0 rfl rfl inX10 5 (by decide) kw_986 rfl rfl dX10_row_34 ?_
        refine j_aload_n C dX10_row_37 rfl ?_
        refine j_get C 0 rfl rfl inX10 6 (by decide) kw_987 rfl rfl dX10_row_38 ?_
        refine j_iload_n C dX10_row_41 rfl ?_
        refine j_iastore 2 C h rfl rfl dX10_row_42 (fun h => ?_)
        refine j_ws (ws' := (w_X10_row (gD g) q_this q_refusals q_row w_now w_kept w_trial w_letters w_dists w_left w_steps w_partners w_times w_spliced w_piece w_balances w_prices w_hands w_hand w_dealing v_hasImage v_rows v_lettered v_stepsMany v_splicedMany v_most v_together v_z v_refusals (upd v_row (Int32.toNatClampNeg v_rows) x1))) rfl ?_
        refine j_aload_n C dX10_row_43 rfl ?_
        refine j_dup C dX10_row_44 rfl ?_
        refine j_get C 0 rfl rfl inX10 6 (by decide) kw_987 rfl rfl dX10_row_45 ?_
        refine j_iconst C (1) dX10_row_48 ki_1 ?_
        refine j_iadd C dX10_row_49 ?_
        refine j_put C 0 rfl rfl inX10 tyX10_ok nmX10 6 (by decide) kw_987 rfl rfl rfl rfl (Nat.le_of_ble_eq_true rfl) dX10_row_50 ?_
        refine j_ws (ws' := (w_X10_row (gD g) q_this q_refusals q_row w_now w_kept w_trial w_letters w_dists w_left w_steps w_partners w_times w_spliced w_piece w_balances w_prices w_hands w_hand w_dealing v_hasImage (v_rows + (1 : Int32)) v_lettered v_stepsMany v_splicedMany v_most v_together v_z v_refusals (upd v_row (Int32.toNatClampNeg v_rows) x1))) rfl ?_
        refine j_aload_n C dX10_row_53 rfl ?_
        refine j_get C 0 rfl rfl inX10 6 (by decide) kw_987 rfl rfl dX10_row_54 ?_
        have h := Option.some.inj h
        subst h
        exact j_iret C E dX10_row_57
  · refine j_aload_n C dX10_row_4 rfl ?_
    refine j_bipush C (-4) dX10_row_5 kb_m4 ?_
    obtain ⟨r_refused_3, h_3, h⟩ := of_bind h
    refine j_callV1 C mk_X10_refused ms_X10_refused kw_1064 (c_X10_refused (gl g) (gD g) h_3) (by decide) 0 rfl rfl [0, 1] rfl rfl rfl rfl rfl (Nat.le_of_ble_eq_true rfl) dX10_row_7 ?_
    refine j_ws (ws' := (w_X10_row (gD g) q_this q_refusals q_row w_now w_kept w_trial w_letters w_dists w_left w_steps w_partners w_times w_spliced w_piece w_balances w_prices w_hands w_hand w_dealing v_hasImage v_rows v_lettered v_stepsMany v_splicedMany v_most v_together v_z r_refused_3.2 v_row)) rfl ?_
    have h := Option.some.inj h
    subst h
    exact j_iret C E dX10_row_10

def w_X10_judge (D : va_G) (q_this q_now q_row q_left q_steps : Nat) (w_kept w_trial w_refusals w_letters w_dists w_partners w_times w_spliced w_piece w_balances w_prices w_hands w_hand w_dealing : Value) (v_hasImage : Int32) (v_rows : Int32) (v_lettered : Int32) (v_stepsMany : Int32) (v_splicedMany : Int32) (v_most : Int32) (v_together : Int32) (v_z : Int32) (v_now : (Nat → Int32)) (v_row : (Nat → Int32)) (v_left : (Nat → Int32)) (v_steps : (Nat → Int32)) : va_W := [(q_this, .inr (9, [.ref q_now, w_kept, w_trial, .int v_hasImage, w_refusals, .ref q_row, .int v_rows, w_letters, .int v_lettered, w_dists, .ref q_left, .ref q_steps, .int v_stepsMany, w_partners, w_times, w_spliced, .int v_splicedMany, w_piece, w_balances, w_prices, w_hands, w_hand, w_dealing, .int v_most, .int v_together, .int v_z])), (q_now, .inl (D.1 100, 50, .inl v_now)), (q_row, .inl (D.1 100, 32, .inl v_row)), (q_left, .inl (D.1 100, 1536, .inl v_left)), (q_steps, .inl (D.1 100, 64, .inl v_steps))]
def f_X10_judge_b34 (v_rows : Int32) (x3_34 : Int32) (r_walks_1_0 : Int32) (r_walks_1_1 : Int32) (r_walks_1_3 : (Nat → Int32)) (v_now : (Nat → Int32)) (v_row : (Nat → Int32)) : Option (Int32 ⊕ Int32) :=
  (if v_rows ≤ x3_34 then some (.inr x3_34) else (if (if 0 ≤ r_walks_1_0 then (r_walks_1_1 + (1 : Int32)) else (0 : Int32)) ≤ x3_34 then some (.inr x3_34) else ga x3_34 32 ((f_X10_cornerOf x3_34 r_walks_1_3 v_now).bind (fun r_cornerOf_3 => (if (v_row (Int32.toNatClampNeg x3_34)) = r_cornerOf_3 then some (.inl (x3_34 + (1 : Int32))) else some (.inr x3_34))))))
def f_X10_judge (N : Nat) (v_rows : Int32) (v_stepsMany : Int32) (v_now : (Nat → Int32)) (v_row : (Nat → Int32)) (v_left : (Nat → Int32)) (v_steps : (Nat → Int32)) : Option (Int32 × Int32 × Int32 × (Nat → Int32) × (Nat → Int32)) :=
  (f_X10_walks N v_stepsMany v_left v_steps v_now).bind (fun r_walks_1 => (lp (fun s_34 => f_X10_judge_b34 v_rows s_34 r_walks_1.1 r_walks_1.2.1 r_walks_1.2.2.2 v_now v_row) N ((0 : Int32))).bind (fun e_34 => some (if e_34 = v_rows then (if e_34 = (if 0 ≤ r_walks_1.1 then (r_walks_1.2.1 + (1 : Int32)) else (0 : Int32)) then (-9 : Int32) else e_34) else e_34, (0 : Int32), r_walks_1.2.1, r_walks_1.2.2.1, r_walks_1.2.2.2)))
set_option maxRecDepth 100000 in
set_option maxHeartbeats 4000000 in
theorem c_X10_judge (l : Launch) (D : va_G) (N : Nat) {q_this q_now q_row q_left q_steps : Nat} {w_kept w_trial w_refusals w_letters w_dists w_partners w_times w_spliced w_piece w_balances w_prices w_hands w_hand w_dealing : Value} {v_hasImage : Int32} {v_rows : Int32} {v_lettered : Int32} {v_stepsMany : Int32} {v_splicedMany : Int32} {v_most : Int32} {v_together : Int32} {v_z : Int32} {v_now : (Nat → Int32)} {v_row : (Nat → Int32)} {v_left : (Nat → Int32)} {v_steps : (Nat → Int32)} {o : (Int32 × Int32 × Int32 × (Nat → Int32) × (Nat → Int32))} (h : f_X10_judge N v_rows v_stepsMany v_now v_row v_left v_steps = some o) : CT l D yX10_judge cX10_judge 4 (Option.some FieldType.int) 6 [.ref q_this] (w_X10_judge D q_this q_now q_row q_left q_steps w_kept w_trial w_refusals w_letters w_dists w_partners w_times w_spliced w_piece w_balances w_prices w_hands w_hand w_dealing v_hasImage v_rows v_lettered v_stepsMany v_splicedMany v_most v_together v_z v_now v_row v_left v_steps) (w_X10_judge D q_this q_now q_row q_left q_steps w_kept w_trial w_refusals w_letters w_dists w_partners w_times w_spliced w_piece w_balances w_prices w_hands w_hand w_dealing v_hasImage o.2.1 v_lettered o.2.2.1 v_splicedMany v_most v_together v_z v_now v_row o.2.2.2.1 o.2.2.2.2) (some (.int o.1)) := by
  refine CT.of mk_X10_judge (Nat.le_of_ble_eq_true rfl) (fun g hl hD C E => ?_)
  subst hl
  subst hD
  unfold f_X10_judge at h
  refine j_aload_n C dX10_judge_0 rfl ?_
  refine j_aload_n C dX10_judge_1 rfl ?_
  refine j_get C 0 rfl rfl inX10 0 (by decide) kw_981 rfl rfl dX10_judge_2 ?_
  obtain ⟨r_walks_1, h_1, h⟩ := of_bind h
  refine j_callV1 C mk_X10_walks ms_X10_walks kw_1192 (c_X10_walks (gl g) (gD g) N h_1) (by decide) 0 rfl rfl [0, 3, 4, 1] rfl rfl rfl rfl rfl (Nat.le_of_ble_eq_true rfl) dX10_judge_5 ?_
  refine j_ws (ws' := (w_X10_judge (gD g) q_this q_now q_row q_left q_steps w_kept w_trial w_refusals w_letters w_dists w_partners w_times w_spliced w_piece w_balances w_prices w_hands w_hand w_dealing v_hasImage v_rows v_lettered r_walks_1.2.1 v_splicedMany v_most v_together v_z v_now v_row r_walks_1.2.2.1 r_walks_1.2.2.2)) rfl ?_
  have hj_2 : J g (w_X10_judge (gD g) q_this q_now q_row q_left q_steps w_kept w_trial w_refusals w_letters w_dists w_partners w_times w_spliced w_piece w_balances w_prices w_hands w_hand w_dealing v_hasImage v_rows v_lettered r_walks_1.2.1 v_splicedMany v_most v_together v_z v_now v_row r_walks_1.2.2.1 r_walks_1.2.2.2) [(0, .ref q_this)] 21 [.int (if 0 ≤ r_walks_1.1 then (r_walks_1.2.1 + (1 : Int32)) else (0 : Int32))] := by
    refine j_istore_n C dX10_judge_21 (by decide) ?_
    refine j_aload_n C dX10_judge_22 rfl ?_
    refine j_get C 0 rfl rfl inX10 6 (by decide) kw_987 rfl rfl dX10_judge_23 ?_
    refine j_istore_n C dX10_judge_26 (by decide) ?_
    refine j_aload_n C dX10_judge_27 rfl ?_
    refine j_iconst C (0) dX10_judge_28 ki_0 ?_
    refine j_put C 0 rfl rfl inX10 tyX10_ok nmX10 6 (by decide) kw_987 rfl rfl rfl rfl (Nat.le_of_ble_eq_true rfl) dX10_judge_29 ?_
    refine j_ws (ws' := (w_X10_judge (gD g) q_this q_now q_row q_left q_steps w_kept w_trial w_refusals w_letters w_dists w_partners w_times w_spliced w_piece w_balances w_prices w_hands w_hand w_dealing v_hasImage ((0 : Int32)) v_lettered r_walks_1.2.1 v_splicedMany v_most v_together v_z v_now v_row r_walks_1.2.2.1 r_walks_1.2.2.2)) rfl ?_
    refine j_iconst C (0) dX10_judge_32 ki_0 ?_
    refine j_istore_n C dX10_judge_33 (by decide) ?_
    obtain ⟨e_34, hl_34, h⟩ := of_bind h
    have ha_34 : J g (w_X10_judge (gD g) q_this q_now q_row q_left q_steps w_kept w_trial w_refusals w_letters w_dists w_partners w_times w_spliced w_piece w_balances w_prices w_hands w_hand w_dealing v_hasImage ((0 : Int32)) v_lettered r_walks_1.2.1 v_splicedMany v_most v_together v_z v_now v_row r_walks_1.2.2.1 r_walks_1.2.2.2) [(1, .int (if 0 ≤ r_walks_1.1 then (r_walks_1.2.1 + (1 : Int32)) else (0 : Int32))), (2, .int (v_rows)), (3, .int (e_34))] 68 [] := by
      refine j_iload_n C dX10_judge_68 rfl ?_
      refine j_iload_n C dX10_judge_69 rfl ?_
      have hj_4 : J g (w_X10_judge (gD g) q_this q_now q_row q_left q_steps w_kept w_trial w_refusals w_letters w_dists w_partners w_times w_spliced w_piece w_balances w_prices w_hands w_hand w_dealing v_hasImage ((0 : Int32)) v_lettered r_walks_1.2.1 v_splicedMany v_most v_together v_z v_now v_row r_walks_1.2.2.1 r_walks_1.2.2.2) [] 84 [.int (if e_34 = v_rows then (if e_34 = (if 0 ≤ r_walks_1.1 then (r_walks_1.2.1 + (1 : Int32)) else (0 : Int32)) then (-9 : Int32) else e_34) else e_34)] := by
        have h := Option.some.inj h
        subst h
        exact j_iret C E dX10_judge_84
      refine jv_icmp_ne C 83 dX10_judge_70 (by decide) (fun hc => ?_) (fun hc => ?_)
      · try simp only [if_pos hc] at hj_4
        refine j_iload_n C dX10_judge_73 rfl ?_
        refine j_iload_n C dX10_judge_74 rfl ?_
        refine jv_icmp_ne C 83 dX10_judge_75 (by decide) (fun hc => ?_) (fun hc => ?_)
        · try simp only [if_pos hc] at hj_4
          refine j_bipush C (-9) dX10_judge_78 kb_m9 ?_
          refine j_goto C 84 dX10_judge_80 (by decide) ?_
          exact j_lw hj_4 rfl
        · try simp only [if_neg hc] at hj_4
          refine j_iload_n C dX10_judge_83 rfl ?_
          exact j_lw hj_4 rfl
      · try simp only [if_neg hc] at hj_4
        refine j_iload_n C dX10_judge_83 rfl ?_
        exact j_lw hj_4 rfl
    refine j_lv (lv' := [(0, .ref q_this), (1, .int (if 0 ≤ r_walks_1.1 then (r_walks_1.2.1 + (1 : Int32)) else (0 : Int32))), (2, .int (v_rows)), (3, .int ((0 : Int32)))]) rfl ?_
    refine lp_ind hl_34 (fun s_34 => J g (w_X10_judge (gD g) q_this q_now q_row q_left q_steps w_kept w_trial w_refusals w_letters w_dists w_partners w_times w_spliced w_piece w_balances w_prices w_hands w_hand w_dealing v_hasImage ((0 : Int32)) v_lettered r_walks_1.2.1 v_splicedMany v_most v_together v_z v_now v_row r_walks_1.2.2.1 r_walks_1.2.2.2) [(0, .ref q_this), (1, .int (if 0 ≤ r_walks_1.1 then (r_walks_1.2.1 + (1 : Int32)) else (0 : Int32))), (2, .int (v_rows)), (3, .int (s_34))] 34 []) (fun s_34 r_34 h hc_34 hx_34 => ?_)
    unfold f_X10_judge_b34 at h
    refine j_iload_n C dX10_judge_34 rfl ?_
    refine j_iload_n C dX10_judge_35 rfl ?_
    refine j_icmp_ge C h 68 dX10_judge_36 (by decide) (fun hc h => ?_) (fun hc h => ?_)
    · have h := Option.some.inj h
      subst h
      have h9 := hx_34 _ rfl
      subst h9
      exact j_lw ha_34 rfl
    · refine j_iload_n C dX10_judge_39 rfl ?_
      refine j_iload_n C dX10_judge_40 rfl ?_
      refine j_icmp_ge C h 68 dX10_judge_41 (by decide) (fun hc h => ?_) (fun hc h => ?_)
      · have h := Option.some.inj h
        subst h
        have h9 := hx_34 _ rfl
        subst h9
        exact j_lw ha_34 rfl
      · refine j_aload_n C dX10_judge_44 rfl ?_
        refine j_get C 0 rfl rfl inX10 5 (by decide) kw_986 rfl rfl dX10_judge_45 ?_
        refine j_iload_n C dX10_judge_48 rfl ?_
        refine j_iaload 2 C h rfl rfl dX10_judge_49 (fun h => ?_)
        refine j_aload_n C dX10_judge_50 rfl ?_
        refine j_aload_n C dX10_judge_51 rfl ?_
        refine j_get C 0 rfl rfl inX10 0 (by decide) kw_981 rfl rfl dX10_judge_52 ?_
        refine j_iload_n C dX10_judge_55 rfl ?_
        obtain ⟨r_cornerOf_3, h_3, h⟩ := of_bind h
        refine j_callV1 C mk_X10_cornerOf ms_X10_cornerOf kw_1385 (c_X10_cornerOf (gl g) (gD g) h_3) (by decide) 0 rfl rfl [0, 4, 1] rfl rfl rfl rfl rfl (Nat.le_of_ble_eq_true rfl) dX10_judge_56 ?_
        refine j_ws (ws' := (w_X10_judge (gD g) q_this q_now q_row q_left q_steps w_kept w_trial w_refusals w_letters w_dists w_partners w_times w_spliced w_piece w_balances w_prices w_hands w_hand w_dealing v_hasImage ((0 : Int32)) v_lettered r_walks_1.2.1 v_splicedMany v_most v_together v_z v_now v_row r_walks_1.2.2.1 r_walks_1.2.2.2)) rfl ?_
        refine j_icmp_ne C h 68 dX10_judge_59 (by decide) (fun hc h => ?_) (fun hc h => ?_)
        · refine j_inc C (1) dX10_judge_62 rfl ki_1 (by decide) ?_
          refine j_goto C 34 dX10_judge_65 (by decide) ?_
          have h := Option.some.inj h
          subst h
          have hc9 := hc_34 _ rfl
          exact j_lw hc9 rfl
        · have h := Option.some.inj h
          subst h
          have h9 := hx_34 _ rfl
          subst h9
          exact j_lw ha_34 rfl
  refine jv_if_ge C 15 dX10_judge_8 (by decide) (fun hc => ?_) (fun hc => ?_)
  · try simp only [if_pos hc] at hj_2
    refine j_aload_n C dX10_judge_15 rfl ?_
    refine j_get C 0 rfl rfl inX10 12 (by decide) kw_993 rfl rfl dX10_judge_16 ?_
    refine j_iconst C (1) dX10_judge_19 ki_1 ?_
    refine j_iadd C dX10_judge_20 ?_
    exact j_lw hj_2 rfl
  · try simp only [if_neg hc] at hj_2
    refine j_iconst C (0) dX10_judge_11 ki_0 ?_
    refine j_goto C 21 dX10_judge_12 (by decide) ?_
    exact j_lw hj_2 rfl

def w_X10_clear (D : va_G) (q_this : Nat) (w_now w_kept w_trial w_refusals w_row w_letters w_dists w_left w_steps w_partners w_times w_spliced w_piece w_balances w_prices w_hands w_hand w_dealing : Value) (v_hasImage : Int32) (v_rows : Int32) (v_lettered : Int32) (v_stepsMany : Int32) (v_splicedMany : Int32) (v_most : Int32) (v_together : Int32) (v_z : Int32) : va_W := [(q_this, .inr (9, [w_now, w_kept, w_trial, .int v_hasImage, w_refusals, w_row, .int v_rows, w_letters, .int v_lettered, w_dists, w_left, w_steps, .int v_stepsMany, w_partners, w_times, w_spliced, .int v_splicedMany, w_piece, w_balances, w_prices, w_hands, w_hand, w_dealing, .int v_most, .int v_together, .int v_z]))]
def f_X10_clear (v_rows : Int32) : Option (Int32 × Int32) :=
  some (v_rows, (0 : Int32))
set_option maxRecDepth 100000 in
set_option maxHeartbeats 4000000 in
theorem c_X10_clear (l : Launch) (D : va_G) {q_this : Nat} {w_now w_kept w_trial w_refusals w_row w_letters w_dists w_left w_steps w_partners w_times w_spliced w_piece w_balances w_prices w_hands w_hand w_dealing : Value} {v_hasImage : Int32} {v_rows : Int32} {v_lettered : Int32} {v_stepsMany : Int32} {v_splicedMany : Int32} {v_most : Int32} {v_together : Int32} {v_z : Int32} {o : (Int32 × Int32)} (h : f_X10_clear v_rows = some o) : CT l D yX10_clear cX10_clear 2 (Option.some FieldType.int) 0 [.ref q_this] (w_X10_clear D q_this w_now w_kept w_trial w_refusals w_row w_letters w_dists w_left w_steps w_partners w_times w_spliced w_piece w_balances w_prices w_hands w_hand w_dealing v_hasImage v_rows v_lettered v_stepsMany v_splicedMany v_most v_together v_z) (w_X10_clear D q_this w_now w_kept w_trial w_refusals w_row w_letters w_dists w_left w_steps w_partners w_times w_spliced w_piece w_balances w_prices w_hands w_hand w_dealing v_hasImage o.2 v_lettered v_stepsMany v_splicedMany v_most v_together v_z) (some (.int o.1)) := by
  refine CT.of mk_X10_clear (Nat.le_of_ble_eq_true rfl) (fun g hl hD C E => ?_)
  subst hl
  subst hD
  unfold f_X10_clear at h
  refine j_aload_n C dX10_clear_0 rfl ?_
  refine j_get C 0 rfl rfl inX10 6 (by decide) kw_987 rfl rfl dX10_clear_1 ?_
  refine j_istore_n C dX10_clear_4 (by decide) ?_
  refine j_aload_n C dX10_clear_5 rfl ?_
  refine j_iconst C (0) dX10_clear_6 ki_0 ?_
  refine j_put C 0 rfl rfl inX10 tyX10_ok nmX10 6 (by decide) kw_987 rfl rfl rfl rfl (Nat.le_of_ble_eq_true rfl) dX10_clear_7 ?_
  refine j_ws (ws' := (w_X10_clear (gD g) q_this w_now w_kept w_trial w_refusals w_row w_letters w_dists w_left w_steps w_partners w_times w_spliced w_piece w_balances w_prices w_hands w_hand w_dealing v_hasImage ((0 : Int32)) v_lettered v_stepsMany v_splicedMany v_most v_together v_z)) rfl ?_
  refine j_iload_n C dX10_clear_10 rfl ?_
  have h := Option.some.inj h
  subst h
  exact j_iret C E dX10_clear_11

def w_X10_draw (D : va_G) (q_this : Nat) (w_now w_kept w_trial w_refusals w_row w_letters w_dists w_left w_steps w_partners w_times w_spliced w_piece w_balances w_prices w_hands w_hand w_dealing : Value) (v_hasImage : Int32) (v_rows : Int32) (v_lettered : Int32) (v_stepsMany : Int32) (v_splicedMany : Int32) (v_most : Int32) (v_together : Int32) (v_z : Int32) : va_W := [(q_this, .inr (9, [w_now, w_kept, w_trial, .int v_hasImage, w_refusals, w_row, .int v_rows, w_letters, .int v_lettered, w_dists, w_left, w_steps, .int v_stepsMany, w_partners, w_times, w_spliced, .int v_splicedMany, w_piece, w_balances, w_prices, w_hands, w_hand, w_dealing, .int v_most, .int v_together, .int v_z]))]
def f_X10_draw (x1 : Int32) (v_z : Int32) : Option (Int32 × Int32) :=
  gd x1 (some (((((v_z * (1664525 : Int32)) + (1013904223 : Int32)) &&& (2147483647 : Int32)) / (256 : Int32)) - ((((v_z * (1664525 : Int32)) + (1013904223 : Int32)) &&& (2147483647 : Int32)) / (256 : Int32)) / x1 * x1, (v_z * (1664525 : Int32)) + (1013904223 : Int32)))
set_option maxRecDepth 100000 in
set_option maxHeartbeats 4000000 in
theorem c_X10_draw (l : Launch) (D : va_G) {q_this : Nat} {w_now w_kept w_trial w_refusals w_row w_letters w_dists w_left w_steps w_partners w_times w_spliced w_piece w_balances w_prices w_hands w_hand w_dealing : Value} {v_hasImage : Int32} {v_rows : Int32} {v_lettered : Int32} {v_stepsMany : Int32} {v_splicedMany : Int32} {v_most : Int32} {v_together : Int32} {v_z : Int32} {x1 : Int32} {o : (Int32 × Int32)} (h : f_X10_draw x1 v_z = some o) : CT l D yX10_draw cX10_draw 2 (Option.some FieldType.int) 0 [.ref q_this, .int x1] (w_X10_draw D q_this w_now w_kept w_trial w_refusals w_row w_letters w_dists w_left w_steps w_partners w_times w_spliced w_piece w_balances w_prices w_hands w_hand w_dealing v_hasImage v_rows v_lettered v_stepsMany v_splicedMany v_most v_together v_z) (w_X10_draw D q_this w_now w_kept w_trial w_refusals w_row w_letters w_dists w_left w_steps w_partners w_times w_spliced w_piece w_balances w_prices w_hands w_hand w_dealing v_hasImage v_rows v_lettered v_stepsMany v_splicedMany v_most v_together o.2) (some (.int o.1)) := by
  refine CT.of mk_X10_draw (Nat.le_of_ble_eq_true rfl) (fun g hl hD C E => ?_)
  subst hl
  subst hD
  unfold f_X10_draw at h
  refine j_aload_n C dX10_draw_0 rfl ?_
  refine j_aload_n C dX10_draw_1 rfl ?_
  refine j_get C 0 rfl rfl inX10 25 (by decide) kw_1006 rfl rfl dX10_draw_2 ?_
  refine j_ldcw C kw_1410 dX10_draw_5 ?_
  refine j_imul C dX10_draw_8 ?_
  refine j_ldcw C kw_1411 dX10_draw_9 ?_
  refine j_iadd C dX10_draw_12 ?_
  refine j_put C 0 rfl rfl inX10 tyX10_ok nmX10 25 (by decide) kw_1006 rfl rfl rfl rfl (Nat.le_of_ble_eq_true rfl) dX10_draw_13 ?_
  refine j_ws (ws' := (w_X10_draw (gD g) q_this w_now w_kept w_trial w_refusals w_row w_letters w_dists w_left w_steps w_partners w_times w_spliced w_piece w_balances w_prices w_hands w_hand w_dealing v_hasImage v_rows v_lettered v_stepsMany v_splicedMany v_most v_together ((v_z * (1664525 : Int32)) + (1013904223 : Int32)))) rfl ?_
  refine j_aload_n C dX10_draw_16 rfl ?_
  refine j_get C 0 rfl rfl inX10 25 (by decide) kw_1006 rfl rfl dX10_draw_17 ?_
  refine j_ldcw C kw_1412 dX10_draw_20 ?_
  refine j_iand C dX10_draw_23 ?_
  refine j_sipush C (256) dX10_draw_24 kc_256 ?_
  refine j_idivc C (by decide) dX10_draw_27 ?_
  refine j_iload_n C dX10_draw_28 rfl ?_
  refine j_irem C h dX10_draw_29 (fun h => ?_)
  have h := Option.some.inj h
  subst h
  exact j_iret C E dX10_draw_30

def w_X10_lots (D : va_G) (q_this q_now q_trial q_refusals q_left : Nat) (w_kept w_row w_letters w_dists w_steps w_partners w_times w_spliced w_piece w_balances w_prices w_hands w_hand w_dealing : Value) (v_hasImage : Int32) (v_rows : Int32) (v_lettered : Int32) (v_stepsMany : Int32) (v_splicedMany : Int32) (v_most : Int32) (v_together : Int32) (v_z : Int32) (v_now : (Nat → Int32)) (v_trial : (Nat → Int32)) (v_refusals : (Nat → Int32)) (v_left : (Nat → Int32)) : va_W := [(q_this, .inr (9, [.ref q_now, w_kept, .ref q_trial, .int v_hasImage, .ref q_refusals, w_row, .int v_rows, w_letters, .int v_lettered, w_dists, .ref q_left, w_steps, .int v_stepsMany, w_partners, w_times, w_spliced, .int v_splicedMany, w_piece, w_balances, w_prices, w_hands, w_hand, w_dealing, .int v_most, .int v_together, .int v_z])), (q_now, .inl (D.1 100, 50, .inl v_now)), (q_trial, .inl (D.1 100, 50, .inl v_trial)), (q_refusals, .inl (D.1 100, 7, .inl v_refusals)), (q_left, .inl (D.1 100, 1536, .inl v_left))]
def f_X10_lots_b75 (v_trial_75 : (Nat → Int32)) (x8_75 : Int32) (v_z_75 : Int32) : Option ((Int32 × Int32 × (Nat → Int32)) ⊕ (Int32 × (Nat → Int32))) :=
  ga (49 : Int32) 50 ((if (v_trial_75 (Int32.toNatClampNeg (49 : Int32))) ≤ x8_75 then some (.inr (v_z_75, v_trial_75)) else (f_X10_draw (99 : Int32) v_z_75).bind (fun r_draw_4 => ga ((16 : Int32) + x8_75) 50 (some (.inl (x8_75 + (1 : Int32), r_draw_4.2, upd v_trial_75 (Int32.toNatClampNeg ((16 : Int32) + x8_75)) ((1 : Int32) + r_draw_4.1)))))))
def f_X10_lots_b60 (N : Nat) (x1 : Int32) (x6_60 : Int32) (x4_60 : Int32) (x5_60 : Int32) (v_z_60 : Int32) (v_trial_60 : (Nat → Int32)) (v_left_60 : (Nat → Int32)) (v_now : (Nat → Int32)) : Option ((Int32 × Int32 × Int32 × Int32 × (Nat → Int32) × (Nat → Int32)) ⊕ (Int32 × Int32 × Int32 × (Nat → Int32) × (Nat → Int32))) :=
  (if x1 ≤ x6_60 then some (.inr (x4_60, x5_60, v_z_60, v_trial_60, v_left_60)) else (f_X10_thought N v_now v_trial_60).bind (fun r_thought_3 => (lp (fun s_75 => f_X10_lots_b75 s_75.2.2 s_75.1 s_75.2.1) N ((0 : Int32), v_z_60, r_thought_3)).bind (fun e_75 => (f_X10_roundOf N v_left_60 e_75.2).bind (fun r_roundOf_5 => some (.inl (x4_60 + (if r_roundOf_5.1 < 0 then (0 : Int32) else (1 : Int32)), x5_60 + (if (0 : Int32) < r_roundOf_5.1 then r_roundOf_5.1 else (0 : Int32)), x6_60 + (1 : Int32), e_75.1, e_75.2, r_roundOf_5.2))))))
def f_X10_lots (N : Nat) (x1 : Int32) (x2 : Int32) (x3 : Int32) (v_z : Int32) (v_now : (Nat → Int32)) (v_trial : (Nat → Int32)) (v_refusals : (Nat → Int32)) (v_left : (Nat → Int32)) : Option (Int32 × Int32 × (Nat → Int32) × (Nat → Int32) × (Nat → Int32)) :=
  (f_X10_in (Int32.toInt64 x1) (1 : Int64) (20 : Int64)).bind (fun r_in_1 => (if r_in_1 = 0 then (f_X10_refused (if (1 : Int32) ≤ x1 then (-6 : Int32) else (-4 : Int32)) v_refusals).bind (fun r_refused_10 => some (r_refused_10.1, v_z, v_trial, r_refused_10.2, v_left)) else (f_X10_in (Int32.toInt64 x3) (0 : Int64) (1 : Int64)).bind (fun r_in_2 => (if r_in_2 = 0 then (f_X10_refused (-2 : Int32) v_refusals).bind (fun r_refused_8 => some (r_refused_8.1, v_z, v_trial, r_refused_8.2, v_left)) else (lp (fun s_60 => f_X10_lots_b60 N x1 s_60.2.2.1 s_60.1 s_60.2.1 s_60.2.2.2.1 s_60.2.2.2.2.1 s_60.2.2.2.2.2 v_now) N ((0 : Int32), (0 : Int32), (0 : Int32), x2, v_trial, v_left)).bind (fun e_60 => some (if x3 = 0 then e_60.1 else e_60.2.1, e_60.2.2.1, e_60.2.2.2.1, v_refusals, e_60.2.2.2.2))))))
set_option maxRecDepth 100000 in
set_option maxHeartbeats 4000000 in
theorem c_X10_lots (l : Launch) (D : va_G) (N : Nat) {q_this q_now q_trial q_refusals q_left : Nat} {w_kept w_row w_letters w_dists w_steps w_partners w_times w_spliced w_piece w_balances w_prices w_hands w_hand w_dealing : Value} {v_hasImage : Int32} {v_rows : Int32} {v_lettered : Int32} {v_stepsMany : Int32} {v_splicedMany : Int32} {v_most : Int32} {v_together : Int32} {v_z : Int32} {v_now : (Nat → Int32)} {v_trial : (Nat → Int32)} {v_refusals : (Nat → Int32)} {v_left : (Nat → Int32)} {x1 : Int32} {x2 : Int32} {x3 : Int32} {o : (Int32 × Int32 × (Nat → Int32) × (Nat → Int32) × (Nat → Int32))} (h : f_X10_lots N x1 x2 x3 v_z v_now v_trial v_refusals v_left = some o) : CT l D yX10_lots cX10_lots 9 (Option.some FieldType.int) 5 [.ref q_this, .int x1, .int x2, .int x3] (w_X10_lots D q_this q_now q_trial q_refusals q_left w_kept w_row w_letters w_dists w_steps w_partners w_times w_spliced w_piece w_balances w_prices w_hands w_hand w_dealing v_hasImage v_rows v_lettered v_stepsMany v_splicedMany v_most v_together v_z v_now v_trial v_refusals v_left) (w_X10_lots D q_this q_now q_trial q_refusals q_left w_kept w_row w_letters w_dists w_steps w_partners w_times w_spliced w_piece w_balances w_prices w_hands w_hand w_dealing v_hasImage v_rows v_lettered v_stepsMany v_splicedMany v_most v_together o.2.1 v_now o.2.2.1 o.2.2.2.1 o.2.2.2.2) (some (.int o.1)) := by
  refine CT.of mk_X10_lots (Nat.le_of_ble_eq_true rfl) (fun g hl hD C E => ?_)
  subst hl
  subst hD
  unfold f_X10_lots at h
  refine j_iload_n C dX10_lots_0 rfl ?_
  refine j_i2l C dX10_lots_1 ?_
  refine j_lconst C 1 dX10_lots_2 rfl ?_
  refine j_ldc2 C kw_1405 dX10_lots_3 ?_
  obtain ⟨r_in_1, h_1, h⟩ := of_bind h
  refine j_callS1 C mk_X10_in ms_X10_in kw_1085 (c_X10_in (gl g) (gD g) h_1) (by decide) [] rfl rfl rfl rfl rfl (Nat.le_of_ble_eq_true rfl) dX10_lots_6 ?_
  refine j_ws (ws' := (w_X10_lots (gD g) q_this q_now q_trial q_refusals q_left w_kept w_row w_letters w_dists w_steps w_partners w_times w_spliced w_piece w_balances w_prices w_hands w_hand w_dealing v_hasImage v_rows v_lettered v_stepsMany v_splicedMany v_most v_together v_z v_now v_trial v_refusals v_left)) rfl ?_
  refine j_if_ne C h 29 dX10_lots_9 (by decide) (fun hc h => ?_) (fun hc h => ?_)
  · refine j_aload_n C dX10_lots_12 rfl ?_
    refine j_iload_n C dX10_lots_13 rfl ?_
    refine j_iconst C (1) dX10_lots_14 ki_1 ?_
    have hj_9 : J g (w_X10_lots (gD g) q_this q_now q_trial q_refusals q_left w_kept w_row w_letters w_dists w_steps w_partners w_times w_spliced w_piece w_balances w_prices w_hands w_hand w_dealing v_hasImage v_rows v_lettered v_stepsMany v_splicedMany v_most v_together v_z v_now v_trial v_refusals v_left) [] 25 [.int (if (1 : Int32) ≤ x1 then (-6 : Int32) else (-4 : Int32)), .ref q_this] := by
      obtain ⟨r_refused_10, h_10, h⟩ := of_bind h
      refine j_callV1 C mk_X10_refused ms_X10_refused kw_1064 (c_X10_refused (gl g) (gD g) h_10) (by decide) 0 rfl rfl [0, 3] rfl rfl rfl rfl rfl (Nat.le_of_ble_eq_true rfl) dX10_lots_25 ?_
      refine j_ws (ws' := (w_X10_lots (gD g) q_this q_now q_trial q_refusals q_left w_kept w_row w_letters w_dists w_steps w_partners w_times w_spliced w_piece w_balances w_prices w_hands w_hand w_dealing v_hasImage v_rows v_lettered v_stepsMany v_splicedMany v_most v_together v_z v_now v_trial r_refused_10.2 v_left)) rfl ?_
      have h := Option.some.inj h
      subst h
      exact j_iret C E dX10_lots_28
    refine jv_icmp_ge C 23 dX10_lots_15 (by decide) (fun hc => ?_) (fun hc => ?_)
    · try simp only [if_pos hc] at hj_9
      refine j_bipush C (-6) dX10_lots_23 kb_m6 ?_
      exact j_lw hj_9 rfl
    · try simp only [if_neg hc] at hj_9
      refine j_bipush C (-4) dX10_lots_18 kb_m4 ?_
      refine j_goto C 25 dX10_lots_20 (by decide) ?_
      exact j_lw hj_9 rfl
  · refine j_iload_n C dX10_lots_29 rfl ?_
    refine j_i2l C dX10_lots_30 ?_
    refine j_lconst C 0 dX10_lots_31 rfl ?_
    refine j_lconst C 1 dX10_lots_32 rfl ?_
    obtain ⟨r_in_2, h_2, h⟩ := of_bind h
    refine j_callS1 C mk_X10_in ms_X10_in kw_1085 (c_X10_in (gl g) (gD g) h_2) (by decide) [] rfl rfl rfl rfl rfl (Nat.le_of_ble_eq_true rfl) dX10_lots_33 ?_
    refine j_ws (ws' := (w_X10_lots (gD g) q_this q_now q_trial q_refusals q_left w_kept w_row w_letters w_dists w_steps w_partners w_times w_spliced w_piece w_balances w_prices w_hands w_hand w_dealing v_hasImage v_rows v_lettered v_stepsMany v_splicedMany v_most v_together v_z v_now v_trial v_refusals v_left)) rfl ?_
    refine j_if_ne C h 46 dX10_lots_36 (by decide) (fun hc h => ?_) (fun hc h => ?_)
    · refine j_aload_n C dX10_lots_39 rfl ?_
      refine j_bipush C (-2) dX10_lots_40 kb_m2 ?_
      obtain ⟨r_refused_8, h_8, h⟩ := of_bind h
      refine j_callV1 C mk_X10_refused ms_X10_refused kw_1064 (c_X10_refused (gl g) (gD g) h_8) (by decide) 0 rfl rfl [0, 3] rfl rfl rfl rfl rfl (Nat.le_of_ble_eq_true rfl) dX10_lots_42 ?_
      refine j_ws (ws' := (w_X10_lots (gD g) q_this q_now q_trial q_refusals q_left w_kept w_row w_letters w_dists w_steps w_partners w_times w_spliced w_piece w_balances w_prices w_hands w_hand w_dealing v_hasImage v_rows v_lettered v_stepsMany v_splicedMany v_most v_together v_z v_now v_trial r_refused_8.2 v_left)) rfl ?_
      have h := Option.some.inj h
      subst h
      exact j_iret C E dX10_lots_45
    · refine j_aload_n C dX10_lots_46 rfl ?_
      refine j_iload_n C dX10_lots_47 rfl ?_
      refine j_put C 0 rfl rfl inX10 tyX10_ok nmX10 25 (by decide) kw_1006 rfl rfl rfl rfl (Nat.le_of_ble_eq_true rfl) dX10_lots_48 ?_
      refine j_ws (ws' := (w_X10_lots (gD g) q_this q_now q_trial q_refusals q_left w_kept w_row w_letters w_dists w_steps w_partners w_times w_spliced w_piece w_balances w_prices w_hands w_hand w_dealing v_hasImage v_rows v_lettered v_stepsMany v_splicedMany v_most v_together x2 v_now v_trial v_refusals v_left)) rfl ?_
      refine j_iconst C (0) dX10_lots_51 ki_0 ?_
      refine j_istore C dX10_lots_52 (by decide) ?_
      refine j_iconst C (0) dX10_lots_54 ki_0 ?_
      refine j_istore C dX10_lots_55 (by decide) ?_
      refine j_iconst C (0) dX10_lots_57 ki_0 ?_
      refine j_istore C dX10_lots_58 (by decide) ?_
      obtain ⟨e_60, hl_60, h⟩ := of_bind h
      have ha_60 : J g (w_X10_lots (gD g) q_this q_now q_trial q_refusals q_left w_kept w_row w_letters w_dists w_steps w_partners w_times w_spliced w_piece w_balances w_prices w_hands w_hand w_dealing v_hasImage v_rows v_lettered v_stepsMany v_splicedMany v_most v_together e_60.2.2.1 v_now e_60.2.2.2.1 v_refusals e_60.2.2.2.2) [(3, .int (x3)), (4, .int (e_60.1)), (5, .int (e_60.2.1))] 147 [] := by
        refine j_iload_n C dX10_lots_147 rfl ?_
        have hj_7 : J g (w_X10_lots (gD g) q_this q_now q_trial q_refusals q_left w_kept w_row w_letters w_dists w_steps w_partners w_times w_spliced w_piece w_balances w_prices w_hands w_hand w_dealing v_hasImage v_rows v_lettered v_stepsMany v_splicedMany v_most v_together e_60.2.2.1 v_now e_60.2.2.2.1 v_refusals e_60.2.2.2.2) [] 158 [.int (if x3 = 0 then e_60.1 else e_60.2.1)] := by
          have h := Option.some.inj h
          subst h
          exact j_iret C E dX10_lots_158
        refine jv_if_ne C 156 dX10_lots_148 (by decide) (fun hc => ?_) (fun hc => ?_)
        · try simp only [if_pos hc] at hj_7
          refine j_iload C dX10_lots_151 rfl ?_
          refine j_goto C 158 dX10_lots_153 (by decide) ?_
          exact j_lw hj_7 rfl
        · try simp only [if_neg hc] at hj_7
          refine j_iload C dX10_lots_156 rfl ?_
          exact j_lw hj_7 rfl
      refine j_lv (lv' := [(0, .ref q_this), (1, .int (x1)), (3, .int (x3)), (4, .int ((0 : Int32))), (5, .int ((0 : Int32))), (6, .int ((0 : Int32)))]) rfl ?_
      refine lp_ind hl_60 (fun s_60 => J g (w_X10_lots (gD g) q_this q_now q_trial q_refusals q_left w_kept w_row w_letters w_dists w_steps w_partners w_times w_spliced w_piece w_balances w_prices w_hands w_hand w_dealing v_hasImage v_rows v_lettered v_stepsMany v_splicedMany v_most v_together s_60.2.2.2.1 v_now s_60.2.2.2.2.1 v_refusals s_60.2.2.2.2.2) [(0, .ref q_this), (1, .int (x1)), (3, .int (x3)), (4, .int (s_60.1)), (5, .int (s_60.2.1)), (6, .int (s_60.2.2.1))] 60 []) (fun s_60 r_60 h hc_60 hx_60 => ?_)
      unfold f_X10_lots_b60 at h
      refine j_iload C dX10_lots_60 rfl ?_
      refine j_iload_n C dX10_lots_62 rfl ?_
      refine j_icmp_ge C h 147 dX10_lots_63 (by decide) (fun hc h => ?_) (fun hc h => ?_)
      · have h := Option.some.inj h
        subst h
        have h9 := hx_60 _ rfl
        subst h9
        exact j_lw ha_60 rfl
      · refine j_aload_n C dX10_lots_66 rfl ?_
        obtain ⟨r_thought_3, h_3, h⟩ := of_bind h
        refine j_callV1 C mk_X10_thought ms_X10_thought kw_1090 (c_X10_thought (gl g) (gD g) N h_3) (by decide) 0 rfl rfl [0, 1, 2] rfl rfl rfl rfl rfl (Nat.le_of_ble_eq_true rfl) dX10_lots_67 ?_
        refine j_ws (ws' := (w_X10_lots (gD g) q_this q_now q_trial q_refusals q_left w_kept w_row w_letters w_dists w_steps w_partners w_times w_spliced w_piece w_balances w_prices w_hands w_hand w_dealing v_hasImage v_rows v_lettered v_stepsMany v_splicedMany v_most v_together s_60.2.2.2.1 v_now r_thought_3 v_refusals s_60.2.2.2.2.2)) rfl ?_
        refine j_astore C dX10_lots_70 (by decide) ?_
        refine j_iconst C (0) dX10_lots_72 ki_0 ?_
        refine j_istore C dX10_lots_73 (by decide) ?_
        obtain ⟨e_75, hl_75, h⟩ := of_bind h
        have ha_75 : J g (w_X10_lots (gD g) q_this q_now q_trial q_refusals q_left w_kept w_row w_letters w_dists w_steps w_partners w_times w_spliced w_piece w_balances w_prices w_hands w_hand w_dealing v_hasImage v_rows v_lettered v_stepsMany v_splicedMany v_most v_together e_75.1 v_now e_75.2 v_refusals s_60.2.2.2.2.2) [(0, .ref q_this), (1, .int (x1)), (3, .int (x3)), (4, .int (s_60.1)), (5, .int (s_60.2.1)), (6, .int (s_60.2.2.1)), (7, .ref q_trial)] 107 [] := by
          refine j_aload_n C dX10_lots_107 rfl ?_
          refine j_aload C dX10_lots_108 rfl ?_
          obtain ⟨r_roundOf_5, h_5, h⟩ := of_bind h
          refine j_callV1 C mk_X10_roundOf ms_X10_roundOf kw_1196 (c_X10_roundOf (gl g) (gD g) N h_5) (by decide) 0 rfl rfl [0, 4, 2] rfl rfl rfl rfl rfl (Nat.le_of_ble_eq_true rfl) dX10_lots_110 ?_
          refine j_ws (ws' := (w_X10_lots (gD g) q_this q_now q_trial q_refusals q_left w_kept w_row w_letters w_dists w_steps w_partners w_times w_spliced w_piece w_balances w_prices w_hands w_hand w_dealing v_hasImage v_rows v_lettered v_stepsMany v_splicedMany v_most v_together e_75.1 v_now e_75.2 v_refusals r_roundOf_5.2)) rfl ?_
          refine j_istore C dX10_lots_113 (by decide) ?_
          refine j_iload C dX10_lots_115 rfl ?_
          refine j_iload C dX10_lots_117 rfl ?_
          have hj_6 : J g (w_X10_lots (gD g) q_this q_now q_trial q_refusals q_left w_kept w_row w_letters w_dists w_steps w_partners w_times w_spliced w_piece w_balances w_prices w_hands w_hand w_dealing v_hasImage v_rows v_lettered v_stepsMany v_splicedMany v_most v_together e_75.1 v_now e_75.2 v_refusals r_roundOf_5.2) [(0, .ref q_this), (1, .int (x1)), (3, .int (x3)), (5, .int (s_60.2.1)), (6, .int (s_60.2.2.1)), (8, .int (r_roundOf_5.1))] 127 [.int (if r_roundOf_5.1 < 0 then (0 : Int32) else (1 : Int32)), .int (s_60.1)] := by
            refine j_iadd C dX10_lots_127 ?_
            refine j_istore C dX10_lots_128 (by decide) ?_
            refine j_iload C dX10_lots_130 rfl ?_
            refine j_iconst C (0) dX10_lots_132 ki_0 ?_
            refine j_iload C dX10_lots_133 rfl ?_
            refine j_mmax C (by decide) kw_1347 kw_884 kw_19 kw_885 (Nat.le_of_ble_eq_true rfl) dX10_lots_135 ?_
            refine j_iadd C dX10_lots_138 ?_
            refine j_istore C dX10_lots_139 (by decide) ?_
            refine j_inc C (1) dX10_lots_141 rfl ki_1 (by decide) ?_
            refine j_goto C 60 dX10_lots_144 (by decide) ?_
            have h := Option.some.inj h
            subst h
            have hc9 := hc_60 _ rfl
            exact j_lw hc9 rfl
          refine jv_if_lt C 126 dX10_lots_119 (by decide) (fun hc => ?_) (fun hc => ?_)
          · try simp only [if_pos hc] at hj_6
            refine j_iconst C (0) dX10_lots_126 ki_0 ?_
            exact j_lw hj_6 rfl
          · try simp only [if_neg hc] at hj_6
            refine j_iconst C (1) dX10_lots_122 ki_1 ?_
            refine j_goto C 127 dX10_lots_123 (by decide) ?_
            exact j_lw hj_6 rfl
        refine j_lv (lv' := [(0, .ref q_this), (1, .int (x1)), (3, .int (x3)), (4, .int (s_60.1)), (5, .int (s_60.2.1)), (6, .int (s_60.2.2.1)), (7, .ref q_trial), (8, .int ((0 : Int32)))]) rfl ?_
        refine lp_ind hl_75 (fun s_75 => J g (w_X10_lots (gD g) q_this q_now q_trial q_refusals q_left w_kept w_row w_letters w_dists w_steps w_partners w_times w_spliced w_piece w_balances w_prices w_hands w_hand w_dealing v_hasImage v_rows v_lettered v_stepsMany v_splicedMany v_most v_together s_75.2.1 v_now s_75.2.2 v_refusals s_60.2.2.2.2.2) [(0, .ref q_this), (1, .int (x1)), (3, .int (x3)), (4, .int (s_60.1)), (5, .int (s_60.2.1)), (6, .int (s_60.2.2.1)), (7, .ref q_trial), (8, .int (s_75.1))] 75 []) (fun s_75 r_75 h hc_75 hx_75 => ?_)
        unfold f_X10_lots_b75 at h
        refine j_iload C dX10_lots_75 rfl ?_
        refine j_aload C dX10_lots_77 rfl ?_
        refine j_bipush C (49) dX10_lots_79 kb_49 ?_
        refine j_iaload 2 C h rfl rfl dX10_lots_81 (fun h => ?_)
        refine j_icmp_ge C h 107 dX10_lots_82 (by decide) (fun hc h => ?_) (fun hc h => ?_)
        · have h := Option.some.inj h
          subst h
          have h9 := hx_75 _ rfl
          subst h9
          exact j_lw ha_75 rfl
        · refine j_aload C dX10_lots_85 rfl ?_
          refine j_bipush C (16) dX10_lots_87 kb_16 ?_
          refine j_iload C dX10_lots_89 rfl ?_
          refine j_iadd C dX10_lots_91 ?_
          refine j_iconst C (1) dX10_lots_92 ki_1 ?_
          refine j_aload_n C dX10_lots_93 rfl ?_
          refine j_bipush C (99) dX10_lots_94 kb_99 ?_
          obtain ⟨r_draw_4, h_4, h⟩ := of_bind h
          refine j_callV1 C mk_X10_draw ms_X10_draw kw_1406 (c_X10_draw (gl g) (gD g) h_4) (by decide) 0 rfl rfl [0] rfl rfl rfl rfl rfl (Nat.le_of_ble_eq_true rfl) dX10_lots_96 ?_
          refine j_ws (ws' := (w_X10_lots (gD g) q_this q_now q_trial q_refusals q_left w_kept w_row w_letters w_dists w_steps w_partners w_times w_spliced w_piece w_balances w_prices w_hands w_hand w_dealing v_hasImage v_rows v_lettered v_stepsMany v_splicedMany v_most v_together r_draw_4.2 v_now s_75.2.2 v_refusals s_60.2.2.2.2.2)) rfl ?_
          refine j_iadd C dX10_lots_99 ?_
          refine j_iastore 2 C h rfl rfl dX10_lots_100 (fun h => ?_)
          refine j_ws (ws' := (w_X10_lots (gD g) q_this q_now q_trial q_refusals q_left w_kept w_row w_letters w_dists w_steps w_partners w_times w_spliced w_piece w_balances w_prices w_hands w_hand w_dealing v_hasImage v_rows v_lettered v_stepsMany v_splicedMany v_most v_together r_draw_4.2 v_now (upd s_75.2.2 (Int32.toNatClampNeg ((16 : Int32) + s_75.1)) ((1 : Int32) + r_draw_4.1)) v_refusals s_60.2.2.2.2.2)) rfl ?_
          refine j_inc C (1) dX10_lots_101 rfl ki_1 (by decide) ?_
          refine j_goto C 75 dX10_lots_104 (by decide) ?_
          have h := Option.some.inj h
          subst h
          have hc9 := hc_75 _ rfl
          exact j_lw hc9 rfl

def w_X10_image (D : va_G) (q_this q_now q_kept : Nat) (w_trial w_refusals w_row w_letters w_dists w_left w_steps w_partners w_times w_spliced w_piece w_balances w_prices w_hands w_hand w_dealing : Value) (v_hasImage : Int32) (v_rows : Int32) (v_lettered : Int32) (v_stepsMany : Int32) (v_splicedMany : Int32) (v_most : Int32) (v_together : Int32) (v_z : Int32) (v_now : (Nat → Int32)) (v_kept : (Nat → Int32)) : va_W := [(q_this, .inr (9, [.ref q_now, .ref q_kept, w_trial, .int v_hasImage, w_refusals, w_row, .int v_rows, w_letters, .int v_lettered, w_dists, w_left, w_steps, .int v_stepsMany, w_partners, w_times, w_spliced, .int v_splicedMany, w_piece, w_balances, w_prices, w_hands, w_hand, w_dealing, .int v_most, .int v_together, .int v_z])), (q_now, .inl (D.1 100, 50, .inl v_now)), (q_kept, .inl (D.1 100, 50, .inl v_kept))]
def f_X10_image (N : Nat) (v_hasImage : Int32) (v_now : (Nat → Int32)) (v_kept : (Nat → Int32)) : Option (Int32 × Int32 × (Nat → Int32)) :=
  (f_X10_copies N v_now v_kept).bind (fun r_copies_1 => ga (49 : Int32) 50 (some (v_now (Int32.toNatClampNeg (49 : Int32)), (1 : Int32), r_copies_1)))
set_option maxRecDepth 100000 in
set_option maxHeartbeats 4000000 in
theorem c_X10_image (l : Launch) (D : va_G) (N : Nat) {q_this q_now q_kept : Nat} {w_trial w_refusals w_row w_letters w_dists w_left w_steps w_partners w_times w_spliced w_piece w_balances w_prices w_hands w_hand w_dealing : Value} {v_hasImage : Int32} {v_rows : Int32} {v_lettered : Int32} {v_stepsMany : Int32} {v_splicedMany : Int32} {v_most : Int32} {v_together : Int32} {v_z : Int32} {v_now : (Nat → Int32)} {v_kept : (Nat → Int32)} {o : (Int32 × Int32 × (Nat → Int32))} (h : f_X10_image N v_hasImage v_now v_kept = some o) : CT l D yX10_image cX10_image 1 (Option.some FieldType.int) 1 [.ref q_this] (w_X10_image D q_this q_now q_kept w_trial w_refusals w_row w_letters w_dists w_left w_steps w_partners w_times w_spliced w_piece w_balances w_prices w_hands w_hand w_dealing v_hasImage v_rows v_lettered v_stepsMany v_splicedMany v_most v_together v_z v_now v_kept) (w_X10_image D q_this q_now q_kept w_trial w_refusals w_row w_letters w_dists w_left w_steps w_partners w_times w_spliced w_piece w_balances w_prices w_hands w_hand w_dealing o.2.1 v_rows v_lettered v_stepsMany v_splicedMany v_most v_together v_z v_now o.2.2) (some (.int o.1)) := by
  refine CT.of mk_X10_image (Nat.le_of_ble_eq_true rfl) (fun g hl hD C E => ?_)
  subst hl
  subst hD
  unfold f_X10_image at h
  refine j_aload_n C dX10_image_0 rfl ?_
  refine j_get C 0 rfl rfl inX10 0 (by decide) kw_981 rfl rfl dX10_image_1 ?_
  refine j_aload_n C dX10_image_4 rfl ?_
  refine j_get C 0 rfl rfl inX10 1 (by decide) kw_982 rfl rfl dX10_image_5 ?_
  obtain ⟨r_copies_1, h_1, h⟩ := of_bind h
  refine j_callS0 C mk_X10_copies ms_X10_copies kw_1094 (c_X10_copies (gl g) (gD g) N h_1) (by decide) [1, 2] rfl rfl rfl rfl rfl (Nat.le_of_ble_eq_true rfl) dX10_image_8 ?_
  refine j_ws (ws' := (w_X10_image (gD g) q_this q_now q_kept w_trial w_refusals w_row w_letters w_dists w_left w_steps w_partners w_times w_spliced w_piece w_balances w_prices w_hands w_hand w_dealing v_hasImage v_rows v_lettered v_stepsMany v_splicedMany v_most v_together v_z v_now r_copies_1)) rfl ?_
  refine j_aload_n C dX10_image_11 rfl ?_
  refine j_iconst C (1) dX10_image_12 ki_1 ?_
  refine j_put C 0 rfl rfl inX10 tyX10_ok nmX10 3 (by decide) kw_984 rfl rfl rfl rfl (Nat.le_of_ble_eq_true rfl) dX10_image_13 ?_
  refine j_ws (ws' := (w_X10_image (gD g) q_this q_now q_kept w_trial w_refusals w_row w_letters w_dists w_left w_steps w_partners w_times w_spliced w_piece w_balances w_prices w_hands w_hand w_dealing ((1 : Int32)) v_rows v_lettered v_stepsMany v_splicedMany v_most v_together v_z v_now r_copies_1)) rfl ?_
  refine j_aload_n C dX10_image_16 rfl ?_
  refine j_get C 0 rfl rfl inX10 0 (by decide) kw_981 rfl rfl dX10_image_17 ?_
  refine j_bipush C (49) dX10_image_20 kb_49 ?_
  refine j_iaload 1 C h rfl rfl dX10_image_22 (fun h => ?_)
  have h := Option.some.inj h
  subst h
  exact j_iret C E dX10_image_23

def w_X10_on (D : va_G) (q_this q_now q_kept q_refusals : Nat) (w_trial w_row w_letters w_dists w_left w_steps w_partners w_times w_spliced w_piece w_balances w_prices w_hands w_hand w_dealing : Value) (v_hasImage : Int32) (v_rows : Int32) (v_lettered : Int32) (v_stepsMany : Int32) (v_splicedMany : Int32) (v_most : Int32) (v_together : Int32) (v_z : Int32) (v_now : (Nat → Int32)) (v_kept : (Nat → Int32)) (v_refusals : (Nat → Int32)) : va_W := [(q_this, .inr (9, [.ref q_now, .ref q_kept, w_trial, .int v_hasImage, .ref q_refusals, w_row, .int v_rows, w_letters, .int v_lettered, w_dists, w_left, w_steps, .int v_stepsMany, w_partners, w_times, w_spliced, .int v_splicedMany, w_piece, w_balances, w_prices, w_hands, w_hand, w_dealing, .int v_most, .int v_together, .int v_z])), (q_now, .inl (D.1 100, 50, .inl v_now)), (q_kept, .inl (D.1 100, 50, .inl v_kept)), (q_refusals, .inl (D.1 100, 7, .inl v_refusals))]
def f_X10_on (N : Nat) (v_hasImage : Int32) (v_now : (Nat → Int32)) (v_kept : (Nat → Int32)) (v_refusals : (Nat → Int32)) : Option (Int32 × (Nat → Int32) × (Nat → Int32)) :=
  (if v_hasImage = 0 then (f_X10_refused (-3 : Int32) v_refusals).bind (fun r_refused_2 => some (r_refused_2.1, v_now, r_refused_2.2)) else (f_X10_copies N v_kept v_now).bind (fun r_copies_1 => ga (49 : Int32) 50 (some (r_copies_1 (Int32.toNatClampNeg (49 : Int32)), r_copies_1, v_refusals))))
set_option maxRecDepth 100000 in
set_option maxHeartbeats 4000000 in
theorem c_X10_on (l : Launch) (D : va_G) (N : Nat) {q_this q_now q_kept q_refusals : Nat} {w_trial w_row w_letters w_dists w_left w_steps w_partners w_times w_spliced w_piece w_balances w_prices w_hands w_hand w_dealing : Value} {v_hasImage : Int32} {v_rows : Int32} {v_lettered : Int32} {v_stepsMany : Int32} {v_splicedMany : Int32} {v_most : Int32} {v_together : Int32} {v_z : Int32} {v_now : (Nat → Int32)} {v_kept : (Nat → Int32)} {v_refusals : (Nat → Int32)} {o : (Int32 × (Nat → Int32) × (Nat → Int32))} (h : f_X10_on N v_hasImage v_now v_kept v_refusals = some o) : CT l D yX10_on cX10_on 1 (Option.some FieldType.int) 1 [.ref q_this] (w_X10_on D q_this q_now q_kept q_refusals w_trial w_row w_letters w_dists w_left w_steps w_partners w_times w_spliced w_piece w_balances w_prices w_hands w_hand w_dealing v_hasImage v_rows v_lettered v_stepsMany v_splicedMany v_most v_together v_z v_now v_kept v_refusals) (w_X10_on D q_this q_now q_kept q_refusals w_trial w_row w_letters w_dists w_left w_steps w_partners w_times w_spliced w_piece w_balances w_prices w_hands w_hand w_dealing v_hasImage v_rows v_lettered v_stepsMany v_splicedMany v_most v_together v_z o.2.1 v_kept o.2.2) (some (.int o.1)) := by
  refine CT.of mk_X10_on (Nat.le_of_ble_eq_true rfl) (fun g hl hD C E => ?_)
  subst hl
  subst hD
  unfold f_X10_on at h
  refine j_aload_n C dX10_on_0 rfl ?_
  refine j_get C 0 rfl rfl inX10 3 (by decide) kw_984 rfl rfl dX10_on_1 ?_
  refine j_if_ne C h 14 dX10_on_4 (by decide) (fun hc h => ?_) (fun hc h => ?_)
  · refine j_aload_n C dX10_on_7 rfl ?_
    refine j_bipush C (-3) dX10_on_8 kb_m3 ?_
    obtain ⟨r_refused_2, h_2, h⟩ := of_bind h
    refine j_callV1 C mk_X10_refused ms_X10_refused kw_1064 (c_X10_refused (gl g) (gD g) h_2) (by decide) 0 rfl rfl [0, 3] rfl rfl rfl rfl rfl (Nat.le_of_ble_eq_true rfl) dX10_on_10 ?_
    refine j_ws (ws' := (w_X10_on (gD g) q_this q_now q_kept q_refusals w_trial w_row w_letters w_dists w_left w_steps w_partners w_times w_spliced w_piece w_balances w_prices w_hands w_hand w_dealing v_hasImage v_rows v_lettered v_stepsMany v_splicedMany v_most v_together v_z v_now v_kept r_refused_2.2)) rfl ?_
    have h := Option.some.inj h
    subst h
    exact j_iret C E dX10_on_13
  · refine j_aload_n C dX10_on_14 rfl ?_
    refine j_get C 0 rfl rfl inX10 1 (by decide) kw_982 rfl rfl dX10_on_15 ?_
    refine j_aload_n C dX10_on_18 rfl ?_
    refine j_get C 0 rfl rfl inX10 0 (by decide) kw_981 rfl rfl dX10_on_19 ?_
    obtain ⟨r_copies_1, h_1, h⟩ := of_bind h
    refine j_callS0 C mk_X10_copies ms_X10_copies kw_1094 (c_X10_copies (gl g) (gD g) N h_1) (by decide) [2, 1] rfl rfl rfl rfl rfl (Nat.le_of_ble_eq_true rfl) dX10_on_22 ?_
    refine j_ws (ws' := (w_X10_on (gD g) q_this q_now q_kept q_refusals w_trial w_row w_letters w_dists w_left w_steps w_partners w_times w_spliced w_piece w_balances w_prices w_hands w_hand w_dealing v_hasImage v_rows v_lettered v_stepsMany v_splicedMany v_most v_together v_z r_copies_1 v_kept v_refusals)) rfl ?_
    refine j_aload_n C dX10_on_25 rfl ?_
    refine j_get C 0 rfl rfl inX10 0 (by decide) kw_981 rfl rfl dX10_on_26 ?_
    refine j_bipush C (49) dX10_on_29 kb_49 ?_
    refine j_iaload 1 C h rfl rfl dX10_on_31 (fun h => ?_)
    have h := Option.some.inj h
    subst h
    exact j_iret C E dX10_on_32

def w_X10_count (D : va_G) (q_this q_now q_refusals : Nat) (w_kept w_trial w_row w_letters w_dists w_left w_steps w_partners w_times w_spliced w_piece w_balances w_prices w_hands w_hand w_dealing : Value) (v_hasImage : Int32) (v_rows : Int32) (v_lettered : Int32) (v_stepsMany : Int32) (v_splicedMany : Int32) (v_most : Int32) (v_together : Int32) (v_z : Int32) (v_now : (Nat → Int32)) (v_refusals : (Nat → Int32)) : va_W := [(q_this, .inr (9, [.ref q_now, w_kept, w_trial, .int v_hasImage, .ref q_refusals, w_row, .int v_rows, w_letters, .int v_lettered, w_dists, w_left, w_steps, .int v_stepsMany, w_partners, w_times, w_spliced, .int v_splicedMany, w_piece, w_balances, w_prices, w_hands, w_hand, w_dealing, .int v_most, .int v_together, .int v_z])), (q_now, .inl (D.1 100, 50, .inl v_now)), (q_refusals, .inl (D.1 100, 7, .inl v_refusals))]
def f_X10_count_b54 (v_now : (Nat → Int32)) (x3_54 : Int32) (x2_54 : Int32) : Option ((Int32 × Int32) ⊕ Int32) :=
  ga (49 : Int32) 50 ((if (v_now (Int32.toNatClampNeg (49 : Int32))) ≤ x3_54 then some (.inr x2_54) else ga ((40 : Int32) + x3_54) 50 (some (.inl (x2_54 ||| ((v_now (Int32.toNatClampNeg ((40 : Int32) + x3_54))) <<< (x3_54 &&& 31)), x3_54 + (1 : Int32))))))
def f_X10_count_b97 (v_now : (Nat → Int32)) (x3_97 : Int32) (x2_97 : Int32) : Option ((Int32 × Int32) ⊕ Int32) :=
  ga (49 : Int32) 50 ((if (v_now (Int32.toNatClampNeg (49 : Int32))) ≤ x3_97 then some (.inr x2_97) else ga ((16 : Int32) + x3_97) 50 (some (.inl (x2_97 + (v_now (Int32.toNatClampNeg ((16 : Int32) + x3_97))), x3_97 + (1 : Int32))))))
def f_X10_count (N : Nat) (x1 : Int32) (v_rows : Int32) (v_lettered : Int32) (v_now : (Nat → Int32)) (v_refusals : (Nat → Int32)) : Option Int32 :=
  (if x1 = 0 then ga (49 : Int32) 50 (some (v_now (Int32.toNatClampNeg (49 : Int32)))) else (if x1 = 1 then (lp (fun s_54 => f_X10_count_b54 v_now s_54.2 s_54.1) N ((0 : Int32), (0 : Int32))).bind (fun e_54 => some e_54) else (if x1 = 2 then (f_X10_due N v_now).bind (fun r_due_1 => some r_due_1) else (if x1 = 3 then (lp (fun s_97 => f_X10_count_b97 v_now s_97.2 s_97.1) N ((0 : Int32), (0 : Int32))).bind (fun e_97 => some e_97) else (if x1 = 4 then ga (48 : Int32) 50 (some (v_now (Int32.toNatClampNeg (48 : Int32)))) else (if x1 = 5 then some v_rows else (if x1 = 6 then some v_lettered else (f_X10_in (Int32.toInt64 x1) (11 : Int64) (16 : Int64)).bind (fun r_in_2 => (if r_in_2 = 0 then some (-9 : Int32) else ga (x1 - (10 : Int32)) 7 (some (v_refusals (Int32.toNatClampNeg (x1 - (10 : Int32))))))))))))))
set_option maxRecDepth 100000 in
set_option maxHeartbeats 4000000 in
theorem c_X10_count (l : Launch) (D : va_G) (N : Nat) {q_this q_now q_refusals : Nat} {w_kept w_trial w_row w_letters w_dists w_left w_steps w_partners w_times w_spliced w_piece w_balances w_prices w_hands w_hand w_dealing : Value} {v_hasImage : Int32} {v_rows : Int32} {v_lettered : Int32} {v_stepsMany : Int32} {v_splicedMany : Int32} {v_most : Int32} {v_together : Int32} {v_z : Int32} {v_now : (Nat → Int32)} {v_refusals : (Nat → Int32)} {x1 : Int32} {o : Int32} (h : f_X10_count N x1 v_rows v_lettered v_now v_refusals = some o) : CT l D yX10_count cX10_count 4 (Option.some FieldType.int) 2 [.ref q_this, .int x1] (w_X10_count D q_this q_now q_refusals w_kept w_trial w_row w_letters w_dists w_left w_steps w_partners w_times w_spliced w_piece w_balances w_prices w_hands w_hand w_dealing v_hasImage v_rows v_lettered v_stepsMany v_splicedMany v_most v_together v_z v_now v_refusals) (w_X10_count D q_this q_now q_refusals w_kept w_trial w_row w_letters w_dists w_left w_steps w_partners w_times w_spliced w_piece w_balances w_prices w_hands w_hand w_dealing v_hasImage v_rows v_lettered v_stepsMany v_splicedMany v_most v_together v_z v_now v_refusals) (some (.int o)) := by
  refine CT.of mk_X10_count (Nat.le_of_ble_eq_true rfl) (fun g hl hD C E => ?_)
  subst hl
  subst hD
  unfold f_X10_count at h
  refine j_iconst C (0) dX10_count_0 ki_0 ?_
  refine j_istore_n C dX10_count_1 (by decide) ?_
  refine j_iload_n C dX10_count_2 rfl ?_
  refine j_case h (fun hc h => ?_) (fun hn_0 h => ?_)
  · refine j_tableIn C 44 (v := 0) (by rw [hc] <;> decide) dX10_count_3 (by decide) (by decide) rfl (by decide) ?_
    refine j_aload_n C dX10_count_44 rfl ?_
    refine j_get C 0 rfl rfl inX10 0 (by decide) kw_981 rfl rfl dX10_count_45 ?_
    refine j_bipush C (49) dX10_count_48 kb_49 ?_
    refine j_iaload 1 C h rfl rfl dX10_count_50 (fun h => ?_)
    have h := Option.some.inj h
    subst h
    exact j_iret C E dX10_count_51
  · refine j_case h (fun hc h => ?_) (fun hn_1 h => ?_)
    · refine j_tableIn C 52 (v := 1) (by rw [hc] <;> decide) dX10_count_3 (by decide) (by decide) rfl (by decide) ?_
      refine j_iconst C (0) dX10_count_52 ki_0 ?_
      refine j_istore_n C dX10_count_53 (by decide) ?_
      obtain ⟨e_54, hl_54, h⟩ := of_bind h
      have ha_54 : J g (w_X10_count (gD g) q_this q_now q_refusals w_kept w_trial w_row w_letters w_dists w_left w_steps w_partners w_times w_spliced w_piece w_balances w_prices w_hands w_hand w_dealing v_hasImage v_rows v_lettered v_stepsMany v_splicedMany v_most v_together v_z v_now v_refusals) [(2, .int (e_54))] 85 [] := by
        refine j_iload_n C dX10_count_85 rfl ?_
        have h := Option.some.inj h
        subst h
        exact j_iret C E dX10_count_86
      refine j_lv (lv' := [(0, .ref q_this), (2, .int ((0 : Int32))), (3, .int ((0 : Int32)))]) rfl ?_
      refine lp_ind hl_54 (fun s_54 => J g (w_X10_count (gD g) q_this q_now q_refusals w_kept w_trial w_row w_letters w_dists w_left w_steps w_partners w_times w_spliced w_piece w_balances w_prices w_hands w_hand w_dealing v_hasImage v_rows v_lettered v_stepsMany v_splicedMany v_most v_together v_z v_now v_refusals) [(0, .ref q_this), (2, .int (s_54.1)), (3, .int (s_54.2))] 54 []) (fun s_54 r_54 h hc_54 hx_54 => ?_)
      unfold f_X10_count_b54 at h
      refine j_iload_n C dX10_count_54 rfl ?_
      refine j_aload_n C dX10_count_55 rfl ?_
      refine j_get C 0 rfl rfl inX10 0 (by decide) kw_981 rfl rfl dX10_count_56 ?_
      refine j_bipush C (49) dX10_count_59 kb_49 ?_
      refine j_iaload 1 C h rfl rfl dX10_count_61 (fun h => ?_)
      refine j_icmp_ge C h 85 dX10_count_62 (by decide) (fun hc h => ?_) (fun hc h => ?_)
      · have h := Option.some.inj h
        subst h
        have h9 := hx_54 _ rfl
        subst h9
        exact j_lw ha_54 rfl
      · refine j_iload_n C dX10_count_65 rfl ?_
        refine j_aload_n C dX10_count_66 rfl ?_
        refine j_get C 0 rfl rfl inX10 0 (by decide) kw_981 rfl rfl dX10_count_67 ?_
        refine j_bipush C (40) dX10_count_70 kb_40 ?_
        refine j_iload_n C dX10_count_72 rfl ?_
        refine j_iadd C dX10_count_73 ?_
        refine j_iaload 1 C h rfl rfl dX10_count_74 (fun h => ?_)
        refine j_iload_n C dX10_count_75 rfl ?_
        refine j_ishl C dX10_count_76 ?_
        refine j_ior C dX10_count_77 ?_
        refine j_istore_n C dX10_count_78 (by decide) ?_
        refine j_inc C (1) dX10_count_79 rfl ki_1 (by decide) ?_
        refine j_goto C 54 dX10_count_82 (by decide) ?_
        have h := Option.some.inj h
        subst h
        have hc9 := hc_54 _ rfl
        exact j_lw hc9 rfl
    · refine j_case h (fun hc h => ?_) (fun hn_2 h => ?_)
      · refine j_tableIn C 87 (v := 2) (by rw [hc] <;> decide) dX10_count_3 (by decide) (by decide) rfl (by decide) ?_
        refine j_aload_n C dX10_count_87 rfl ?_
        refine j_get C 0 rfl rfl inX10 0 (by decide) kw_981 rfl rfl dX10_count_88 ?_
        obtain ⟨r_due_1, h_1, h⟩ := of_bind h
        refine j_callS1 C mk_X10_due ms_X10_due kw_1200 (c_X10_due (gl g) (gD g) N h_1) (by decide) [1] rfl rfl rfl rfl rfl (Nat.le_of_ble_eq_true rfl) dX10_count_91 ?_
        refine j_ws (ws' := (w_X10_count (gD g) q_this q_now q_refusals w_kept w_trial w_row w_letters w_dists w_left w_steps w_partners w_times w_spliced w_piece w_balances w_prices w_hands w_hand w_dealing v_hasImage v_rows v_lettered v_stepsMany v_splicedMany v_most v_together v_z v_now v_refusals)) rfl ?_
        have h := Option.some.inj h
        subst h
        exact j_iret C E dX10_count_94
      · refine j_case h (fun hc h => ?_) (fun hn_3 h => ?_)
        · refine j_tableIn C 95 (v := 3) (by rw [hc] <;> decide) dX10_count_3 (by decide) (by decide) rfl (by decide) ?_
          refine j_iconst C (0) dX10_count_95 ki_0 ?_
          refine j_istore_n C dX10_count_96 (by decide) ?_
          obtain ⟨e_97, hl_97, h⟩ := of_bind h
          have ha_97 : J g (w_X10_count (gD g) q_this q_now q_refusals w_kept w_trial w_row w_letters w_dists w_left w_steps w_partners w_times w_spliced w_piece w_balances w_prices w_hands w_hand w_dealing v_hasImage v_rows v_lettered v_stepsMany v_splicedMany v_most v_together v_z v_now v_refusals) [(2, .int (e_97))] 126 [] := by
            refine j_iload_n C dX10_count_126 rfl ?_
            have h := Option.some.inj h
            subst h
            exact j_iret C E dX10_count_127
          refine j_lv (lv' := [(0, .ref q_this), (2, .int ((0 : Int32))), (3, .int ((0 : Int32)))]) rfl ?_
          refine lp_ind hl_97 (fun s_97 => J g (w_X10_count (gD g) q_this q_now q_refusals w_kept w_trial w_row w_letters w_dists w_left w_steps w_partners w_times w_spliced w_piece w_balances w_prices w_hands w_hand w_dealing v_hasImage v_rows v_lettered v_stepsMany v_splicedMany v_most v_together v_z v_now v_refusals) [(0, .ref q_this), (2, .int (s_97.1)), (3, .int (s_97.2))] 97 []) (fun s_97 r_97 h hc_97 hx_97 => ?_)
          unfold f_X10_count_b97 at h
          refine j_iload_n C dX10_count_97 rfl ?_
          refine j_aload_n C dX10_count_98 rfl ?_
          refine j_get C 0 rfl rfl inX10 0 (by decide) kw_981 rfl rfl dX10_count_99 ?_
          refine j_bipush C (49) dX10_count_102 kb_49 ?_
          refine j_iaload 1 C h rfl rfl dX10_count_104 (fun h => ?_)
          refine j_icmp_ge C h 126 dX10_count_105 (by decide) (fun hc h => ?_) (fun hc h => ?_)
          · have h := Option.some.inj h
            subst h
            have h9 := hx_97 _ rfl
            subst h9
            exact j_lw ha_97 rfl
          · refine j_iload_n C dX10_count_108 rfl ?_
            refine j_aload_n C dX10_count_109 rfl ?_
            refine j_get C 0 rfl rfl inX10 0 (by decide) kw_981 rfl rfl dX10_count_110 ?_
            refine j_bipush C (16) dX10_count_113 kb_16 ?_
            refine j_iload_n C dX10_count_115 rfl ?_
            refine j_iadd C dX10_count_116 ?_
            refine j_iaload 1 C h rfl rfl dX10_count_117 (fun h => ?_)
            refine j_iadd C dX10_count_118 ?_
            refine j_istore_n C dX10_count_119 (by decide) ?_
            refine j_inc C (1) dX10_count_120 rfl ki_1 (by decide) ?_
            refine j_goto C 97 dX10_count_123 (by decide) ?_
            have h := Option.some.inj h
            subst h
            have hc9 := hc_97 _ rfl
            exact j_lw hc9 rfl
        · refine j_case h (fun hc h => ?_) (fun hn_4 h => ?_)
          · refine j_tableIn C 128 (v := 4) (by rw [hc] <;> decide) dX10_count_3 (by decide) (by decide) rfl (by decide) ?_
            refine j_aload_n C dX10_count_128 rfl ?_
            refine j_get C 0 rfl rfl inX10 0 (by decide) kw_981 rfl rfl dX10_count_129 ?_
            refine j_bipush C (48) dX10_count_132 kb_48 ?_
            refine j_iaload 1 C h rfl rfl dX10_count_134 (fun h => ?_)
            have h := Option.some.inj h
            subst h
            exact j_iret C E dX10_count_135
          · refine j_case h (fun hc h => ?_) (fun hn_5 h => ?_)
            · refine j_tableIn C 136 (v := 5) (by rw [hc] <;> decide) dX10_count_3 (by decide) (by decide) rfl (by decide) ?_
              refine j_aload_n C dX10_count_136 rfl ?_
              refine j_get C 0 rfl rfl inX10 6 (by decide) kw_987 rfl rfl dX10_count_137 ?_
              have h := Option.some.inj h
              subst h
              exact j_iret C E dX10_count_140
            · refine j_case h (fun hc h => ?_) (fun hn_6 h => ?_)
              · refine j_tableIn C 141 (v := 6) (by rw [hc] <;> decide) dX10_count_3 (by decide) (by decide) rfl (by decide) ?_
                refine j_aload_n C dX10_count_141 rfl ?_
                refine j_get C 0 rfl rfl inX10 8 (by decide) kw_989 rfl rfl dX10_count_142 ?_
                have h := Option.some.inj h
                subst h
                exact j_iret C E dX10_count_145
              · refine j_tableOut C 146 dX10_count_3 (by have := i32ne hn_0 (v := 0) (by decide); have := i32ne hn_1 (v := 1) (by decide); have := i32ne hn_2 (v := 2) (by decide); have := i32ne hn_3 (v := 3) (by decide); have := i32ne hn_4 (v := 4) (by decide); have := i32ne hn_5 (v := 5) (by decide); have := i32ne hn_6 (v := 6) (by decide); omega) (by decide) ?_
                refine j_iload_n C dX10_count_146 rfl ?_
                refine j_i2l C dX10_count_147 ?_
                refine j_ldc2 C kw_1425 dX10_count_148 ?_
                refine j_ldc2 C kw_1426 dX10_count_151 ?_
                obtain ⟨r_in_2, h_2, h⟩ := of_bind h
                refine j_callS1 C mk_X10_in ms_X10_in kw_1085 (c_X10_in (gl g) (gD g) h_2) (by decide) [] rfl rfl rfl rfl rfl (Nat.le_of_ble_eq_true rfl) dX10_count_154 ?_
                refine j_ws (ws' := (w_X10_count (gD g) q_this q_now q_refusals w_kept w_trial w_row w_letters w_dists w_left w_steps w_partners w_times w_spliced w_piece w_balances w_prices w_hands w_hand w_dealing v_hasImage v_rows v_lettered v_stepsMany v_splicedMany v_most v_together v_z v_now v_refusals)) rfl ?_
                refine j_if_eq C h 172 dX10_count_157 (by decide) (fun hc h => ?_) (fun hc h => ?_)
                · refine j_bipush C (-9) dX10_count_172 kb_m9 ?_
                  have h := Option.some.inj h
                  subst h
                  exact j_iret C E dX10_count_174
                · refine j_aload_n C dX10_count_160 rfl ?_
                  refine j_get C 0 rfl rfl inX10 4 (by decide) kw_985 rfl rfl dX10_count_161 ?_
                  refine j_iload_n C dX10_count_164 rfl ?_
                  refine j_bipush C (10) dX10_count_165 kb_10 ?_
                  refine j_isub C dX10_count_167 ?_
                  refine j_iaload 2 C h rfl rfl dX10_count_168 (fun h => ?_)
                  refine j_goto C 174 dX10_count_169 (by decide) ?_
                  have h := Option.some.inj h
                  subst h
                  exact j_iret C E dX10_count_174
