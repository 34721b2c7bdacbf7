def w_X10_streets (D : va_G) (q_this q_now q_refusals : Nat) (w_kept w_trial w_row w_letters w_dists w_left w_steps w_partners w_times w_spliced w_piece w_balances w_prices w_hands w_hand w_dealing : Value) (v_hasImage : Int32) (v_rows : Int32) (v_lettered : Int32) (v_stepsMany : Int32) (v_splicedMany : Int32) (v_most : Int32) (v_together : Int32) (v_z : Int32) (v_now : (Nat → Int32)) (v_refusals : (Nat → Int32)) : va_W := [(q_this, .inr (9, [.ref q_now, w_kept, w_trial, .int v_hasImage, .ref q_refusals, w_row, .int v_rows, w_letters, .int v_lettered, w_dists, w_left, w_steps, .int v_stepsMany, w_partners, w_times, w_spliced, .int v_splicedMany, w_piece, w_balances, w_prices, w_hands, w_hand, w_dealing, .int v_most, .int v_together, .int v_z])), (q_now, .inl (D.1 100, 50, .inl v_now)), (q_refusals, .inl (D.1 100, 7, .inl v_refusals))]
theorem w_X10_streets_g0 {D : va_G} {q_this : Nat} {q_now : Nat} {q_refusals : Nat} {w_kept : Value} {w_trial : Value} {w_row : Value} {w_letters : Value} {w_dists : Value} {w_left : Value} {w_steps : Value} {w_partners : Value} {w_times : Value} {w_spliced : Value} {w_piece : Value} {w_balances : Value} {w_prices : Value} {w_hands : Value} {w_hand : Value} {w_dealing : Value} {v_hasImage : Int32} {v_rows : Int32} {v_lettered : Int32} {v_stepsMany : Int32} {v_splicedMany : Int32} {v_most : Int32} {v_together : Int32} {v_z : Int32} {v_now : (Nat → Int32)} {v_refusals : (Nat → Int32)} : (w_X10_streets D q_this q_now q_refusals w_kept w_trial w_row w_letters w_dists w_left w_steps w_partners w_times w_spliced w_piece w_balances w_prices w_hands w_hand w_dealing v_hasImage v_rows v_lettered v_stepsMany v_splicedMany v_most v_together v_z v_now v_refusals)[0]? = some (q_this, .inr (9, [.ref q_now, w_kept, w_trial, .int v_hasImage, .ref q_refusals, w_row, .int v_rows, w_letters, .int v_lettered, w_dists, w_left, w_steps, .int v_stepsMany, w_partners, w_times, w_spliced, .int v_splicedMany, w_piece, w_balances, w_prices, w_hands, w_hand, w_dealing, .int v_most, .int v_together, .int v_z])) := rfl
theorem w_X10_streets_s0 {D : va_G} {q_this : Nat} {q_now : Nat} {q_refusals : Nat} {w_kept : Value} {w_trial : Value} {w_row : Value} {w_letters : Value} {w_dists : Value} {w_left : Value} {w_steps : Value} {w_partners : Value} {w_times : Value} {w_spliced : Value} {w_piece : Value} {w_balances : Value} {w_prices : Value} {w_hands : Value} {w_hand : Value} {w_dealing : Value} {v_hasImage : Int32} {v_rows : Int32} {v_lettered : Int32} {v_stepsMany : Int32} {v_splicedMany : Int32} {v_most : Int32} {v_together : Int32} {v_z : Int32} {v_now : (Nat → Int32)} {v_refusals : (Nat → Int32)} {v_hasImage' : Int32} {v_rows' : Int32} {v_lettered' : Int32} {v_stepsMany' : Int32} {v_splicedMany' : Int32} {v_most' : Int32} {v_together' : Int32} {v_z' : Int32} : (w_X10_streets D q_this q_now q_refusals w_kept w_trial w_row w_letters w_dists w_left w_steps w_partners w_times w_spliced w_piece w_balances w_prices w_hands w_hand w_dealing v_hasImage v_rows v_lettered v_stepsMany v_splicedMany v_most v_together v_z v_now v_refusals).set 0 (q_this, .inr (9, [.ref q_now, w_kept, w_trial, .int v_hasImage', .ref q_refusals, w_row, .int v_rows', w_letters, .int v_lettered', w_dists, w_left, w_steps, .int v_stepsMany', w_partners, w_times, w_spliced, .int v_splicedMany', w_piece, w_balances, w_prices, w_hands, w_hand, w_dealing, .int v_most', .int v_together', .int v_z'])) = (w_X10_streets D q_this q_now q_refusals w_kept w_trial w_row w_letters w_dists w_left w_steps w_partners w_times w_spliced w_piece w_balances w_prices w_hands w_hand w_dealing v_hasImage' v_rows' v_lettered' v_stepsMany' v_splicedMany' v_most' v_together' v_z' v_now v_refusals) := rfl
theorem w_X10_streets_g1 {D : va_G} {q_this : Nat} {q_now : Nat} {q_refusals : Nat} {w_kept : Value} {w_trial : Value} {w_row : Value} {w_letters : Value} {w_dists : Value} {w_left : Value} {w_steps : Value} {w_partners : Value} {w_times : Value} {w_spliced : Value} {w_piece : Value} {w_balances : Value} {w_prices : Value} {w_hands : Value} {w_hand : Value} {w_dealing : Value} {v_hasImage : Int32} {v_rows : Int32} {v_lettered : Int32} {v_stepsMany : Int32} {v_splicedMany : Int32} {v_most : Int32} {v_together : Int32} {v_z : Int32} {v_now : (Nat → Int32)} {v_refusals : (Nat → Int32)} : (w_X10_streets D q_this q_now q_refusals w_kept w_trial w_row w_letters w_dists w_left w_steps w_partners w_times w_spliced w_piece w_balances w_prices w_hands w_hand w_dealing v_hasImage v_rows v_lettered v_stepsMany v_splicedMany v_most v_together v_z v_now v_refusals)[1]? = some (q_now, .inl (D.1 100, 50, .inl v_now)) := rfl
theorem w_X10_streets_s1 {D : va_G} {q_this : Nat} {q_now : Nat} {q_refusals : Nat} {w_kept : Value} {w_trial : Value} {w_row : Value} {w_letters : Value} {w_dists : Value} {w_left : Value} {w_steps : Value} {w_partners : Value} {w_times : Value} {w_spliced : Value} {w_piece : Value} {w_balances : Value} {w_prices : Value} {w_hands : Value} {w_hand : Value} {w_dealing : Value} {v_hasImage : Int32} {v_rows : Int32} {v_lettered : Int32} {v_stepsMany : Int32} {v_splicedMany : Int32} {v_most : Int32} {v_together : Int32} {v_z : Int32} {v_now : (Nat → Int32)} {v_refusals : (Nat → Int32)} {v_now' : (Nat → Int32)} : (w_X10_streets D q_this q_now q_refusals w_kept w_trial w_row w_letters w_dists w_left w_steps w_partners w_times w_spliced w_piece w_balances w_prices w_hands w_hand w_dealing v_hasImage v_rows v_lettered v_stepsMany v_splicedMany v_most v_together v_z v_now v_refusals).set 1 (q_now, .inl (D.1 100, 50, .inl v_now')) = (w_X10_streets D q_this q_now q_refusals w_kept w_trial w_row w_letters w_dists w_left w_steps w_partners w_times w_spliced w_piece w_balances w_prices w_hands w_hand w_dealing v_hasImage v_rows v_lettered v_stepsMany v_splicedMany v_most v_together v_z v_now' v_refusals) := rfl
theorem w_X10_streets_g2 {D : va_G} {q_this : Nat} {q_now : Nat} {q_refusals : Nat} {w_kept : Value} {w_trial : Value} {w_row : Value} {w_letters : Value} {w_dists : Value} {w_left : Value} {w_steps : Value} {w_partners : Value} {w_times : Value} {w_spliced : Value} {w_piece : Value} {w_balances : Value} {w_prices : Value} {w_hands : Value} {w_hand : Value} {w_dealing : Value} {v_hasImage : Int32} {v_rows : Int32} {v_lettered : Int32} {v_stepsMany : Int32} {v_splicedMany : Int32} {v_most : Int32} {v_together : Int32} {v_z : Int32} {v_now : (Nat → Int32)} {v_refusals : (Nat → Int32)} : (w_X10_streets D q_this q_now q_refusals w_kept w_trial w_row w_letters w_dists w_left w_steps w_partners w_times w_spliced w_piece w_balances w_prices w_hands w_hand w_dealing v_hasImage v_rows v_lettered v_stepsMany v_splicedMany v_most v_together v_z v_now v_refusals)[2]? = some (q_refusals, .inl (D.1 100, 7, .inl v_refusals)) := rfl
theorem w_X10_streets_s2 {D : va_G} {q_this : Nat} {q_now : Nat} {q_refusals : Nat} {w_kept : Value} {w_trial : Value} {w_row : Value} {w_letters : Value} {w_dists : Value} {w_left : Value} {w_steps : Value} {w_partners : Value} {w_times : Value} {w_spliced : Value} {w_piece : Value} {w_balances : Value} {w_prices : Value} {w_hands : Value} {w_hand : Value} {w_dealing : Value} {v_hasImage : Int32} {v_rows : Int32} {v_lettered : Int32} {v_stepsMany : Int32} {v_splicedMany : Int32} {v_most : Int32} {v_together : Int32} {v_z : Int32} {v_now : (Nat → Int32)} {v_refusals : (Nat → Int32)} {v_refusals' : (Nat → Int32)} : (w_X10_streets D q_this q_now q_refusals w_kept w_trial w_row w_letters w_dists w_left w_steps w_partners w_times w_spliced w_piece w_balances w_prices w_hands w_hand w_dealing v_hasImage v_rows v_lettered v_stepsMany v_splicedMany v_most v_together v_z v_now v_refusals).set 2 (q_refusals, .inl (D.1 100, 7, .inl v_refusals')) = (w_X10_streets D q_this q_now q_refusals w_kept w_trial w_row w_letters w_dists w_left w_steps w_partners w_times w_spliced w_piece w_balances w_prices w_hands w_hand w_dealing v_hasImage v_rows v_lettered v_stepsMany v_splicedMany v_most v_together v_z v_now v_refusals') := rfl
theorem w_X10_streets_a {D : va_G} {q_this : Nat} {q_now : Nat} {q_refusals : Nat} {w_kept : Value} {w_trial : Value} {w_row : Value} {w_letters : Value} {w_dists : Value} {w_left : Value} {w_steps : Value} {w_partners : Value} {w_times : Value} {w_spliced : Value} {w_piece : Value} {w_balances : Value} {w_prices : Value} {w_hands : Value} {w_hand : Value} {w_dealing : Value} {v_hasImage : Int32} {v_rows : Int32} {v_lettered : Int32} {v_stepsMany : Int32} {v_splicedMany : Int32} {v_most : Int32} {v_together : Int32} {v_z : Int32} {v_now : (Nat → Int32)} {v_refusals : (Nat → Int32)} : (w_X10_streets D q_this q_now q_refusals w_kept w_trial w_row w_letters w_dists w_left w_steps w_partners w_times w_spliced w_piece w_balances w_prices w_hands w_hand w_dealing v_hasImage v_rows v_lettered v_stepsMany v_splicedMany v_most v_together v_z v_now v_refusals).map (fun q => q.1) = [q_this, q_now, q_refusals] := rfl
def f_X10_streets_j2 (v_now_j2 : (Nat → Int32)) (v_refusals_j2 : (Nat → Int32)) : Option (Int32 × (Nat → Int32) × (Nat → Int32)) :=
  (f_X10_refused (-1 : Int32) v_refusals_j2).bind (fun r_refused_3 => some (r_refused_3.1, v_now_j2, r_refused_3.2))
def f_X10_streets (x1 : Int32) (x2 : Int32) (x3 : Int32) (v_now : (Nat → Int32)) (v_refusals : (Nat → Int32)) : Option (Int32 × (Nat → Int32) × (Nat → Int32)) :=
  (f_X10_isCorner x1).bind (fun r_isCorner_1 => (if r_isCorner_1 = 0 then f_X10_streets_j2 v_now v_refusals else (f_X10_isCorner x2).bind (fun r_isCorner_4 => (if r_isCorner_4 = 0 then f_X10_streets_j2 v_now v_refusals else (if x1 = x2 then (f_X10_refused (-3 : Int32) v_refusals).bind (fun r_refused_8 => some (r_refused_8.1, v_now, r_refused_8.2)) else (if (1 : Int32) ≤ x3 then (f_X10_comes x1 x2 x3 v_now).bind (fun r_comes_5 => (if r_comes_5.1 = 0 then (f_X10_refused (-6 : Int32) v_refusals).bind (fun r_refused_6 => some (r_refused_6.1, r_comes_5.2, r_refused_6.2)) else ga (49 : Int32) 50 (some ((r_comes_5.2 (Int32.toNatClampNeg (49 : Int32))) - (1 : Int32), r_comes_5.2, v_refusals)))) else (f_X10_refused (-4 : Int32) v_refusals).bind (fun r_refused_7 => some (r_refused_7.1, v_now, r_refused_7.2))))))))
set_option maxRecDepth 100000 in
set_option maxHeartbeats 4000000 in
theorem c_X10_streets (l : Launch) (D : va_G) {q_this q_now q_refusals : Nat} {w_kept w_trial w_row w_letters w_dists w_left w_steps w_partners w_times w_spliced w_piece w_balances w_prices w_hands w_hand w_dealing : Value} {v_hasImage : Int32} {v_rows : Int32} {v_lettered : Int32} {v_stepsMany : Int32} {v_splicedMany : Int32} {v_most : Int32} {v_together : Int32} {v_z : Int32} {v_now : (Nat → Int32)} {v_refusals : (Nat → Int32)} {x1 : Int32} {x2 : Int32} {x3 : Int32} {o : (Int32 × (Nat → Int32) × (Nat → Int32))} (h : f_X10_streets x1 x2 x3 v_now v_refusals = some o) : CT l D yX10_streets cX10_streets 4 (Option.some FieldType.int) 3 [.ref q_this, .int x1, .int x2, .int x3] (w_X10_streets D q_this q_now q_refusals w_kept w_trial w_row w_letters w_dists w_left w_steps w_partners w_times w_spliced w_piece w_balances w_prices w_hands w_hand w_dealing v_hasImage v_rows v_lettered v_stepsMany v_splicedMany v_most v_together v_z v_now v_refusals) (w_X10_streets D q_this q_now q_refusals w_kept w_trial w_row w_letters w_dists w_left w_steps w_partners w_times w_spliced w_piece w_balances w_prices w_hands w_hand w_dealing v_hasImage v_rows v_lettered v_stepsMany v_splicedMany v_most v_together v_z o.2.1 o.2.2) (some (.int o.1)) := by
  refine CT.of mk_X10_streets (Nat.le_of_ble_eq_true rfl) (fun g hl hD C E => ?_)
  subst hl
  subst hD
  unfold f_X10_streets at h
  refine j_iload_n C dX10_streets_0 rfl ?_
  obtain ⟨r_isCorner_1, h_1, h⟩ := of_bind h
  refine j_callS1 C mk_X10_isCorner ms_X10_isCorner kw_1108 (c_X10_isCorner (gl g) (gD g) h_1) (by decide) [] hC_nil rfl (w_X10_isCorner_a.trans w_X10_isCorner_a.symm) rfl rfl (Nat.le_of_ble_eq_true rfl) dX10_streets_1 wput_nil ?_
  have hj_2 : ∀ (v_now_j2 : (Nat → Int32)) (v_refusals_j2 : (Nat → Int32)), f_X10_streets_j2 v_now_j2 v_refusals_j2 = some o → J g (w_X10_streets (gD g) q_this q_now q_refusals w_kept w_trial w_row w_letters w_dists w_left w_steps w_partners w_times w_spliced w_piece w_balances w_prices w_hands w_hand w_dealing v_hasImage v_rows v_lettered v_stepsMany v_splicedMany v_most v_together v_z v_now_j2 v_refusals_j2) [(0, .ref q_this)] 14 [] := by
    intro v_now_j2 v_refusals_j2 h
    unfold f_X10_streets_j2 at h
    refine j_aload_n C dX10_streets_14 rfl ?_
    refine j_iconst C (-1) dX10_streets_15 ki_m1 ?_
    obtain ⟨r_refused_3, h_3, h⟩ := of_bind h
    refine j_callV1 C mk_X10_refused ms_X10_refused kw_1064 (c_X10_refused (gl g) (gD g) h_3) (by decide) 0 w_X10_streets_g0 rfl [0, 2] (hC_cons w_X10_streets_g0 (hC_cons w_X10_streets_g2 hC_nil)) rfl (w_X10_refused_a.trans w_X10_refused_a.symm) rfl rfl (Nat.le_of_ble_eq_true rfl) dX10_streets_16 (wput_cons w_X10_streets_s0 (wput_cons w_X10_streets_s2 wput_nil)) ?_
    have h := Option.some.inj h
    subst h
    exact j_iret C E dX10_streets_19
  refine j_if_eq C h 14 dX10_streets_4 (by decide) (fun hc h => ?_) (fun hc h => ?_)
  · have hj9 := hj_2 _ _ h
    exact j_lw hj9 rfl
  · refine j_iload_n C dX10_streets_7 rfl ?_
    obtain ⟨r_isCorner_4, h_4, h⟩ := of_bind h
    refine j_callS1 C mk_X10_isCorner ms_X10_isCorner kw_1108 (c_X10_isCorner (gl g) (gD g) h_4) (by decide) [] hC_nil rfl (w_X10_isCorner_a.trans w_X10_isCorner_a.symm) rfl rfl (Nat.le_of_ble_eq_true rfl) dX10_streets_8 wput_nil ?_
    refine j_if_ne C h 20 dX10_streets_11 (by decide) (fun hc h => ?_) (fun hc h => ?_)
    · have hj9 := hj_2 _ _ h
      exact j_lw hj9 rfl
    · refine j_iload_n C dX10_streets_20 rfl ?_
      refine j_iload_n C dX10_streets_21 rfl ?_
      refine j_icmp_ne C h 32 dX10_streets_22 (by decide) (fun hc h => ?_) (fun hc h => ?_)
      · refine j_aload_n C dX10_streets_25 rfl ?_
        refine j_bipush C (-3) dX10_streets_26 kb_m3 ?_
        obtain ⟨r_refused_8, h_8, h⟩ := of_bind h
        refine j_callV1 C mk_X10_refused ms_X10_refused kw_1064 (c_X10_refused (gl g) (gD g) h_8) (by decide) 0 w_X10_streets_g0 rfl [0, 2] (hC_cons w_X10_streets_g0 (hC_cons w_X10_streets_g2 hC_nil)) rfl (w_X10_refused_a.trans w_X10_refused_a.symm) rfl rfl (Nat.le_of_ble_eq_true rfl) dX10_streets_28 (wput_cons w_X10_streets_s0 (wput_cons w_X10_streets_s2 wput_nil)) ?_
        have h := Option.some.inj h
        subst h
        exact j_iret C E dX10_streets_31
      · refine j_iload_n C dX10_streets_32 rfl ?_
        refine j_iconst C (1) dX10_streets_33 ki_1 ?_
        refine j_icmp_ge C h 44 dX10_streets_34 (by decide) (fun hc h => ?_) (fun hc h => ?_)
        · refine j_aload_n C dX10_streets_44 rfl ?_
          refine j_get C 0 w_X10_streets_g0 rfl inX10 0 (by decide) kw_981 rfl rfl dX10_streets_45 ?_
          refine j_iload_n C dX10_streets_48 rfl ?_
          refine j_iload_n C dX10_streets_49 rfl ?_
          refine j_iload_n C dX10_streets_50 rfl ?_
          obtain ⟨r_comes_5, h_5, h⟩ := of_bind h
          refine j_callS1 C mk_X10_comes ms_X10_comes kw_1105 (c_X10_comes (gl g) (gD g) h_5) (by decide) [1] (hC_cons w_X10_streets_g1 hC_nil) rfl (w_X10_comes_a.trans w_X10_comes_a.symm) rfl rfl (Nat.le_of_ble_eq_true rfl) dX10_streets_51 (wput_cons w_X10_streets_s1 wput_nil) ?_
          refine j_if_eq C h 69 dX10_streets_54 (by decide) (fun hc h => ?_) (fun hc h => ?_)
          · refine j_aload_n C dX10_streets_69 rfl ?_
            refine j_bipush C (-6) dX10_streets_70 kb_m6 ?_
            obtain ⟨r_refused_6, h_6, h⟩ := of_bind h
            refine j_callV1 C mk_X10_refused ms_X10_refused kw_1064 (c_X10_refused (gl g) (gD g) h_6) (by decide) 0 w_X10_streets_g0 rfl [0, 2] (hC_cons w_X10_streets_g0 (hC_cons w_X10_streets_g2 hC_nil)) rfl (w_X10_refused_a.trans w_X10_refused_a.symm) rfl rfl (Nat.le_of_ble_eq_true rfl) dX10_streets_72 (wput_cons w_X10_streets_s0 (wput_cons w_X10_streets_s2 wput_nil)) ?_
            have h := Option.some.inj h
            subst h
            exact j_iret C E dX10_streets_75
          · refine j_aload_n C dX10_streets_57 rfl ?_
            refine j_get C 0 w_X10_streets_g0 rfl inX10 0 (by decide) kw_981 rfl rfl dX10_streets_58 ?_
            refine j_bipush C (49) dX10_streets_61 kb_49 ?_
            refine j_iaload 1 C h w_X10_streets_g1 rfl dX10_streets_63 (fun h => ?_)
            refine j_iconst C (1) dX10_streets_64 ki_1 ?_
            refine j_isub C dX10_streets_65 ?_
            refine j_goto C 75 dX10_streets_66 (by decide) ?_
            have h := Option.some.inj h
            subst h
            exact j_iret C E dX10_streets_75
        · refine j_aload_n C dX10_streets_37 rfl ?_
          refine j_bipush C (-4) dX10_streets_38 kb_m4 ?_
          obtain ⟨r_refused_7, h_7, h⟩ := of_bind h
          refine j_callV1 C mk_X10_refused ms_X10_refused kw_1064 (c_X10_refused (gl g) (gD g) h_7) (by decide) 0 w_X10_streets_g0 rfl [0, 2] (hC_cons w_X10_streets_g0 (hC_cons w_X10_streets_g2 hC_nil)) rfl (w_X10_refused_a.trans w_X10_refused_a.symm) rfl rfl (Nat.le_of_ble_eq_true rfl) dX10_streets_40 (wput_cons w_X10_streets_s0 (wput_cons w_X10_streets_s2 wput_nil)) ?_
          have h := Option.some.inj h
          subst h
          exact j_iret C E dX10_streets_43

def w_X10_turns (D : va_G) (q_this q_now q_refusals : Nat) (w_kept w_trial w_row w_letters w_dists w_left w_steps w_partners w_times w_spliced w_piece w_balances w_prices w_hands w_hand w_dealing : Value) (v_hasImage : Int32) (v_rows : Int32) (v_lettered : Int32) (v_stepsMany : Int32) (v_splicedMany : Int32) (v_most : Int32) (v_together : Int32) (v_z : Int32) (v_now : (Nat → Int32)) (v_refusals : (Nat → Int32)) : va_W := [(q_this, .inr (9, [.ref q_now, w_kept, w_trial, .int v_hasImage, .ref q_refusals, w_row, .int v_rows, w_letters, .int v_lettered, w_dists, w_left, w_steps, .int v_stepsMany, w_partners, w_times, w_spliced, .int v_splicedMany, w_piece, w_balances, w_prices, w_hands, w_hand, w_dealing, .int v_most, .int v_together, .int v_z])), (q_now, .inl (D.1 100, 50, .inl v_now)), (q_refusals, .inl (D.1 100, 7, .inl v_refusals))]
theorem w_X10_turns_g0 {D : va_G} {q_this : Nat} {q_now : Nat} {q_refusals : Nat} {w_kept : Value} {w_trial : Value} {w_row : Value} {w_letters : Value} {w_dists : Value} {w_left : Value} {w_steps : Value} {w_partners : Value} {w_times : Value} {w_spliced : Value} {w_piece : Value} {w_balances : Value} {w_prices : Value} {w_hands : Value} {w_hand : Value} {w_dealing : Value} {v_hasImage : Int32} {v_rows : Int32} {v_lettered : Int32} {v_stepsMany : Int32} {v_splicedMany : Int32} {v_most : Int32} {v_together : Int32} {v_z : Int32} {v_now : (Nat → Int32)} {v_refusals : (Nat → Int32)} : (w_X10_turns D q_this q_now q_refusals w_kept w_trial w_row w_letters w_dists w_left w_steps w_partners w_times w_spliced w_piece w_balances w_prices w_hands w_hand w_dealing v_hasImage v_rows v_lettered v_stepsMany v_splicedMany v_most v_together v_z v_now v_refusals)[0]? = some (q_this, .inr (9, [.ref q_now, w_kept, w_trial, .int v_hasImage, .ref q_refusals, w_row, .int v_rows, w_letters, .int v_lettered, w_dists, w_left, w_steps, .int v_stepsMany, w_partners, w_times, w_spliced, .int v_splicedMany, w_piece, w_balances, w_prices, w_hands, w_hand, w_dealing, .int v_most, .int v_together, .int v_z])) := rfl
theorem w_X10_turns_s0 {D : va_G} {q_this : Nat} {q_now : Nat} {q_refusals : Nat} {w_kept : Value} {w_trial : Value} {w_row : Value} {w_letters : Value} {w_dists : Value} {w_left : Value} {w_steps : Value} {w_partners : Value} {w_times : Value} {w_spliced : Value} {w_piece : Value} {w_balances : Value} {w_prices : Value} {w_hands : Value} {w_hand : Value} {w_dealing : Value} {v_hasImage : Int32} {v_rows : Int32} {v_lettered : Int32} {v_stepsMany : Int32} {v_splicedMany : Int32} {v_most : Int32} {v_together : Int32} {v_z : Int32} {v_now : (Nat → Int32)} {v_refusals : (Nat → Int32)} {v_hasImage' : Int32} {v_rows' : Int32} {v_lettered' : Int32} {v_stepsMany' : Int32} {v_splicedMany' : Int32} {v_most' : Int32} {v_together' : Int32} {v_z' : Int32} : (w_X10_turns D q_this q_now q_refusals w_kept w_trial w_row w_letters w_dists w_left w_steps w_partners w_times w_spliced w_piece w_balances w_prices w_hands w_hand w_dealing v_hasImage v_rows v_lettered v_stepsMany v_splicedMany v_most v_together v_z v_now v_refusals).set 0 (q_this, .inr (9, [.ref q_now, w_kept, w_trial, .int v_hasImage', .ref q_refusals, w_row, .int v_rows', w_letters, .int v_lettered', w_dists, w_left, w_steps, .int v_stepsMany', w_partners, w_times, w_spliced, .int v_splicedMany', w_piece, w_balances, w_prices, w_hands, w_hand, w_dealing, .int v_most', .int v_together', .int v_z'])) = (w_X10_turns D q_this q_now q_refusals w_kept w_trial w_row w_letters w_dists w_left w_steps w_partners w_times w_spliced w_piece w_balances w_prices w_hands w_hand w_dealing v_hasImage' v_rows' v_lettered' v_stepsMany' v_splicedMany' v_most' v_together' v_z' v_now v_refusals) := rfl
theorem w_X10_turns_g1 {D : va_G} {q_this : Nat} {q_now : Nat} {q_refusals : Nat} {w_kept : Value} {w_trial : Value} {w_row : Value} {w_letters : Value} {w_dists : Value} {w_left : Value} {w_steps : Value} {w_partners : Value} {w_times : Value} {w_spliced : Value} {w_piece : Value} {w_balances : Value} {w_prices : Value} {w_hands : Value} {w_hand : Value} {w_dealing : Value} {v_hasImage : Int32} {v_rows : Int32} {v_lettered : Int32} {v_stepsMany : Int32} {v_splicedMany : Int32} {v_most : Int32} {v_together : Int32} {v_z : Int32} {v_now : (Nat → Int32)} {v_refusals : (Nat → Int32)} : (w_X10_turns D q_this q_now q_refusals w_kept w_trial w_row w_letters w_dists w_left w_steps w_partners w_times w_spliced w_piece w_balances w_prices w_hands w_hand w_dealing v_hasImage v_rows v_lettered v_stepsMany v_splicedMany v_most v_together v_z v_now v_refusals)[1]? = some (q_now, .inl (D.1 100, 50, .inl v_now)) := rfl
theorem w_X10_turns_s1 {D : va_G} {q_this : Nat} {q_now : Nat} {q_refusals : Nat} {w_kept : Value} {w_trial : Value} {w_row : Value} {w_letters : Value} {w_dists : Value} {w_left : Value} {w_steps : Value} {w_partners : Value} {w_times : Value} {w_spliced : Value} {w_piece : Value} {w_balances : Value} {w_prices : Value} {w_hands : Value} {w_hand : Value} {w_dealing : Value} {v_hasImage : Int32} {v_rows : Int32} {v_lettered : Int32} {v_stepsMany : Int32} {v_splicedMany : Int32} {v_most : Int32} {v_together : Int32} {v_z : Int32} {v_now : (Nat → Int32)} {v_refusals : (Nat → Int32)} {v_now' : (Nat → Int32)} : (w_X10_turns D q_this q_now q_refusals w_kept w_trial w_row w_letters w_dists w_left w_steps w_partners w_times w_spliced w_piece w_balances w_prices w_hands w_hand w_dealing v_hasImage v_rows v_lettered v_stepsMany v_splicedMany v_most v_together v_z v_now v_refusals).set 1 (q_now, .inl (D.1 100, 50, .inl v_now')) = (w_X10_turns D q_this q_now q_refusals w_kept w_trial w_row w_letters w_dists w_left w_steps w_partners w_times w_spliced w_piece w_balances w_prices w_hands w_hand w_dealing v_hasImage v_rows v_lettered v_stepsMany v_splicedMany v_most v_together v_z v_now' v_refusals) := rfl
theorem w_X10_turns_g2 {D : va_G} {q_this : Nat} {q_now : Nat} {q_refusals : Nat} {w_kept : Value} {w_trial : Value} {w_row : Value} {w_letters : Value} {w_dists : Value} {w_left : Value} {w_steps : Value} {w_partners : Value} {w_times : Value} {w_spliced : Value} {w_piece : Value} {w_balances : Value} {w_prices : Value} {w_hands : Value} {w_hand : Value} {w_dealing : Value} {v_hasImage : Int32} {v_rows : Int32} {v_lettered : Int32} {v_stepsMany : Int32} {v_splicedMany : Int32} {v_most : Int32} {v_together : Int32} {v_z : Int32} {v_now : (Nat → Int32)} {v_refusals : (Nat → Int32)} : (w_X10_turns D q_this q_now q_refusals w_kept w_trial w_row w_letters w_dists w_left w_steps w_partners w_times w_spliced w_piece w_balances w_prices w_hands w_hand w_dealing v_hasImage v_rows v_lettered v_stepsMany v_splicedMany v_most v_together v_z v_now v_refusals)[2]? = some (q_refusals, .inl (D.1 100, 7, .inl v_refusals)) := rfl
theorem w_X10_turns_s2 {D : va_G} {q_this : Nat} {q_now : Nat} {q_refusals : Nat} {w_kept : Value} {w_trial : Value} {w_row : Value} {w_letters : Value} {w_dists : Value} {w_left : Value} {w_steps : Value} {w_partners : Value} {w_times : Value} {w_spliced : Value} {w_piece : Value} {w_balances : Value} {w_prices : Value} {w_hands : Value} {w_hand : Value} {w_dealing : Value} {v_hasImage : Int32} {v_rows : Int32} {v_lettered : Int32} {v_stepsMany : Int32} {v_splicedMany : Int32} {v_most : Int32} {v_together : Int32} {v_z : Int32} {v_now : (Nat → Int32)} {v_refusals : (Nat → Int32)} {v_refusals' : (Nat → Int32)} : (w_X10_turns D q_this q_now q_refusals w_kept w_trial w_row w_letters w_dists w_left w_steps w_partners w_times w_spliced w_piece w_balances w_prices w_hands w_hand w_dealing v_hasImage v_rows v_lettered v_stepsMany v_splicedMany v_most v_together v_z v_now v_refusals).set 2 (q_refusals, .inl (D.1 100, 7, .inl v_refusals')) = (w_X10_turns D q_this q_now q_refusals w_kept w_trial w_row w_letters w_dists w_left w_steps w_partners w_times w_spliced w_piece w_balances w_prices w_hands w_hand w_dealing v_hasImage v_rows v_lettered v_stepsMany v_splicedMany v_most v_together v_z v_now v_refusals') := rfl
theorem w_X10_turns_a {D : va_G} {q_this : Nat} {q_now : Nat} {q_refusals : Nat} {w_kept : Value} {w_trial : Value} {w_row : Value} {w_letters : Value} {w_dists : Value} {w_left : Value} {w_steps : Value} {w_partners : Value} {w_times : Value} {w_spliced : Value} {w_piece : Value} {w_balances : Value} {w_prices : Value} {w_hands : Value} {w_hand : Value} {w_dealing : Value} {v_hasImage : Int32} {v_rows : Int32} {v_lettered : Int32} {v_stepsMany : Int32} {v_splicedMany : Int32} {v_most : Int32} {v_together : Int32} {v_z : Int32} {v_now : (Nat → Int32)} {v_refusals : (Nat → Int32)} : (w_X10_turns D q_this q_now q_refusals w_kept w_trial w_row w_letters w_dists w_left w_steps w_partners w_times w_spliced w_piece w_balances w_prices w_hands w_hand w_dealing v_hasImage v_rows v_lettered v_stepsMany v_splicedMany v_most v_together v_z v_now v_refusals).map (fun q => q.1) = [q_this, q_now, q_refusals] := rfl
def f_X10_turns (x1 : Int32) (v_now : (Nat → Int32)) (v_refusals : (Nat → Int32)) : Option (Int32 × (Nat → Int32) × (Nat → Int32)) :=
  (f_X10_isStreet x1 v_now).bind (fun r_isStreet_1 => (if r_isStreet_1 = 0 then (f_X10_refused (-1 : Int32) v_refusals).bind (fun r_refused_2 => some (r_refused_2.1, v_now, r_refused_2.2)) else ga ((40 : Int32) + x1) 50 (ga ((40 : Int32) + x1) 50 (ga ((40 : Int32) + x1) 50 (some ((upd v_now (Int32.toNatClampNeg ((40 : Int32) + x1)) ((1 : Int32) - (v_now (Int32.toNatClampNeg ((40 : Int32) + x1))))) (Int32.toNatClampNeg ((40 : Int32) + x1)), upd v_now (Int32.toNatClampNeg ((40 : Int32) + x1)) ((1 : Int32) - (v_now (Int32.toNatClampNeg ((40 : Int32) + x1)))), v_refusals))))))
set_option maxRecDepth 100000 in
set_option maxHeartbeats 4000000 in
theorem c_X10_turns (l : Launch) (D : va_G) {q_this q_now q_refusals : Nat} {w_kept w_trial w_row w_letters w_dists w_left w_steps w_partners w_times w_spliced w_piece w_balances w_prices w_hands w_hand w_dealing : Value} {v_hasImage : Int32} {v_rows : Int32} {v_lettered : Int32} {v_stepsMany : Int32} {v_splicedMany : Int32} {v_most : Int32} {v_together : Int32} {v_z : Int32} {v_now : (Nat → Int32)} {v_refusals : (Nat → Int32)} {x1 : Int32} {o : (Int32 × (Nat → Int32) × (Nat → Int32))} (h : f_X10_turns x1 v_now v_refusals = some o) : CT l D yX10_turns cX10_turns 2 (Option.some FieldType.int) 2 [.ref q_this, .int x1] (w_X10_turns D q_this q_now q_refusals w_kept w_trial w_row w_letters w_dists w_left w_steps w_partners w_times w_spliced w_piece w_balances w_prices w_hands w_hand w_dealing v_hasImage v_rows v_lettered v_stepsMany v_splicedMany v_most v_together v_z v_now v_refusals) (w_X10_turns D q_this q_now q_refusals w_kept w_trial w_row w_letters w_dists w_left w_steps w_partners w_times w_spliced w_piece w_balances w_prices w_hands w_hand w_dealing v_hasImage v_rows v_lettered v_stepsMany v_splicedMany v_most v_together v_z o.2.1 o.2.2) (some (.int o.1)) := by
  refine CT.of mk_X10_turns (Nat.le_of_ble_eq_true rfl) (fun g hl hD C E => ?_)
  subst hl
  subst hD
  unfold f_X10_turns at h
  refine j_aload_n C dX10_turns_0 rfl ?_
  refine j_get C 0 w_X10_turns_g0 rfl inX10 0 (by decide) kw_981 rfl rfl dX10_turns_1 ?_
  refine j_iload_n C dX10_turns_4 rfl ?_
  obtain ⟨r_isStreet_1, h_1, h⟩ := of_bind h
  refine j_callS1 C mk_X10_isStreet ms_X10_isStreet kw_1113 (c_X10_isStreet (gl g) (gD g) h_1) (by decide) [1] (hC_cons w_X10_turns_g1 hC_nil) rfl (w_X10_isStreet_a.trans w_X10_isStreet_a.symm) rfl rfl (Nat.le_of_ble_eq_true rfl) dX10_turns_5 (wput_cons w_X10_turns_s1 wput_nil) ?_
  refine j_if_ne C h 17 dX10_turns_8 (by decide) (fun hc h => ?_) (fun hc h => ?_)
  · refine j_aload_n C dX10_turns_11 rfl ?_
    refine j_iconst C (-1) dX10_turns_12 ki_m1 ?_
    obtain ⟨r_refused_2, h_2, h⟩ := of_bind h
    refine j_callV1 C mk_X10_refused ms_X10_refused kw_1064 (c_X10_refused (gl g) (gD g) h_2) (by decide) 0 w_X10_turns_g0 rfl [0, 2] (hC_cons w_X10_turns_g0 (hC_cons w_X10_turns_g2 hC_nil)) rfl (w_X10_refused_a.trans w_X10_refused_a.symm) rfl rfl (Nat.le_of_ble_eq_true rfl) dX10_turns_13 (wput_cons w_X10_turns_s0 (wput_cons w_X10_turns_s2 wput_nil)) ?_
    have h := Option.some.inj h
    subst h
    exact j_iret C E dX10_turns_16
  · refine j_aload_n C dX10_turns_17 rfl ?_
    refine j_get C 0 w_X10_turns_g0 rfl inX10 0 (by decide) kw_981 rfl rfl dX10_turns_18 ?_
    refine j_bipush C (40) dX10_turns_21 kb_40 ?_
    refine j_iload_n C dX10_turns_23 rfl ?_
    refine j_iadd C dX10_turns_24 ?_
    refine j_iconst C (1) dX10_turns_25 ki_1 ?_
    refine j_aload_n C dX10_turns_26 rfl ?_
    refine j_get C 0 w_X10_turns_g0 rfl inX10 0 (by decide) kw_981 rfl rfl dX10_turns_27 ?_
    refine j_bipush C (40) dX10_turns_30 kb_40 ?_
    refine j_iload_n C dX10_turns_32 rfl ?_
    refine j_iadd C dX10_turns_33 ?_
    refine j_iaload 1 C h w_X10_turns_g1 rfl dX10_turns_34 (fun h => ?_)
    refine j_isub C dX10_turns_35 ?_
    refine j_iastore 1 C h w_X10_turns_g1 rfl dX10_turns_36 (fun h => ?_)
    refine j_ws w_X10_turns_s1 ?_
    refine j_aload_n C dX10_turns_37 rfl ?_
    refine j_get C 0 w_X10_turns_g0 rfl inX10 0 (by decide) kw_981 rfl rfl dX10_turns_38 ?_
    refine j_bipush C (40) dX10_turns_41 kb_40 ?_
    refine j_iload_n C dX10_turns_43 rfl ?_
    refine j_iadd C dX10_turns_44 ?_
    refine j_iaload 1 C h w_X10_turns_g1 rfl dX10_turns_45 (fun h => ?_)
    have h := Option.some.inj h
    subst h
    exact j_iret C E dX10_turns_46

def w_X10_length (D : va_G) (q_this q_now q_refusals : Nat) (w_kept w_trial w_row w_letters w_dists w_left w_steps w_partners w_times w_spliced w_piece w_balances w_prices w_hands w_hand w_dealing : Value) (v_hasImage : Int32) (v_rows : Int32) (v_lettered : Int32) (v_stepsMany : Int32) (v_splicedMany : Int32) (v_most : Int32) (v_together : Int32) (v_z : Int32) (v_now : (Nat → Int32)) (v_refusals : (Nat → Int32)) : va_W := [(q_this, .inr (9, [.ref q_now, w_kept, w_trial, .int v_hasImage, .ref q_refusals, w_row, .int v_rows, w_letters, .int v_lettered, w_dists, w_left, w_steps, .int v_stepsMany, w_partners, w_times, w_spliced, .int v_splicedMany, w_piece, w_balances, w_prices, w_hands, w_hand, w_dealing, .int v_most, .int v_together, .int v_z])), (q_now, .inl (D.1 100, 50, .inl v_now)), (q_refusals, .inl (D.1 100, 7, .inl v_refusals))]
theorem w_X10_length_g0 {D : va_G} {q_this : Nat} {q_now : Nat} {q_refusals : Nat} {w_kept : Value} {w_trial : Value} {w_row : Value} {w_letters : Value} {w_dists : Value} {w_left : Value} {w_steps : Value} {w_partners : Value} {w_times : Value} {w_spliced : Value} {w_piece : Value} {w_balances : Value} {w_prices : Value} {w_hands : Value} {w_hand : Value} {w_dealing : Value} {v_hasImage : Int32} {v_rows : Int32} {v_lettered : Int32} {v_stepsMany : Int32} {v_splicedMany : Int32} {v_most : Int32} {v_together : Int32} {v_z : Int32} {v_now : (Nat → Int32)} {v_refusals : (Nat → Int32)} : (w_X10_length D q_this q_now q_refusals w_kept w_trial w_row w_letters w_dists w_left w_steps w_partners w_times w_spliced w_piece w_balances w_prices w_hands w_hand w_dealing v_hasImage v_rows v_lettered v_stepsMany v_splicedMany v_most v_together v_z v_now v_refusals)[0]? = some (q_this, .inr (9, [.ref q_now, w_kept, w_trial, .int v_hasImage, .ref q_refusals, w_row, .int v_rows, w_letters, .int v_lettered, w_dists, w_left, w_steps, .int v_stepsMany, w_partners, w_times, w_spliced, .int v_splicedMany, w_piece, w_balances, w_prices, w_hands, w_hand, w_dealing, .int v_most, .int v_together, .int v_z])) := rfl
theorem w_X10_length_s0 {D : va_G} {q_this : Nat} {q_now : Nat} {q_refusals : Nat} {w_kept : Value} {w_trial : Value} {w_row : Value} {w_letters : Value} {w_dists : Value} {w_left : Value} {w_steps : Value} {w_partners : Value} {w_times : Value} {w_spliced : Value} {w_piece : Value} {w_balances : Value} {w_prices : Value} {w_hands : Value} {w_hand : Value} {w_dealing : Value} {v_hasImage : Int32} {v_rows : Int32} {v_lettered : Int32} {v_stepsMany : Int32} {v_splicedMany : Int32} {v_most : Int32} {v_together : Int32} {v_z : Int32} {v_now : (Nat → Int32)} {v_refusals : (Nat → Int32)} {v_hasImage' : Int32} {v_rows' : Int32} {v_lettered' : Int32} {v_stepsMany' : Int32} {v_splicedMany' : Int32} {v_most' : Int32} {v_together' : Int32} {v_z' : Int32} : (w_X10_length D q_this q_now q_refusals w_kept w_trial w_row w_letters w_dists w_left w_steps w_partners w_times w_spliced w_piece w_balances w_prices w_hands w_hand w_dealing v_hasImage v_rows v_lettered v_stepsMany v_splicedMany v_most v_together v_z v_now v_refusals).set 0 (q_this, .inr (9, [.ref q_now, w_kept, w_trial, .int v_hasImage', .ref q_refusals, w_row, .int v_rows', w_letters, .int v_lettered', w_dists, w_left, w_steps, .int v_stepsMany', w_partners, w_times, w_spliced, .int v_splicedMany', w_piece, w_balances, w_prices, w_hands, w_hand, w_dealing, .int v_most', .int v_together', .int v_z'])) = (w_X10_length D q_this q_now q_refusals w_kept w_trial w_row w_letters w_dists w_left w_steps w_partners w_times w_spliced w_piece w_balances w_prices w_hands w_hand w_dealing v_hasImage' v_rows' v_lettered' v_stepsMany' v_splicedMany' v_most' v_together' v_z' v_now v_refusals) := rfl
theorem w_X10_length_g1 {D : va_G} {q_this : Nat} {q_now : Nat} {q_refusals : Nat} {w_kept : Value} {w_trial : Value} {w_row : Value} {w_letters : Value} {w_dists : Value} {w_left : Value} {w_steps : Value} {w_partners : Value} {w_times : Value} {w_spliced : Value} {w_piece : Value} {w_balances : Value} {w_prices : Value} {w_hands : Value} {w_hand : Value} {w_dealing : Value} {v_hasImage : Int32} {v_rows : Int32} {v_lettered : Int32} {v_stepsMany : Int32} {v_splicedMany : Int32} {v_most : Int32} {v_together : Int32} {v_z : Int32} {v_now : (Nat → Int32)} {v_refusals : (Nat → Int32)} : (w_X10_length D q_this q_now q_refusals w_kept w_trial w_row w_letters w_dists w_left w_steps w_partners w_times w_spliced w_piece w_balances w_prices w_hands w_hand w_dealing v_hasImage v_rows v_lettered v_stepsMany v_splicedMany v_most v_together v_z v_now v_refusals)[1]? = some (q_now, .inl (D.1 100, 50, .inl v_now)) := rfl
theorem w_X10_length_s1 {D : va_G} {q_this : Nat} {q_now : Nat} {q_refusals : Nat} {w_kept : Value} {w_trial : Value} {w_row : Value} {w_letters : Value} {w_dists : Value} {w_left : Value} {w_steps : Value} {w_partners : Value} {w_times : Value} {w_spliced : Value} {w_piece : Value} {w_balances : Value} {w_prices : Value} {w_hands : Value} {w_hand : Value} {w_dealing : Value} {v_hasImage : Int32} {v_rows : Int32} {v_lettered : Int32} {v_stepsMany : Int32} {v_splicedMany : Int32} {v_most : Int32} {v_together : Int32} {v_z : Int32} {v_now : (Nat → Int32)} {v_refusals : (Nat → Int32)} {v_now' : (Nat → Int32)} : (w_X10_length D q_this q_now q_refusals w_kept w_trial w_row w_letters w_dists w_left w_steps w_partners w_times w_spliced w_piece w_balances w_prices w_hands w_hand w_dealing v_hasImage v_rows v_lettered v_stepsMany v_splicedMany v_most v_together v_z v_now v_refusals).set 1 (q_now, .inl (D.1 100, 50, .inl v_now')) = (w_X10_length D q_this q_now q_refusals w_kept w_trial w_row w_letters w_dists w_left w_steps w_partners w_times w_spliced w_piece w_balances w_prices w_hands w_hand w_dealing v_hasImage v_rows v_lettered v_stepsMany v_splicedMany v_most v_together v_z v_now' v_refusals) := rfl
theorem w_X10_length_g2 {D : va_G} {q_this : Nat} {q_now : Nat} {q_refusals : Nat} {w_kept : Value} {w_trial : Value} {w_row : Value} {w_letters : Value} {w_dists : Value} {w_left : Value} {w_steps : Value} {w_partners : Value} {w_times : Value} {w_spliced : Value} {w_piece : Value} {w_balances : Value} {w_prices : Value} {w_hands : Value} {w_hand : Value} {w_dealing : Value} {v_hasImage : Int32} {v_rows : Int32} {v_lettered : Int32} {v_stepsMany : Int32} {v_splicedMany : Int32} {v_most : Int32} {v_together : Int32} {v_z : Int32} {v_now : (Nat → Int32)} {v_refusals : (Nat → Int32)} : (w_X10_length D q_this q_now q_refusals w_kept w_trial w_row w_letters w_dists w_left w_steps w_partners w_times w_spliced w_piece w_balances w_prices w_hands w_hand w_dealing v_hasImage v_rows v_lettered v_stepsMany v_splicedMany v_most v_together v_z v_now v_refusals)[2]? = some (q_refusals, .inl (D.1 100, 7, .inl v_refusals)) := rfl
theorem w_X10_length_s2 {D : va_G} {q_this : Nat} {q_now : Nat} {q_refusals : Nat} {w_kept : Value} {w_trial : Value} {w_row : Value} {w_letters : Value} {w_dists : Value} {w_left : Value} {w_steps : Value} {w_partners : Value} {w_times : Value} {w_spliced : Value} {w_piece : Value} {w_balances : Value} {w_prices : Value} {w_hands : Value} {w_hand : Value} {w_dealing : Value} {v_hasImage : Int32} {v_rows : Int32} {v_lettered : Int32} {v_stepsMany : Int32} {v_splicedMany : Int32} {v_most : Int32} {v_together : Int32} {v_z : Int32} {v_now : (Nat → Int32)} {v_refusals : (Nat → Int32)} {v_refusals' : (Nat → Int32)} : (w_X10_length D q_this q_now q_refusals w_kept w_trial w_row w_letters w_dists w_left w_steps w_partners w_times w_spliced w_piece w_balances w_prices w_hands w_hand w_dealing v_hasImage v_rows v_lettered v_stepsMany v_splicedMany v_most v_together v_z v_now v_refusals).set 2 (q_refusals, .inl (D.1 100, 7, .inl v_refusals')) = (w_X10_length D q_this q_now q_refusals w_kept w_trial w_row w_letters w_dists w_left w_steps w_partners w_times w_spliced w_piece w_balances w_prices w_hands w_hand w_dealing v_hasImage v_rows v_lettered v_stepsMany v_splicedMany v_most v_together v_z v_now v_refusals') := rfl
theorem w_X10_length_a {D : va_G} {q_this : Nat} {q_now : Nat} {q_refusals : Nat} {w_kept : Value} {w_trial : Value} {w_row : Value} {w_letters : Value} {w_dists : Value} {w_left : Value} {w_steps : Value} {w_partners : Value} {w_times : Value} {w_spliced : Value} {w_piece : Value} {w_balances : Value} {w_prices : Value} {w_hands : Value} {w_hand : Value} {w_dealing : Value} {v_hasImage : Int32} {v_rows : Int32} {v_lettered : Int32} {v_stepsMany : Int32} {v_splicedMany : Int32} {v_most : Int32} {v_together : Int32} {v_z : Int32} {v_now : (Nat → Int32)} {v_refusals : (Nat → Int32)} : (w_X10_length D q_this q_now q_refusals w_kept w_trial w_row w_letters w_dists w_left w_steps w_partners w_times w_spliced w_piece w_balances w_prices w_hands w_hand w_dealing v_hasImage v_rows v_lettered v_stepsMany v_splicedMany v_most v_together v_z v_now v_refusals).map (fun q => q.1) = [q_this, q_now, q_refusals] := rfl
def f_X10_length (x1 : Int32) (x2 : Int32) (v_now : (Nat → Int32)) (v_refusals : (Nat → Int32)) : Option (Int32 × (Nat → Int32) × (Nat → Int32)) :=
  (f_X10_isStreet x1 v_now).bind (fun r_isStreet_1 => (if r_isStreet_1 = 0 then (f_X10_refused (-1 : Int32) v_refusals).bind (fun r_refused_5 => some (r_refused_5.1, v_now, r_refused_5.2)) else (f_X10_in (Int32.toInt64 x2) (1 : Int64) (99 : Int64)).bind (fun r_in_2 => (if r_in_2 = 0 then (f_X10_refused (if (1 : Int32) ≤ x2 then (-6 : Int32) else (-4 : Int32)) v_refusals).bind (fun r_refused_4 => some (r_refused_4.1, v_now, r_refused_4.2)) else ga ((16 : Int32) + x1) 50 (ga ((16 : Int32) + x1) 50 (some (v_now (Int32.toNatClampNeg ((16 : Int32) + x1)), upd v_now (Int32.toNatClampNeg ((16 : Int32) + x1)) x2, v_refusals)))))))
set_option maxRecDepth 100000 in
set_option maxHeartbeats 4000000 in
theorem c_X10_length (l : Launch) (D : va_G) {q_this q_now q_refusals : Nat} {w_kept w_trial w_row w_letters w_dists w_left w_steps w_partners w_times w_spliced w_piece w_balances w_prices w_hands w_hand w_dealing : Value} {v_hasImage : Int32} {v_rows : Int32} {v_lettered : Int32} {v_stepsMany : Int32} {v_splicedMany : Int32} {v_most : Int32} {v_together : Int32} {v_z : Int32} {v_now : (Nat → Int32)} {v_refusals : (Nat → Int32)} {x1 : Int32} {x2 : Int32} {o : (Int32 × (Nat → Int32) × (Nat → Int32))} (h : f_X10_length x1 x2 v_now v_refusals = some o) : CT l D yX10_length cX10_length 4 (Option.some FieldType.int) 2 [.ref q_this, .int x1, .int x2] (w_X10_length D q_this q_now q_refusals w_kept w_trial w_row w_letters w_dists w_left w_steps w_partners w_times w_spliced w_piece w_balances w_prices w_hands w_hand w_dealing v_hasImage v_rows v_lettered v_stepsMany v_splicedMany v_most v_together v_z v_now v_refusals) (w_X10_length D q_this q_now q_refusals w_kept w_trial w_row w_letters w_dists w_left w_steps w_partners w_times w_spliced w_piece w_balances w_prices w_hands w_hand w_dealing v_hasImage v_rows v_lettered v_stepsMany v_splicedMany v_most v_together v_z o.2.1 o.2.2) (some (.int o.1)) := by
  refine CT.of mk_X10_length (Nat.le_of_ble_eq_true rfl) (fun g hl hD C E => ?_)
  subst hl
  subst hD
  unfold f_X10_length at h
  refine j_aload_n C dX10_length_0 rfl ?_
  refine j_get C 0 w_X10_length_g0 rfl inX10 0 (by decide) kw_981 rfl rfl dX10_length_1 ?_
  refine j_iload_n C dX10_length_4 rfl ?_
  obtain ⟨r_isStreet_1, h_1, h⟩ := of_bind h
  refine j_callS1 C mk_X10_isStreet ms_X10_isStreet kw_1113 (c_X10_isStreet (gl g) (gD g) h_1) (by decide) [1] (hC_cons w_X10_length_g1 hC_nil) rfl (w_X10_isStreet_a.trans w_X10_isStreet_a.symm) rfl rfl (Nat.le_of_ble_eq_true rfl) dX10_length_5 (wput_cons w_X10_length_s1 wput_nil) ?_
  refine j_if_ne C h 17 dX10_length_8 (by decide) (fun hc h => ?_) (fun hc h => ?_)
  · refine j_aload_n C dX10_length_11 rfl ?_
    refine j_iconst C (-1) dX10_length_12 ki_m1 ?_
    obtain ⟨r_refused_5, h_5, h⟩ := of_bind h
    refine j_callV1 C mk_X10_refused ms_X10_refused kw_1064 (c_X10_refused (gl g) (gD g) h_5) (by decide) 0 w_X10_length_g0 rfl [0, 2] (hC_cons w_X10_length_g0 (hC_cons w_X10_length_g2 hC_nil)) rfl (w_X10_refused_a.trans w_X10_refused_a.symm) rfl rfl (Nat.le_of_ble_eq_true rfl) dX10_length_13 (wput_cons w_X10_length_s0 (wput_cons w_X10_length_s2 wput_nil)) ?_
    have h := Option.some.inj h
    subst h
    exact j_iret C E dX10_length_16
  · refine j_iload_n C dX10_length_17 rfl ?_
    refine j_i2l C dX10_length_18 ?_
    refine j_lconst C 1 dX10_length_19 rfl ?_
    refine j_ldc2 C kw_1112 dX10_length_20 ?_
    obtain ⟨r_in_2, h_2, h⟩ := of_bind h
    refine j_callS1 C mk_X10_in ms_X10_in kw_1085 (c_X10_in (gl g) (gD g) h_2) (by decide) [] hC_nil rfl (w_X10_in_a.trans w_X10_in_a.symm) rfl rfl (Nat.le_of_ble_eq_true rfl) dX10_length_23 wput_nil ?_
    refine j_if_ne C h 46 dX10_length_26 (by decide) (fun hc h => ?_) (fun hc h => ?_)
    · refine j_aload_n C dX10_length_29 rfl ?_
      refine j_iload_n C dX10_length_30 rfl ?_
      refine j_iconst C (1) dX10_length_31 ki_1 ?_
      have hj_3 : J g (w_X10_length (gD g) q_this q_now q_refusals w_kept w_trial w_row w_letters w_dists w_left w_steps w_partners w_times w_spliced w_piece w_balances w_prices w_hands w_hand w_dealing v_hasImage v_rows v_lettered v_stepsMany v_splicedMany v_most v_together v_z v_now v_refusals) [] 42 [.int (if (1 : Int32) ≤ x2 then (-6 : Int32) else (-4 : Int32)), .ref q_this] := by
        obtain ⟨r_refused_4, h_4, h⟩ := of_bind h
        refine j_callV1 C mk_X10_refused ms_X10_refused kw_1064 (c_X10_refused (gl g) (gD g) h_4) (by decide) 0 w_X10_length_g0 rfl [0, 2] (hC_cons w_X10_length_g0 (hC_cons w_X10_length_g2 hC_nil)) rfl (w_X10_refused_a.trans w_X10_refused_a.symm) rfl rfl (Nat.le_of_ble_eq_true rfl) dX10_length_42 (wput_cons w_X10_length_s0 (wput_cons w_X10_length_s2 wput_nil)) ?_
        have h := Option.some.inj h
        subst h
        exact j_iret C E dX10_length_45
      refine jv_icmp_ge C 40 dX10_length_32 (by decide) (fun hc => ?_) (fun hc => ?_)
      · try simp only [if_pos hc] at hj_3
        refine j_bipush C (-6) dX10_length_40 kb_m6 ?_
        exact j_lw hj_3 rfl
      · try simp only [if_neg hc] at hj_3
        refine j_bipush C (-4) dX10_length_35 kb_m4 ?_
        refine j_goto C 42 dX10_length_37 (by decide) ?_
        exact j_lw hj_3 rfl
    · refine j_aload_n C dX10_length_46 rfl ?_
      refine j_get C 0 w_X10_length_g0 rfl inX10 0 (by decide) kw_981 rfl rfl dX10_length_47 ?_
      refine j_bipush C (16) dX10_length_50 kb_16 ?_
      refine j_iload_n C dX10_length_52 rfl ?_
      refine j_iadd C dX10_length_53 ?_
      refine j_iaload 1 C h w_X10_length_g1 rfl dX10_length_54 (fun h => ?_)
      refine j_istore_n C dX10_length_55 (by decide) ?_
      refine j_aload_n C dX10_length_56 rfl ?_
      refine j_get C 0 w_X10_length_g0 rfl inX10 0 (by decide) kw_981 rfl rfl dX10_length_57 ?_
      refine j_bipush C (16) dX10_length_60 kb_16 ?_
      refine j_iload_n C dX10_length_62 rfl ?_
      refine j_iadd C dX10_length_63 ?_
      refine j_iload_n C dX10_length_64 rfl ?_
      refine j_iastore 1 C h w_X10_length_g1 rfl dX10_length_65 (fun h => ?_)
      refine j_ws w_X10_length_s1 ?_
      refine j_iload_n C dX10_length_66 rfl ?_
      have h := Option.some.inj h
      subst h
      exact j_iret C E dX10_length_67

def w_X10_kind (D : va_G) (q_this q_now q_refusals : Nat) (w_kept w_trial w_row w_letters w_dists w_left w_steps w_partners w_times w_spliced w_piece w_balances w_prices w_hands w_hand w_dealing : Value) (v_hasImage : Int32) (v_rows : Int32) (v_lettered : Int32) (v_stepsMany : Int32) (v_splicedMany : Int32) (v_most : Int32) (v_together : Int32) (v_z : Int32) (v_now : (Nat → Int32)) (v_refusals : (Nat → Int32)) : va_W := [(q_this, .inr (9, [.ref q_now, w_kept, w_trial, .int v_hasImage, .ref q_refusals, w_row, .int v_rows, w_letters, .int v_lettered, w_dists, w_left, w_steps, .int v_stepsMany, w_partners, w_times, w_spliced, .int v_splicedMany, w_piece, w_balances, w_prices, w_hands, w_hand, w_dealing, .int v_most, .int v_together, .int v_z])), (q_now, .inl (D.1 100, 50, .inl v_now)), (q_refusals, .inl (D.1 100, 7, .inl v_refusals))]
theorem w_X10_kind_g0 {D : va_G} {q_this : Nat} {q_now : Nat} {q_refusals : Nat} {w_kept : Value} {w_trial : Value} {w_row : Value} {w_letters : Value} {w_dists : Value} {w_left : Value} {w_steps : Value} {w_partners : Value} {w_times : Value} {w_spliced : Value} {w_piece : Value} {w_balances : Value} {w_prices : Value} {w_hands : Value} {w_hand : Value} {w_dealing : Value} {v_hasImage : Int32} {v_rows : Int32} {v_lettered : Int32} {v_stepsMany : Int32} {v_splicedMany : Int32} {v_most : Int32} {v_together : Int32} {v_z : Int32} {v_now : (Nat → Int32)} {v_refusals : (Nat → Int32)} : (w_X10_kind D q_this q_now q_refusals w_kept w_trial w_row w_letters w_dists w_left w_steps w_partners w_times w_spliced w_piece w_balances w_prices w_hands w_hand w_dealing v_hasImage v_rows v_lettered v_stepsMany v_splicedMany v_most v_together v_z v_now v_refusals)[0]? = some (q_this, .inr (9, [.ref q_now, w_kept, w_trial, .int v_hasImage, .ref q_refusals, w_row, .int v_rows, w_letters, .int v_lettered, w_dists, w_left, w_steps, .int v_stepsMany, w_partners, w_times, w_spliced, .int v_splicedMany, w_piece, w_balances, w_prices, w_hands, w_hand, w_dealing, .int v_most, .int v_together, .int v_z])) := rfl
theorem w_X10_kind_s0 {D : va_G} {q_this : Nat} {q_now : Nat} {q_refusals : Nat} {w_kept : Value} {w_trial : Value} {w_row : Value} {w_letters : Value} {w_dists : Value} {w_left : Value} {w_steps : Value} {w_partners : Value} {w_times : Value} {w_spliced : Value} {w_piece : Value} {w_balances : Value} {w_prices : Value} {w_hands : Value} {w_hand : Value} {w_dealing : Value} {v_hasImage : Int32} {v_rows : Int32} {v_lettered : Int32} {v_stepsMany : Int32} {v_splicedMany : Int32} {v_most : Int32} {v_together : Int32} {v_z : Int32} {v_now : (Nat → Int32)} {v_refusals : (Nat → Int32)} {v_hasImage' : Int32} {v_rows' : Int32} {v_lettered' : Int32} {v_stepsMany' : Int32} {v_splicedMany' : Int32} {v_most' : Int32} {v_together' : Int32} {v_z' : Int32} : (w_X10_kind D q_this q_now q_refusals w_kept w_trial w_row w_letters w_dists w_left w_steps w_partners w_times w_spliced w_piece w_balances w_prices w_hands w_hand w_dealing v_hasImage v_rows v_lettered v_stepsMany v_splicedMany v_most v_together v_z v_now v_refusals).set 0 (q_this, .inr (9, [.ref q_now, w_kept, w_trial, .int v_hasImage', .ref q_refusals, w_row, .int v_rows', w_letters, .int v_lettered', w_dists, w_left, w_steps, .int v_stepsMany', w_partners, w_times, w_spliced, .int v_splicedMany', w_piece, w_balances, w_prices, w_hands, w_hand, w_dealing, .int v_most', .int v_together', .int v_z'])) = (w_X10_kind D q_this q_now q_refusals w_kept w_trial w_row w_letters w_dists w_left w_steps w_partners w_times w_spliced w_piece w_balances w_prices w_hands w_hand w_dealing v_hasImage' v_rows' v_lettered' v_stepsMany' v_splicedMany' v_most' v_together' v_z' v_now v_refusals) := rfl
theorem w_X10_kind_g1 {D : va_G} {q_this : Nat} {q_now : Nat} {q_refusals : Nat} {w_kept : Value} {w_trial : Value} {w_row : Value} {w_letters : Value} {w_dists : Value} {w_left : Value} {w_steps : Value} {w_partners : Value} {w_times : Value} {w_spliced : Value} {w_piece : Value} {w_balances : Value} {w_prices : Value} {w_hands : Value} {w_hand : Value} {w_dealing : Value} {v_hasImage : Int32} {v_rows : Int32} {v_lettered : Int32} {v_stepsMany : Int32} {v_splicedMany : Int32} {v_most : Int32} {v_together : Int32} {v_z : Int32} {v_now : (Nat → Int32)} {v_refusals : (Nat → Int32)} : (w_X10_kind D q_this q_now q_refusals w_kept w_trial w_row w_letters w_dists w_left w_steps w_partners w_times w_spliced w_piece w_balances w_prices w_hands w_hand w_dealing v_hasImage v_rows v_lettered v_stepsMany v_splicedMany v_most v_together v_z v_now v_refusals)[1]? = some (q_now, .inl (D.1 100, 50, .inl v_now)) := rfl
theorem w_X10_kind_s1 {D : va_G} {q_this : Nat} {q_now : Nat} {q_refusals : Nat} {w_kept : Value} {w_trial : Value} {w_row : Value} {w_letters : Value} {w_dists : Value} {w_left : Value} {w_steps : Value} {w_partners : Value} {w_times : Value} {w_spliced : Value} {w_piece : Value} {w_balances : Value} {w_prices : Value} {w_hands : Value} {w_hand : Value} {w_dealing : Value} {v_hasImage : Int32} {v_rows : Int32} {v_lettered : Int32} {v_stepsMany : Int32} {v_splicedMany : Int32} {v_most : Int32} {v_together : Int32} {v_z : Int32} {v_now : (Nat → Int32)} {v_refusals : (Nat → Int32)} {v_now' : (Nat → Int32)} : (w_X10_kind D q_this q_now q_refusals w_kept w_trial w_row w_letters w_dists w_left w_steps w_partners w_times w_spliced w_piece w_balances w_prices w_hands w_hand w_dealing v_hasImage v_rows v_lettered v_stepsMany v_splicedMany v_most v_together v_z v_now v_refusals).set 1 (q_now, .inl (D.1 100, 50, .inl v_now')) = (w_X10_kind D q_this q_now q_refusals w_kept w_trial w_row w_letters w_dists w_left w_steps w_partners w_times w_spliced w_piece w_balances w_prices w_hands w_hand w_dealing v_hasImage v_rows v_lettered v_stepsMany v_splicedMany v_most v_together v_z v_now' v_refusals) := rfl
theorem w_X10_kind_g2 {D : va_G} {q_this : Nat} {q_now : Nat} {q_refusals : Nat} {w_kept : Value} {w_trial : Value} {w_row : Value} {w_letters : Value} {w_dists : Value} {w_left : Value} {w_steps : Value} {w_partners : Value} {w_times : Value} {w_spliced : Value} {w_piece : Value} {w_balances : Value} {w_prices : Value} {w_hands : Value} {w_hand : Value} {w_dealing : Value} {v_hasImage : Int32} {v_rows : Int32} {v_lettered : Int32} {v_stepsMany : Int32} {v_splicedMany : Int32} {v_most : Int32} {v_together : Int32} {v_z : Int32} {v_now : (Nat → Int32)} {v_refusals : (Nat → Int32)} : (w_X10_kind D q_this q_now q_refusals w_kept w_trial w_row w_letters w_dists w_left w_steps w_partners w_times w_spliced w_piece w_balances w_prices w_hands w_hand w_dealing v_hasImage v_rows v_lettered v_stepsMany v_splicedMany v_most v_together v_z v_now v_refusals)[2]? = some (q_refusals, .inl (D.1 100, 7, .inl v_refusals)) := rfl
theorem w_X10_kind_s2 {D : va_G} {q_this : Nat} {q_now : Nat} {q_refusals : Nat} {w_kept : Value} {w_trial : Value} {w_row : Value} {w_letters : Value} {w_dists : Value} {w_left : Value} {w_steps : Value} {w_partners : Value} {w_times : Value} {w_spliced : Value} {w_piece : Value} {w_balances : Value} {w_prices : Value} {w_hands : Value} {w_hand : Value} {w_dealing : Value} {v_hasImage : Int32} {v_rows : Int32} {v_lettered : Int32} {v_stepsMany : Int32} {v_splicedMany : Int32} {v_most : Int32} {v_together : Int32} {v_z : Int32} {v_now : (Nat → Int32)} {v_refusals : (Nat → Int32)} {v_refusals' : (Nat → Int32)} : (w_X10_kind D q_this q_now q_refusals w_kept w_trial w_row w_letters w_dists w_left w_steps w_partners w_times w_spliced w_piece w_balances w_prices w_hands w_hand w_dealing v_hasImage v_rows v_lettered v_stepsMany v_splicedMany v_most v_together v_z v_now v_refusals).set 2 (q_refusals, .inl (D.1 100, 7, .inl v_refusals')) = (w_X10_kind D q_this q_now q_refusals w_kept w_trial w_row w_letters w_dists w_left w_steps w_partners w_times w_spliced w_piece w_balances w_prices w_hands w_hand w_dealing v_hasImage v_rows v_lettered v_stepsMany v_splicedMany v_most v_together v_z v_now v_refusals') := rfl
theorem w_X10_kind_a {D : va_G} {q_this : Nat} {q_now : Nat} {q_refusals : Nat} {w_kept : Value} {w_trial : Value} {w_row : Value} {w_letters : Value} {w_dists : Value} {w_left : Value} {w_steps : Value} {w_partners : Value} {w_times : Value} {w_spliced : Value} {w_piece : Value} {w_balances : Value} {w_prices : Value} {w_hands : Value} {w_hand : Value} {w_dealing : Value} {v_hasImage : Int32} {v_rows : Int32} {v_lettered : Int32} {v_stepsMany : Int32} {v_splicedMany : Int32} {v_most : Int32} {v_together : Int32} {v_z : Int32} {v_now : (Nat → Int32)} {v_refusals : (Nat → Int32)} : (w_X10_kind D q_this q_now q_refusals w_kept w_trial w_row w_letters w_dists w_left w_steps w_partners w_times w_spliced w_piece w_balances w_prices w_hands w_hand w_dealing v_hasImage v_rows v_lettered v_stepsMany v_splicedMany v_most v_together v_z v_now v_refusals).map (fun q => q.1) = [q_this, q_now, q_refusals] := rfl
def f_X10_kind (x1 : Int32) (x2 : Int32) (x3 : Int32) (v_now : (Nat → Int32)) (v_refusals : (Nat → Int32)) : Option (Int32 × (Nat → Int32) × (Nat → Int32)) :=
  (f_X10_isStreet x1 v_now).bind (fun r_isStreet_1 => (if r_isStreet_1 = 0 then (f_X10_refused (-1 : Int32) v_refusals).bind (fun r_refused_7 => some (r_refused_7.1, v_now, r_refused_7.2)) else (f_X10_in (Int32.toInt64 x2) (0 : Int64) (5 : Int64)).bind (fun r_in_2 => (if r_in_2 = 0 then (f_X10_refused (-2 : Int32) v_refusals).bind (fun r_refused_6 => some (r_refused_6.1, v_now, r_refused_6.2)) else (f_X10_in (Int32.toInt64 x3) (0 : Int64) (9 : Int64)).bind (fun r_in_3 => (if r_in_3 = 0 then (f_X10_refused (if 0 ≤ x3 then (-6 : Int32) else (-4 : Int32)) v_refusals).bind (fun r_refused_5 => some (r_refused_5.1, v_now, r_refused_5.2)) else ga ((24 : Int32) + x1) 50 (ga ((32 : Int32) + x1) 50 (ga ((24 : Int32) + x1) 50 (ga ((32 : Int32) + x1) 50 (some (((10 : Int32) * (v_now (Int32.toNatClampNeg ((24 : Int32) + x1)))) + (v_now (Int32.toNatClampNeg ((32 : Int32) + x1))), upd (upd v_now (Int32.toNatClampNeg ((24 : Int32) + x1)) x2) (Int32.toNatClampNeg ((32 : Int32) + x1)) x3, v_refusals)))))))))))
set_option maxRecDepth 100000 in
set_option maxHeartbeats 4000000 in
theorem c_X10_kind (l : Launch) (D : va_G) {q_this q_now q_refusals : Nat} {w_kept w_trial w_row w_letters w_dists w_left w_steps w_partners w_times w_spliced w_piece w_balances w_prices w_hands w_hand w_dealing : Value} {v_hasImage : Int32} {v_rows : Int32} {v_lettered : Int32} {v_stepsMany : Int32} {v_splicedMany : Int32} {v_most : Int32} {v_together : Int32} {v_z : Int32} {v_now : (Nat → Int32)} {v_refusals : (Nat → Int32)} {x1 : Int32} {x2 : Int32} {x3 : Int32} {o : (Int32 × (Nat → Int32) × (Nat → Int32))} (h : f_X10_kind x1 x2 x3 v_now v_refusals = some o) : CT l D yX10_kind cX10_kind 5 (Option.some FieldType.int) 2 [.ref q_this, .int x1, .int x2, .int x3] (w_X10_kind D q_this q_now q_refusals w_kept w_trial w_row w_letters w_dists w_left w_steps w_partners w_times w_spliced w_piece w_balances w_prices w_hands w_hand w_dealing v_hasImage v_rows v_lettered v_stepsMany v_splicedMany v_most v_together v_z v_now v_refusals) (w_X10_kind D q_this q_now q_refusals w_kept w_trial w_row w_letters w_dists w_left w_steps w_partners w_times w_spliced w_piece w_balances w_prices w_hands w_hand w_dealing v_hasImage v_rows v_lettered v_stepsMany v_splicedMany v_most v_together v_z o.2.1 o.2.2) (some (.int o.1)) := by
  refine CT.of mk_X10_kind (Nat.le_of_ble_eq_true rfl) (fun g hl hD C E => ?_)
  subst hl
  subst hD
  unfold f_X10_kind at h
  refine j_aload_n C dX10_kind_0 rfl ?_
  refine j_get C 0 w_X10_kind_g0 rfl inX10 0 (by decide) kw_981 rfl rfl dX10_kind_1 ?_
  refine j_iload_n C dX10_kind_4 rfl ?_
  obtain ⟨r_isStreet_1, h_1, h⟩ := of_bind h
  refine j_callS1 C mk_X10_isStreet ms_X10_isStreet kw_1113 (c_X10_isStreet (gl g) (gD g) h_1) (by decide) [1] (hC_cons w_X10_kind_g1 hC_nil) rfl (w_X10_isStreet_a.trans w_X10_isStreet_a.symm) rfl rfl (Nat.le_of_ble_eq_true rfl) dX10_kind_5 (wput_cons w_X10_kind_s1 wput_nil) ?_
  refine j_if_ne C h 17 dX10_kind_8 (by decide) (fun hc h => ?_) (fun hc h => ?_)
  · refine j_aload_n C dX10_kind_11 rfl ?_
    refine j_iconst C (-1) dX10_kind_12 ki_m1 ?_
    obtain ⟨r_refused_7, h_7, h⟩ := of_bind h
    refine j_callV1 C mk_X10_refused ms_X10_refused kw_1064 (c_X10_refused (gl g) (gD g) h_7) (by decide) 0 w_X10_kind_g0 rfl [0, 2] (hC_cons w_X10_kind_g0 (hC_cons w_X10_kind_g2 hC_nil)) rfl (w_X10_refused_a.trans w_X10_refused_a.symm) rfl rfl (Nat.le_of_ble_eq_true rfl) dX10_kind_13 (wput_cons w_X10_kind_s0 (wput_cons w_X10_kind_s2 wput_nil)) ?_
    have h := Option.some.inj h
    subst h
    exact j_iret C E dX10_kind_16
  · refine j_iload_n C dX10_kind_17 rfl ?_
    refine j_i2l C dX10_kind_18 ?_
    refine j_lconst C 0 dX10_kind_19 rfl ?_
    refine j_ldc2 C kw_1111 dX10_kind_20 ?_
    obtain ⟨r_in_2, h_2, h⟩ := of_bind h
    refine j_callS1 C mk_X10_in ms_X10_in kw_1085 (c_X10_in (gl g) (gD g) h_2) (by decide) [] hC_nil rfl (w_X10_in_a.trans w_X10_in_a.symm) rfl rfl (Nat.le_of_ble_eq_true rfl) dX10_kind_23 wput_nil ?_
    refine j_if_ne C h 36 dX10_kind_26 (by decide) (fun hc h => ?_) (fun hc h => ?_)
    · refine j_aload_n C dX10_kind_29 rfl ?_
      refine j_bipush C (-2) dX10_kind_30 kb_m2 ?_
      obtain ⟨r_refused_6, h_6, h⟩ := of_bind h
      refine j_callV1 C mk_X10_refused ms_X10_refused kw_1064 (c_X10_refused (gl g) (gD g) h_6) (by decide) 0 w_X10_kind_g0 rfl [0, 2] (hC_cons w_X10_kind_g0 (hC_cons w_X10_kind_g2 hC_nil)) rfl (w_X10_refused_a.trans w_X10_refused_a.symm) rfl rfl (Nat.le_of_ble_eq_true rfl) dX10_kind_32 (wput_cons w_X10_kind_s0 (wput_cons w_X10_kind_s2 wput_nil)) ?_
      have h := Option.some.inj h
      subst h
      exact j_iret C E dX10_kind_35
    · refine j_iload_n C dX10_kind_36 rfl ?_
      refine j_i2l C dX10_kind_37 ?_
      refine j_lconst C 0 dX10_kind_38 rfl ?_
      refine j_ldc2 C kw_1132 dX10_kind_39 ?_
      obtain ⟨r_in_3, h_3, h⟩ := of_bind h
      refine j_callS1 C mk_X10_in ms_X10_in kw_1085 (c_X10_in (gl g) (gD g) h_3) (by decide) [] hC_nil rfl (w_X10_in_a.trans w_X10_in_a.symm) rfl rfl (Nat.le_of_ble_eq_true rfl) dX10_kind_42 wput_nil ?_
      refine j_if_ne C h 64 dX10_kind_45 (by decide) (fun hc h => ?_) (fun hc h => ?_)
      · refine j_aload_n C dX10_kind_48 rfl ?_
        refine j_iload_n C dX10_kind_49 rfl ?_
        have hj_4 : J g (w_X10_kind (gD g) q_this q_now q_refusals w_kept w_trial w_row w_letters w_dists w_left w_steps w_partners w_times w_spliced w_piece w_balances w_prices w_hands w_hand w_dealing v_hasImage v_rows v_lettered v_stepsMany v_splicedMany v_most v_together v_z v_now v_refusals) [] 60 [.int (if 0 ≤ x3 then (-6 : Int32) else (-4 : Int32)), .ref q_this] := by
          obtain ⟨r_refused_5, h_5, h⟩ := of_bind h
          refine j_callV1 C mk_X10_refused ms_X10_refused kw_1064 (c_X10_refused (gl g) (gD g) h_5) (by decide) 0 w_X10_kind_g0 rfl [0, 2] (hC_cons w_X10_kind_g0 (hC_cons w_X10_kind_g2 hC_nil)) rfl (w_X10_refused_a.trans w_X10_refused_a.symm) rfl rfl (Nat.le_of_ble_eq_true rfl) dX10_kind_60 (wput_cons w_X10_kind_s0 (wput_cons w_X10_kind_s2 wput_nil)) ?_
          have h := Option.some.inj h
          subst h
          exact j_iret C E dX10_kind_63
        refine jv_if_ge C 58 dX10_kind_50 (by decide) (fun hc => ?_) (fun hc => ?_)
        · try simp only [if_pos hc] at hj_4
          refine j_bipush C (-6) dX10_kind_58 kb_m6 ?_
          exact j_lw hj_4 rfl
        · try simp only [if_neg hc] at hj_4
          refine j_bipush C (-4) dX10_kind_53 kb_m4 ?_
          refine j_goto C 60 dX10_kind_55 (by decide) ?_
          exact j_lw hj_4 rfl
      · refine j_bipush C (10) dX10_kind_64 kb_10 ?_
        refine j_aload_n C dX10_kind_66 rfl ?_
        refine j_get C 0 w_X10_kind_g0 rfl inX10 0 (by decide) kw_981 rfl rfl dX10_kind_67 ?_
        refine j_bipush C (24) dX10_kind_70 kb_24 ?_
        refine j_iload_n C dX10_kind_72 rfl ?_
        refine j_iadd C dX10_kind_73 ?_
        refine j_iaload 1 C h w_X10_kind_g1 rfl dX10_kind_74 (fun h => ?_)
        refine j_imul C dX10_kind_75 ?_
        refine j_aload_n C dX10_kind_76 rfl ?_
        refine j_get C 0 w_X10_kind_g0 rfl inX10 0 (by decide) kw_981 rfl rfl dX10_kind_77 ?_
        refine j_bipush C (32) dX10_kind_80 kb_32 ?_
        refine j_iload_n C dX10_kind_82 rfl ?_
        refine j_iadd C dX10_kind_83 ?_
        refine j_iaload 1 C h w_X10_kind_g1 rfl dX10_kind_84 (fun h => ?_)
        refine j_iadd C dX10_kind_85 ?_
        refine j_istore C dX10_kind_86 (by decide) ?_
        refine j_aload_n C dX10_kind_88 rfl ?_
        refine j_get C 0 w_X10_kind_g0 rfl inX10 0 (by decide) kw_981 rfl rfl dX10_kind_89 ?_
        refine j_bipush C (24) dX10_kind_92 kb_24 ?_
        refine j_iload_n C dX10_kind_94 rfl ?_
        refine j_iadd C dX10_kind_95 ?_
        refine j_iload_n C dX10_kind_96 rfl ?_
        refine j_iastore 1 C h w_X10_kind_g1 rfl dX10_kind_97 (fun h => ?_)
        refine j_ws w_X10_kind_s1 ?_
        refine j_aload_n C dX10_kind_98 rfl ?_
        refine j_get C 0 w_X10_kind_g0 rfl inX10 0 (by decide) kw_981 rfl rfl dX10_kind_99 ?_
        refine j_bipush C (32) dX10_kind_102 kb_32 ?_
        refine j_iload_n C dX10_kind_104 rfl ?_
        refine j_iadd C dX10_kind_105 ?_
        refine j_iload_n C dX10_kind_106 rfl ?_
        refine j_iastore 1 C h w_X10_kind_g1 rfl dX10_kind_107 (fun h => ?_)
        refine j_ws w_X10_kind_s1 ?_
        refine j_iload C dX10_kind_108 rfl ?_
        have h := Option.some.inj h
        subst h
        exact j_iret C E dX10_kind_110

def w_X10_home (D : va_G) (q_this q_now q_refusals : Nat) (w_kept w_trial w_row w_letters w_dists w_left w_steps w_partners w_times w_spliced w_piece w_balances w_prices w_hands w_hand w_dealing : Value) (v_hasImage : Int32) (v_rows : Int32) (v_lettered : Int32) (v_stepsMany : Int32) (v_splicedMany : Int32) (v_most : Int32) (v_together : Int32) (v_z : Int32) (v_now : (Nat → Int32)) (v_refusals : (Nat → Int32)) : va_W := [(q_this, .inr (9, [.ref q_now, w_kept, w_trial, .int v_hasImage, .ref q_refusals, w_row, .int v_rows, w_letters, .int v_lettered, w_dists, w_left, w_steps, .int v_stepsMany, w_partners, w_times, w_spliced, .int v_splicedMany, w_piece, w_balances, w_prices, w_hands, w_hand, w_dealing, .int v_most, .int v_together, .int v_z])), (q_now, .inl (D.1 100, 50, .inl v_now)), (q_refusals, .inl (D.1 100, 7, .inl v_refusals))]
theorem w_X10_home_g0 {D : va_G} {q_this : Nat} {q_now : Nat} {q_refusals : Nat} {w_kept : Value} {w_trial : Value} {w_row : Value} {w_letters : Value} {w_dists : Value} {w_left : Value} {w_steps : Value} {w_partners : Value} {w_times : Value} {w_spliced : Value} {w_piece : Value} {w_balances : Value} {w_prices : Value} {w_hands : Value} {w_hand : Value} {w_dealing : Value} {v_hasImage : Int32} {v_rows : Int32} {v_lettered : Int32} {v_stepsMany : Int32} {v_splicedMany : Int32} {v_most : Int32} {v_together : Int32} {v_z : Int32} {v_now : (Nat → Int32)} {v_refusals : (Nat → Int32)} : (w_X10_home D q_this q_now q_refusals w_kept w_trial w_row w_letters w_dists w_left w_steps w_partners w_times w_spliced w_piece w_balances w_prices w_hands w_hand w_dealing v_hasImage v_rows v_lettered v_stepsMany v_splicedMany v_most v_together v_z v_now v_refusals)[0]? = some (q_this, .inr (9, [.ref q_now, w_kept, w_trial, .int v_hasImage, .ref q_refusals, w_row, .int v_rows, w_letters, .int v_lettered, w_dists, w_left, w_steps, .int v_stepsMany, w_partners, w_times, w_spliced, .int v_splicedMany, w_piece, w_balances, w_prices, w_hands, w_hand, w_dealing, .int v_most, .int v_together, .int v_z])) := rfl
theorem w_X10_home_s0 {D : va_G} {q_this : Nat} {q_now : Nat} {q_refusals : Nat} {w_kept : Value} {w_trial : Value} {w_row : Value} {w_letters : Value} {w_dists : Value} {w_left : Value} {w_steps : Value} {w_partners : Value} {w_times : Value} {w_spliced : Value} {w_piece : Value} {w_balances : Value} {w_prices : Value} {w_hands : Value} {w_hand : Value} {w_dealing : Value} {v_hasImage : Int32} {v_rows : Int32} {v_lettered : Int32} {v_stepsMany : Int32} {v_splicedMany : Int32} {v_most : Int32} {v_together : Int32} {v_z : Int32} {v_now : (Nat → Int32)} {v_refusals : (Nat → Int32)} {v_hasImage' : Int32} {v_rows' : Int32} {v_lettered' : Int32} {v_stepsMany' : Int32} {v_splicedMany' : Int32} {v_most' : Int32} {v_together' : Int32} {v_z' : Int32} : (w_X10_home D q_this q_now q_refusals w_kept w_trial w_row w_letters w_dists w_left w_steps w_partners w_times w_spliced w_piece w_balances w_prices w_hands w_hand w_dealing v_hasImage v_rows v_lettered v_stepsMany v_splicedMany v_most v_together v_z v_now v_refusals).set 0 (q_this, .inr (9, [.ref q_now, w_kept, w_trial, .int v_hasImage', .ref q_refusals, w_row, .int v_rows', w_letters, .int v_lettered', w_dists, w_left, w_steps, .int v_stepsMany', w_partners, w_times, w_spliced, .int v_splicedMany', w_piece, w_balances, w_prices, w_hands, w_hand, w_dealing, .int v_most', .int v_together', .int v_z'])) = (w_X10_home D q_this q_now q_refusals w_kept w_trial w_row w_letters w_dists w_left w_steps w_partners w_times w_spliced w_piece w_balances w_prices w_hands w_hand w_dealing v_hasImage' v_rows' v_lettered' v_stepsMany' v_splicedMany' v_most' v_together' v_z' v_now v_refusals) := rfl
theorem w_X10_home_g1 {D : va_G} {q_this : Nat} {q_now : Nat} {q_refusals : Nat} {w_kept : Value} {w_trial : Value} {w_row : Value} {w_letters : Value} {w_dists : Value} {w_left : Value} {w_steps : Value} {w_partners : Value} {w_times : Value} {w_spliced : Value} {w_piece : Value} {w_balances : Value} {w_prices : Value} {w_hands : Value} {w_hand : Value} {w_dealing : Value} {v_hasImage : Int32} {v_rows : Int32} {v_lettered : Int32} {v_stepsMany : Int32} {v_splicedMany : Int32} {v_most : Int32} {v_together : Int32} {v_z : Int32} {v_now : (Nat → Int32)} {v_refusals : (Nat → Int32)} : (w_X10_home D q_this q_now q_refusals w_kept w_trial w_row w_letters w_dists w_left w_steps w_partners w_times w_spliced w_piece w_balances w_prices w_hands w_hand w_dealing v_hasImage v_rows v_lettered v_stepsMany v_splicedMany v_most v_together v_z v_now v_refusals)[1]? = some (q_now, .inl (D.1 100, 50, .inl v_now)) := rfl
theorem w_X10_home_s1 {D : va_G} {q_this : Nat} {q_now : Nat} {q_refusals : Nat} {w_kept : Value} {w_trial : Value} {w_row : Value} {w_letters : Value} {w_dists : Value} {w_left : Value} {w_steps : Value} {w_partners : Value} {w_times : Value} {w_spliced : Value} {w_piece : Value} {w_balances : Value} {w_prices : Value} {w_hands : Value} {w_hand : Value} {w_dealing : Value} {v_hasImage : Int32} {v_rows : Int32} {v_lettered : Int32} {v_stepsMany : Int32} {v_splicedMany : Int32} {v_most : Int32} {v_together : Int32} {v_z : Int32} {v_now : (Nat → Int32)} {v_refusals : (Nat → Int32)} {v_now' : (Nat → Int32)} : (w_X10_home D q_this q_now q_refusals w_kept w_trial w_row w_letters w_dists w_left w_steps w_partners w_times w_spliced w_piece w_balances w_prices w_hands w_hand w_dealing v_hasImage v_rows v_lettered v_stepsMany v_splicedMany v_most v_together v_z v_now v_refusals).set 1 (q_now, .inl (D.1 100, 50, .inl v_now')) = (w_X10_home D q_this q_now q_refusals w_kept w_trial w_row w_letters w_dists w_left w_steps w_partners w_times w_spliced w_piece w_balances w_prices w_hands w_hand w_dealing v_hasImage v_rows v_lettered v_stepsMany v_splicedMany v_most v_together v_z v_now' v_refusals) := rfl
theorem w_X10_home_g2 {D : va_G} {q_this : Nat} {q_now : Nat} {q_refusals : Nat} {w_kept : Value} {w_trial : Value} {w_row : Value} {w_letters : Value} {w_dists : Value} {w_left : Value} {w_steps : Value} {w_partners : Value} {w_times : Value} {w_spliced : Value} {w_piece : Value} {w_balances : Value} {w_prices : Value} {w_hands : Value} {w_hand : Value} {w_dealing : Value} {v_hasImage : Int32} {v_rows : Int32} {v_lettered : Int32} {v_stepsMany : Int32} {v_splicedMany : Int32} {v_most : Int32} {v_together : Int32} {v_z : Int32} {v_now : (Nat → Int32)} {v_refusals : (Nat → Int32)} : (w_X10_home D q_this q_now q_refusals w_kept w_trial w_row w_letters w_dists w_left w_steps w_partners w_times w_spliced w_piece w_balances w_prices w_hands w_hand w_dealing v_hasImage v_rows v_lettered v_stepsMany v_splicedMany v_most v_together v_z v_now v_refusals)[2]? = some (q_refusals, .inl (D.1 100, 7, .inl v_refusals)) := rfl
theorem w_X10_home_s2 {D : va_G} {q_this : Nat} {q_now : Nat} {q_refusals : Nat} {w_kept : Value} {w_trial : Value} {w_row : Value} {w_letters : Value} {w_dists : Value} {w_left : Value} {w_steps : Value} {w_partners : Value} {w_times : Value} {w_spliced : Value} {w_piece : Value} {w_balances : Value} {w_prices : Value} {w_hands : Value} {w_hand : Value} {w_dealing : Value} {v_hasImage : Int32} {v_rows : Int32} {v_lettered : Int32} {v_stepsMany : Int32} {v_splicedMany : Int32} {v_most : Int32} {v_together : Int32} {v_z : Int32} {v_now : (Nat → Int32)} {v_refusals : (Nat → Int32)} {v_refusals' : (Nat → Int32)} : (w_X10_home D q_this q_now q_refusals w_kept w_trial w_row w_letters w_dists w_left w_steps w_partners w_times w_spliced w_piece w_balances w_prices w_hands w_hand w_dealing v_hasImage v_rows v_lettered v_stepsMany v_splicedMany v_most v_together v_z v_now v_refusals).set 2 (q_refusals, .inl (D.1 100, 7, .inl v_refusals')) = (w_X10_home D q_this q_now q_refusals w_kept w_trial w_row w_letters w_dists w_left w_steps w_partners w_times w_spliced w_piece w_balances w_prices w_hands w_hand w_dealing v_hasImage v_rows v_lettered v_stepsMany v_splicedMany v_most v_together v_z v_now v_refusals') := rfl
theorem w_X10_home_a {D : va_G} {q_this : Nat} {q_now : Nat} {q_refusals : Nat} {w_kept : Value} {w_trial : Value} {w_row : Value} {w_letters : Value} {w_dists : Value} {w_left : Value} {w_steps : Value} {w_partners : Value} {w_times : Value} {w_spliced : Value} {w_piece : Value} {w_balances : Value} {w_prices : Value} {w_hands : Value} {w_hand : Value} {w_dealing : Value} {v_hasImage : Int32} {v_rows : Int32} {v_lettered : Int32} {v_stepsMany : Int32} {v_splicedMany : Int32} {v_most : Int32} {v_together : Int32} {v_z : Int32} {v_now : (Nat → Int32)} {v_refusals : (Nat → Int32)} : (w_X10_home D q_this q_now q_refusals w_kept w_trial w_row w_letters w_dists w_left w_steps w_partners w_times w_spliced w_piece w_balances w_prices w_hands w_hand w_dealing v_hasImage v_rows v_lettered v_stepsMany v_splicedMany v_most v_together v_z v_now v_refusals).map (fun q => q.1) = [q_this, q_now, q_refusals] := rfl
def f_X10_home (x1 : Int32) (v_now : (Nat → Int32)) (v_refusals : (Nat → Int32)) : Option (Int32 × (Nat → Int32) × (Nat → Int32)) :=
  (f_X10_isCorner x1).bind (fun r_isCorner_1 => (if r_isCorner_1 = 0 then (f_X10_refused (-1 : Int32) v_refusals).bind (fun r_refused_2 => some (r_refused_2.1, v_now, r_refused_2.2)) else ga (48 : Int32) 50 (ga (48 : Int32) 50 (some (v_now (Int32.toNatClampNeg (48 : Int32)), upd v_now (Int32.toNatClampNeg (48 : Int32)) x1, v_refusals)))))
set_option maxRecDepth 100000 in
set_option maxHeartbeats 4000000 in
theorem c_X10_home (l : Launch) (D : va_G) {q_this q_now q_refusals : Nat} {w_kept w_trial w_row w_letters w_dists w_left w_steps w_partners w_times w_spliced w_piece w_balances w_prices w_hands w_hand w_dealing : Value} {v_hasImage : Int32} {v_rows : Int32} {v_lettered : Int32} {v_stepsMany : Int32} {v_splicedMany : Int32} {v_most : Int32} {v_together : Int32} {v_z : Int32} {v_now : (Nat → Int32)} {v_refusals : (Nat → Int32)} {x1 : Int32} {o : (Int32 × (Nat → Int32) × (Nat → Int32))} (h : f_X10_home x1 v_now v_refusals = some o) : CT l D yX10_home cX10_home 3 (Option.some FieldType.int) 2 [.ref q_this, .int x1] (w_X10_home D q_this q_now q_refusals w_kept w_trial w_row w_letters w_dists w_left w_steps w_partners w_times w_spliced w_piece w_balances w_prices w_hands w_hand w_dealing v_hasImage v_rows v_lettered v_stepsMany v_splicedMany v_most v_together v_z v_now v_refusals) (w_X10_home D q_this q_now q_refusals w_kept w_trial w_row w_letters w_dists w_left w_steps w_partners w_times w_spliced w_piece w_balances w_prices w_hands w_hand w_dealing v_hasImage v_rows v_lettered v_stepsMany v_splicedMany v_most v_together v_z o.2.1 o.2.2) (some (.int o.1)) := by
  refine CT.of mk_X10_home (Nat.le_of_ble_eq_true rfl) (fun g hl hD C E => ?_)
  subst hl
  subst hD
  unfold f_X10_home at h
  refine j_iload_n C dX10_home_0 rfl ?_
  obtain ⟨r_isCorner_1, h_1, h⟩ := of_bind h
  refine j_callS1 C mk_X10_isCorner ms_X10_isCorner kw_1108 (c_X10_isCorner (gl g) (gD g) h_1) (by decide) [] hC_nil rfl (w_X10_isCorner_a.trans w_X10_isCorner_a.symm) rfl rfl (Nat.le_of_ble_eq_true rfl) dX10_home_1 wput_nil ?_
  refine j_if_ne C h 13 dX10_home_4 (by decide) (fun hc h => ?_) (fun hc h => ?_)
  · refine j_aload_n C dX10_home_7 rfl ?_
    refine j_iconst C (-1) dX10_home_8 ki_m1 ?_
    obtain ⟨r_refused_2, h_2, h⟩ := of_bind h
    refine j_callV1 C mk_X10_refused ms_X10_refused kw_1064 (c_X10_refused (gl g) (gD g) h_2) (by decide) 0 w_X10_home_g0 rfl [0, 2] (hC_cons w_X10_home_g0 (hC_cons w_X10_home_g2 hC_nil)) rfl (w_X10_refused_a.trans w_X10_refused_a.symm) rfl rfl (Nat.le_of_ble_eq_true rfl) dX10_home_9 (wput_cons w_X10_home_s0 (wput_cons w_X10_home_s2 wput_nil)) ?_
    have h := Option.some.inj h
    subst h
    exact j_iret C E dX10_home_12
  · refine j_aload_n C dX10_home_13 rfl ?_
    refine j_get C 0 w_X10_home_g0 rfl inX10 0 (by decide) kw_981 rfl rfl dX10_home_14 ?_
    refine j_bipush C (48) dX10_home_17 kb_48 ?_
    refine j_iaload 1 C h w_X10_home_g1 rfl dX10_home_19 (fun h => ?_)
    refine j_istore_n C dX10_home_20 (by decide) ?_
    refine j_aload_n C dX10_home_21 rfl ?_
    refine j_get C 0 w_X10_home_g0 rfl inX10 0 (by decide) kw_981 rfl rfl dX10_home_22 ?_
    refine j_bipush C (48) dX10_home_25 kb_48 ?_
    refine j_iload_n C dX10_home_27 rfl ?_
    refine j_iastore 1 C h w_X10_home_g1 rfl dX10_home_28 (fun h => ?_)
    refine j_ws w_X10_home_s1 ?_
    refine j_iload_n C dX10_home_29 rfl ?_
    have h := Option.some.inj h
    subst h
    exact j_iret C E dX10_home_30

def w_X10_street (D : va_G) (q_this q_now q_refusals : Nat) (w_kept w_trial w_row w_letters w_dists w_left w_steps w_partners w_times w_spliced w_piece w_balances w_prices w_hands w_hand w_dealing : Value) (v_hasImage : Int32) (v_rows : Int32) (v_lettered : Int32) (v_stepsMany : Int32) (v_splicedMany : Int32) (v_most : Int32) (v_together : Int32) (v_z : Int32) (v_now : (Nat → Int32)) (v_refusals : (Nat → Int32)) : va_W := [(q_this, .inr (9, [.ref q_now, w_kept, w_trial, .int v_hasImage, .ref q_refusals, w_row, .int v_rows, w_letters, .int v_lettered, w_dists, w_left, w_steps, .int v_stepsMany, w_partners, w_times, w_spliced, .int v_splicedMany, w_piece, w_balances, w_prices, w_hands, w_hand, w_dealing, .int v_most, .int v_together, .int v_z])), (q_now, .inl (D.1 100, 50, .inl v_now)), (q_refusals, .inl (D.1 100, 7, .inl v_refusals))]
theorem w_X10_street_g0 {D : va_G} {q_this : Nat} {q_now : Nat} {q_refusals : Nat} {w_kept : Value} {w_trial : Value} {w_row : Value} {w_letters : Value} {w_dists : Value} {w_left : Value} {w_steps : Value} {w_partners : Value} {w_times : Value} {w_spliced : Value} {w_piece : Value} {w_balances : Value} {w_prices : Value} {w_hands : Value} {w_hand : Value} {w_dealing : Value} {v_hasImage : Int32} {v_rows : Int32} {v_lettered : Int32} {v_stepsMany : Int32} {v_splicedMany : Int32} {v_most : Int32} {v_together : Int32} {v_z : Int32} {v_now : (Nat → Int32)} {v_refusals : (Nat → Int32)} : (w_X10_street D q_this q_now q_refusals w_kept w_trial w_row w_letters w_dists w_left w_steps w_partners w_times w_spliced w_piece w_balances w_prices w_hands w_hand w_dealing v_hasImage v_rows v_lettered v_stepsMany v_splicedMany v_most v_together v_z v_now v_refusals)[0]? = some (q_this, .inr (9, [.ref q_now, w_kept, w_trial, .int v_hasImage, .ref q_refusals, w_row, .int v_rows, w_letters, .int v_lettered, w_dists, w_left, w_steps, .int v_stepsMany, w_partners, w_times, w_spliced, .int v_splicedMany, w_piece, w_balances, w_prices, w_hands, w_hand, w_dealing, .int v_most, .int v_together, .int v_z])) := rfl
theorem w_X10_street_s0 {D : va_G} {q_this : Nat} {q_now : Nat} {q_refusals : Nat} {w_kept : Value} {w_trial : Value} {w_row : Value} {w_letters : Value} {w_dists : Value} {w_left : Value} {w_steps : Value} {w_partners : Value} {w_times : Value} {w_spliced : Value} {w_piece : Value} {w_balances : Value} {w_prices : Value} {w_hands : Value} {w_hand : Value} {w_dealing : Value} {v_hasImage : Int32} {v_rows : Int32} {v_lettered : Int32} {v_stepsMany : Int32} {v_splicedMany : Int32} {v_most : Int32} {v_together : Int32} {v_z : Int32} {v_now : (Nat → Int32)} {v_refusals : (Nat → Int32)} {v_hasImage' : Int32} {v_rows' : Int32} {v_lettered' : Int32} {v_stepsMany' : Int32} {v_splicedMany' : Int32} {v_most' : Int32} {v_together' : Int32} {v_z' : Int32} : (w_X10_street D q_this q_now q_refusals w_kept w_trial w_row w_letters w_dists w_left w_steps w_partners w_times w_spliced w_piece w_balances w_prices w_hands w_hand w_dealing v_hasImage v_rows v_lettered v_stepsMany v_splicedMany v_most v_together v_z v_now v_refusals).set 0 (q_this, .inr (9, [.ref q_now, w_kept, w_trial, .int v_hasImage', .ref q_refusals, w_row, .int v_rows', w_letters, .int v_lettered', w_dists, w_left, w_steps, .int v_stepsMany', w_partners, w_times, w_spliced, .int v_splicedMany', w_piece, w_balances, w_prices, w_hands, w_hand, w_dealing, .int v_most', .int v_together', .int v_z'])) = (w_X10_street D q_this q_now q_refusals w_kept w_trial w_row w_letters w_dists w_left w_steps w_partners w_times w_spliced w_piece w_balances w_prices w_hands w_hand w_dealing v_hasImage' v_rows' v_lettered' v_stepsMany' v_splicedMany' v_most' v_together' v_z' v_now v_refusals) := rfl
theorem w_X10_street_g1 {D : va_G} {q_this : Nat} {q_now : Nat} {q_refusals : Nat} {w_kept : Value} {w_trial : Value} {w_row : Value} {w_letters : Value} {w_dists : Value} {w_left : Value} {w_steps : Value} {w_partners : Value} {w_times : Value} {w_spliced : Value} {w_piece : Value} {w_balances : Value} {w_prices : Value} {w_hands : Value} {w_hand : Value} {w_dealing : Value} {v_hasImage : Int32} {v_rows : Int32} {v_lettered : Int32} {v_stepsMany : Int32} {v_splicedMany : Int32} {v_most : Int32} {v_together : Int32} {v_z : Int32} {v_now : (Nat → Int32)} {v_refusals : (Nat → Int32)} : (w_X10_street D q_this q_now q_refusals w_kept w_trial w_row w_letters w_dists w_left w_steps w_partners w_times w_spliced w_piece w_balances w_prices w_hands w_hand w_dealing v_hasImage v_rows v_lettered v_stepsMany v_splicedMany v_most v_together v_z v_now v_refusals)[1]? = some (q_now, .inl (D.1 100, 50, .inl v_now)) := rfl
theorem w_X10_street_s1 {D : va_G} {q_this : Nat} {q_now : Nat} {q_refusals : Nat} {w_kept : Value} {w_trial : Value} {w_row : Value} {w_letters : Value} {w_dists : Value} {w_left : Value} {w_steps : Value} {w_partners : Value} {w_times : Value} {w_spliced : Value} {w_piece : Value} {w_balances : Value} {w_prices : Value} {w_hands : Value} {w_hand : Value} {w_dealing : Value} {v_hasImage : Int32} {v_rows : Int32} {v_lettered : Int32} {v_stepsMany : Int32} {v_splicedMany : Int32} {v_most : Int32} {v_together : Int32} {v_z : Int32} {v_now : (Nat → Int32)} {v_refusals : (Nat → Int32)} {v_now' : (Nat → Int32)} : (w_X10_street D q_this q_now q_refusals w_kept w_trial w_row w_letters w_dists w_left w_steps w_partners w_times w_spliced w_piece w_balances w_prices w_hands w_hand w_dealing v_hasImage v_rows v_lettered v_stepsMany v_splicedMany v_most v_together v_z v_now v_refusals).set 1 (q_now, .inl (D.1 100, 50, .inl v_now')) = (w_X10_street D q_this q_now q_refusals w_kept w_trial w_row w_letters w_dists w_left w_steps w_partners w_times w_spliced w_piece w_balances w_prices w_hands w_hand w_dealing v_hasImage v_rows v_lettered v_stepsMany v_splicedMany v_most v_together v_z v_now' v_refusals) := rfl
theorem w_X10_street_g2 {D : va_G} {q_this : Nat} {q_now : Nat} {q_refusals : Nat} {w_kept : Value} {w_trial : Value} {w_row : Value} {w_letters : Value} {w_dists : Value} {w_left : Value} {w_steps : Value} {w_partners : Value} {w_times : Value} {w_spliced : Value} {w_piece : Value} {w_balances : Value} {w_prices : Value} {w_hands : Value} {w_hand : Value} {w_dealing : Value} {v_hasImage : Int32} {v_rows : Int32} {v_lettered : Int32} {v_stepsMany : Int32} {v_splicedMany : Int32} {v_most : Int32} {v_together : Int32} {v_z : Int32} {v_now : (Nat → Int32)} {v_refusals : (Nat → Int32)} : (w_X10_street D q_this q_now q_refusals w_kept w_trial w_row w_letters w_dists w_left w_steps w_partners w_times w_spliced w_piece w_balances w_prices w_hands w_hand w_dealing v_hasImage v_rows v_lettered v_stepsMany v_splicedMany v_most v_together v_z v_now v_refusals)[2]? = some (q_refusals, .inl (D.1 100, 7, .inl v_refusals)) := rfl
theorem w_X10_street_s2 {D : va_G} {q_this : Nat} {q_now : Nat} {q_refusals : Nat} {w_kept : Value} {w_trial : Value} {w_row : Value} {w_letters : Value} {w_dists : Value} {w_left : Value} {w_steps : Value} {w_partners : Value} {w_times : Value} {w_spliced : Value} {w_piece : Value} {w_balances : Value} {w_prices : Value} {w_hands : Value} {w_hand : Value} {w_dealing : Value} {v_hasImage : Int32} {v_rows : Int32} {v_lettered : Int32} {v_stepsMany : Int32} {v_splicedMany : Int32} {v_most : Int32} {v_together : Int32} {v_z : Int32} {v_now : (Nat → Int32)} {v_refusals : (Nat → Int32)} {v_refusals' : (Nat → Int32)} : (w_X10_street D q_this q_now q_refusals w_kept w_trial w_row w_letters w_dists w_left w_steps w_partners w_times w_spliced w_piece w_balances w_prices w_hands w_hand w_dealing v_hasImage v_rows v_lettered v_stepsMany v_splicedMany v_most v_together v_z v_now v_refusals).set 2 (q_refusals, .inl (D.1 100, 7, .inl v_refusals')) = (w_X10_street D q_this q_now q_refusals w_kept w_trial w_row w_letters w_dists w_left w_steps w_partners w_times w_spliced w_piece w_balances w_prices w_hands w_hand w_dealing v_hasImage v_rows v_lettered v_stepsMany v_splicedMany v_most v_together v_z v_now v_refusals') := rfl
theorem w_X10_street_a {D : va_G} {q_this : Nat} {q_now : Nat} {q_refusals : Nat} {w_kept : Value} {w_trial : Value} {w_row : Value} {w_letters : Value} {w_dists : Value} {w_left : Value} {w_steps : Value} {w_partners : Value} {w_times : Value} {w_spliced : Value} {w_piece : Value} {w_balances : Value} {w_prices : Value} {w_hands : Value} {w_hand : Value} {w_dealing : Value} {v_hasImage : Int32} {v_rows : Int32} {v_lettered : Int32} {v_stepsMany : Int32} {v_splicedMany : Int32} {v_most : Int32} {v_together : Int32} {v_z : Int32} {v_now : (Nat → Int32)} {v_refusals : (Nat → Int32)} : (w_X10_street D q_this q_now q_refusals w_kept w_trial w_row w_letters w_dists w_left w_steps w_partners w_times w_spliced w_piece w_balances w_prices w_hands w_hand w_dealing v_hasImage v_rows v_lettered v_stepsMany v_splicedMany v_most v_together v_z v_now v_refusals).map (fun q => q.1) = [q_this, q_now, q_refusals] := rfl
def f_X10_street (x1 : Int32) (x2 : Int32) (v_now : (Nat → Int32)) (v_refusals : (Nat → Int32)) : Option (Int32 × (Nat → Int32)) :=
  (f_X10_isStreet x1 v_now).bind (fun r_isStreet_1 => (if r_isStreet_1 = 0 then (f_X10_refused (-1 : Int32) v_refusals).bind (fun r_refused_5 => some (r_refused_5.1, r_refused_5.2)) else (f_X10_in (Int32.toInt64 x2) (0 : Int64) (7 : Int64)).bind (fun r_in_2 => (if r_in_2 = 0 then (f_X10_refused (-2 : Int32) v_refusals).bind (fun r_refused_4 => some (r_refused_4.1, r_refused_4.2)) else (if (6 : Int32) ≤ x2 then (f_X10_cost ((((2 : Int32) * x1) + x2) - (6 : Int32)) v_now).bind (fun r_cost_3 => some (r_cost_3, v_refusals)) else ga (((8 : Int32) * x2) + x1) 50 (some (v_now (Int32.toNatClampNeg (((8 : Int32) * x2) + x1)), v_refusals)))))))
set_option maxRecDepth 100000 in
set_option maxHeartbeats 4000000 in
theorem c_X10_street (l : Launch) (D : va_G) {q_this q_now q_refusals : Nat} {w_kept w_trial w_row w_letters w_dists w_left w_steps w_partners w_times w_spliced w_piece w_balances w_prices w_hands w_hand w_dealing : Value} {v_hasImage : Int32} {v_rows : Int32} {v_lettered : Int32} {v_stepsMany : Int32} {v_splicedMany : Int32} {v_most : Int32} {v_together : Int32} {v_z : Int32} {v_now : (Nat → Int32)} {v_refusals : (Nat → Int32)} {x1 : Int32} {x2 : Int32} {o : (Int32 × (Nat → Int32))} (h : f_X10_street x1 x2 v_now v_refusals = some o) : CT l D yX10_street cX10_street 3 (Option.some FieldType.int) 2 [.ref q_this, .int x1, .int x2] (w_X10_street D q_this q_now q_refusals w_kept w_trial w_row w_letters w_dists w_left w_steps w_partners w_times w_spliced w_piece w_balances w_prices w_hands w_hand w_dealing v_hasImage v_rows v_lettered v_stepsMany v_splicedMany v_most v_together v_z v_now v_refusals) (w_X10_street D q_this q_now q_refusals w_kept w_trial w_row w_letters w_dists w_left w_steps w_partners w_times w_spliced w_piece w_balances w_prices w_hands w_hand w_dealing v_hasImage v_rows v_lettered v_stepsMany v_splicedMany v_most v_together v_z v_now o.2) (some (.int o.1)) := by
  refine CT.of mk_X10_street (Nat.le_of_ble_eq_true rfl) (fun g hl hD C E => ?_)
  subst hl
  subst hD
  unfold f_X10_street at h
  refine j_aload_n C dX10_street_0 rfl ?_
  refine j_get C 0 w_X10_street_g0 rfl inX10 0 (by decide) kw_981 rfl rfl dX10_street_1 ?_
  refine j_iload_n C dX10_street_4 rfl ?_
  obtain ⟨r_isStreet_1, h_1, h⟩ := of_bind h
  refine j_callS1 C mk_X10_isStreet ms_X10_isStreet kw_1113 (c_X10_isStreet (gl g) (gD g) h_1) (by decide) [1] (hC_cons w_X10_street_g1 hC_nil) rfl (w_X10_isStreet_a.trans w_X10_isStreet_a.symm) rfl rfl (Nat.le_of_ble_eq_true rfl) dX10_street_5 (wput_cons w_X10_street_s1 wput_nil) ?_
  refine j_if_ne C h 17 dX10_street_8 (by decide) (fun hc h => ?_) (fun hc h => ?_)
  · refine j_aload_n C dX10_street_11 rfl ?_
    refine j_iconst C (-1) dX10_street_12 ki_m1 ?_
    obtain ⟨r_refused_5, h_5, h⟩ := of_bind h
    refine j_callV1 C mk_X10_refused ms_X10_refused kw_1064 (c_X10_refused (gl g) (gD g) h_5) (by decide) 0 w_X10_street_g0 rfl [0, 2] (hC_cons w_X10_street_g0 (hC_cons w_X10_street_g2 hC_nil)) rfl (w_X10_refused_a.trans w_X10_refused_a.symm) rfl rfl (Nat.le_of_ble_eq_true rfl) dX10_street_13 (wput_cons w_X10_street_s0 (wput_cons w_X10_street_s2 wput_nil)) ?_
    have h := Option.some.inj h
    subst h
    exact j_iret C E dX10_street_16
  · refine j_iload_n C dX10_street_17 rfl ?_
    refine j_i2l C dX10_street_18 ?_
    refine j_lconst C 0 dX10_street_19 rfl ?_
    refine j_ldc2 C kw_1141 dX10_street_20 ?_
    obtain ⟨r_in_2, h_2, h⟩ := of_bind h
    refine j_callS1 C mk_X10_in ms_X10_in kw_1085 (c_X10_in (gl g) (gD g) h_2) (by decide) [] hC_nil rfl (w_X10_in_a.trans w_X10_in_a.symm) rfl rfl (Nat.le_of_ble_eq_true rfl) dX10_street_23 wput_nil ?_
    refine j_if_ne C h 36 dX10_street_26 (by decide) (fun hc h => ?_) (fun hc h => ?_)
    · refine j_aload_n C dX10_street_29 rfl ?_
      refine j_bipush C (-2) dX10_street_30 kb_m2 ?_
      obtain ⟨r_refused_4, h_4, h⟩ := of_bind h
      refine j_callV1 C mk_X10_refused ms_X10_refused kw_1064 (c_X10_refused (gl g) (gD g) h_4) (by decide) 0 w_X10_street_g0 rfl [0, 2] (hC_cons w_X10_street_g0 (hC_cons w_X10_street_g2 hC_nil)) rfl (w_X10_refused_a.trans w_X10_refused_a.symm) rfl rfl (Nat.le_of_ble_eq_true rfl) dX10_street_32 (wput_cons w_X10_street_s0 (wput_cons w_X10_street_s2 wput_nil)) ?_
      have h := Option.some.inj h
      subst h
      exact j_iret C E dX10_street_35
    · refine j_iload_n C dX10_street_36 rfl ?_
      refine j_bipush C (6) dX10_street_37 kb_6 ?_
      refine j_icmp_ge C h 56 dX10_street_39 (by decide) (fun hc h => ?_) (fun hc h => ?_)
      · refine j_aload_n C dX10_street_56 rfl ?_
        refine j_get C 0 w_X10_street_g0 rfl inX10 0 (by decide) kw_981 rfl rfl dX10_street_57 ?_
        refine j_iconst C (2) dX10_street_60 ki_2 ?_
        refine j_iload_n C dX10_street_61 rfl ?_
        refine j_imul C dX10_street_62 ?_
        refine j_iload_n C dX10_street_63 rfl ?_
        refine j_iadd C dX10_street_64 ?_
        refine j_bipush C (6) dX10_street_65 kb_6 ?_
        refine j_isub C dX10_street_67 ?_
        obtain ⟨r_cost_3, h_3, h⟩ := of_bind h
        refine j_callS1 C mk_X10_cost ms_X10_cost kw_1142 (c_X10_cost (gl g) (gD g) h_3) (by decide) [1] (hC_cons w_X10_street_g1 hC_nil) rfl (w_X10_cost_a.trans w_X10_cost_a.symm) rfl rfl (Nat.le_of_ble_eq_true rfl) dX10_street_68 (wput_cons w_X10_street_s1 wput_nil) ?_
        have h := Option.some.inj h
        subst h
        exact j_iret C E dX10_street_71
      · refine j_aload_n C dX10_street_42 rfl ?_
        refine j_get C 0 w_X10_street_g0 rfl inX10 0 (by decide) kw_981 rfl rfl dX10_street_43 ?_
        refine j_bipush C (8) dX10_street_46 kb_8 ?_
        refine j_iload_n C dX10_street_48 rfl ?_
        refine j_imul C dX10_street_49 ?_
        refine j_iload_n C dX10_street_50 rfl ?_
        refine j_iadd C dX10_street_51 ?_
        refine j_iaload 1 C h w_X10_street_g1 rfl dX10_street_52 (fun h => ?_)
        refine j_goto C 71 dX10_street_53 (by decide) ?_
        have h := Option.some.inj h
        subst h
        exact j_iret C E dX10_street_71

def w_X10_degree (D : va_G) (q_p1 : Nat) (v_p1 : (Nat → Int32)) : va_W := [(q_p1, .inl (D.1 100, 50, .inl v_p1))]
theorem w_X10_degree_g0 {D : va_G} {q_p1 : Nat} {v_p1 : (Nat → Int32)} : (w_X10_degree D q_p1 v_p1)[0]? = some (q_p1, .inl (D.1 100, 50, .inl v_p1)) := rfl
theorem w_X10_degree_s0 {D : va_G} {q_p1 : Nat} {v_p1 : (Nat → Int32)} {v_p1' : (Nat → Int32)} : (w_X10_degree D q_p1 v_p1).set 0 (q_p1, .inl (D.1 100, 50, .inl v_p1')) = (w_X10_degree D q_p1 v_p1') := rfl
theorem w_X10_degree_a {D : va_G} {q_p1 : Nat} {v_p1 : (Nat → Int32)} : (w_X10_degree D q_p1 v_p1).map (fun q => q.1) = [q_p1] := rfl
def f_X10_degree_b4 (v_p1 : (Nat → Int32)) (x3_4 : Int32) (x2_4 : Int32) (x1 : Int32) : Option ((Int32 × Int32) ⊕ Int32) :=
  ga (49 : Int32) 50 ((if (v_p1 (Int32.toNatClampNeg (49 : Int32))) ≤ x3_4 then some (.inr x2_4) else (f_X10_isDue x3_4 v_p1).bind (fun r_isDue_1 => (if r_isDue_1 = 0 then some (.inl (x2_4 + (0 : Int32), x3_4 + (1 : Int32))) else ga ((0 : Int32) + x3_4) 50 ((if (v_p1 (Int32.toNatClampNeg ((0 : Int32) + x3_4))) = x1 then some (.inl (x2_4 + (1 : Int32), x3_4 + (1 : Int32))) else ga ((8 : Int32) + x3_4) 50 (some (.inl (x2_4 + (if (v_p1 (Int32.toNatClampNeg ((8 : Int32) + x3_4))) = x1 then (1 : Int32) else (0 : Int32)), x3_4 + (1 : Int32))))))))))
def f_X10_degree (N : Nat) (x1 : Int32) (v_p1 : (Nat → Int32)) : Option Int32 :=
  (lp (fun s_4 => f_X10_degree_b4 v_p1 s_4.2 s_4.1 x1) N ((0 : Int32), (0 : Int32))).bind (fun e_4 => some e_4)
set_option maxRecDepth 100000 in
set_option maxHeartbeats 4000000 in
theorem c_X10_degree (l : Launch) (D : va_G) (N : Nat) {q_p1 : Nat} {v_p1 : (Nat → Int32)} {x1 : Int32} {o : Int32} (h : f_X10_degree N x1 v_p1 = some o) : CT l D yX10_degree cX10_degree 4 (Option.some FieldType.int) 1 [.ref q_p1, .int x1] (w_X10_degree D q_p1 v_p1) (w_X10_degree D q_p1 v_p1) (some (.int o)) := by
  refine CT.of mk_X10_degree (Nat.le_of_ble_eq_true rfl) (fun g hl hD C E => ?_)
  subst hl
  subst hD
  unfold f_X10_degree at h
  refine j_iconst C (0) dX10_degree_0 ki_0 ?_
  refine j_istore_n C dX10_degree_1 (by decide) ?_
  refine j_iconst C (0) dX10_degree_2 ki_0 ?_
  refine j_istore_n C dX10_degree_3 (by decide) ?_
  obtain ⟨e_4, hl_4, h⟩ := of_bind h
  have ha_4 : J g (w_X10_degree (gD g) q_p1 v_p1) [(2, .int (e_4))] 53 [] := by
    refine j_iload_n C dX10_degree_53 rfl ?_
    have h := Option.some.inj h
    subst h
    exact j_iret C E dX10_degree_54
  refine j_lv (lv' := [(0, .ref q_p1), (1, .int (x1)), (2, .int ((0 : Int32))), (3, .int ((0 : Int32)))]) rfl ?_
  refine lp_ind hl_4 (fun s_4 => J g (w_X10_degree (gD g) q_p1 v_p1) [(0, .ref q_p1), (1, .int (x1)), (2, .int (s_4.1)), (3, .int (s_4.2))] 4 []) (fun s_4 r_4 h hc_4 hx_4 => ?_)
  unfold f_X10_degree_b4 at h
  refine j_iload_n C dX10_degree_4 rfl ?_
  refine j_aload_n C dX10_degree_5 rfl ?_
  refine j_bipush C (49) dX10_degree_6 kb_49 ?_
  refine j_iaload 0 C h w_X10_degree_g0 rfl dX10_degree_8 (fun h => ?_)
  refine j_icmp_ge C h 53 dX10_degree_9 (by decide) (fun hc h => ?_) (fun hc h => ?_)
  · have h := Option.some.inj h
    subst h
    have h9 := hx_4 _ rfl
    subst h9
    exact j_lw ha_4 rfl
  · refine j_iload_n C dX10_degree_12 rfl ?_
    refine j_aload_n C dX10_degree_13 rfl ?_
    refine j_iload_n C dX10_degree_14 rfl ?_
    obtain ⟨r_isDue_1, h_1, h⟩ := of_bind h
    refine j_callS1 C mk_X10_isDue ms_X10_isDue kw_1153 (c_X10_isDue (gl g) (gD g) h_1) (by decide) [0] (hC_cons w_X10_degree_g0 hC_nil) rfl (w_X10_isDue_a.trans w_X10_isDue_a.symm) rfl rfl (Nat.le_of_ble_eq_true rfl) dX10_degree_15 (wput_cons w_X10_degree_s0 wput_nil) ?_
    refine j_if_eq C h 44 dX10_degree_18 (by decide) (fun hc h => ?_) (fun hc h => ?_)
    · refine j_iconst C (0) dX10_degree_44 ki_0 ?_
      refine j_iadd C dX10_degree_45 ?_
      refine j_istore_n C dX10_degree_46 (by decide) ?_
      refine j_inc C (1) dX10_degree_47 rfl ki_1 (by decide) ?_
      refine j_goto C 4 dX10_degree_50 (by decide) ?_
      have h := Option.some.inj h
      subst h
      have hc9 := hc_4 _ rfl
      exact j_lw hc9 rfl
    · refine j_aload_n C dX10_degree_21 rfl ?_
      refine j_iconst C (0) dX10_degree_22 ki_0 ?_
      refine j_iload_n C dX10_degree_23 rfl ?_
      refine j_iadd C dX10_degree_24 ?_
      refine j_iaload 0 C h w_X10_degree_g0 rfl dX10_degree_25 (fun h => ?_)
      refine j_iload_n C dX10_degree_26 rfl ?_
      refine j_icmp_eq C h 40 dX10_degree_27 (by decide) (fun hc h => ?_) (fun hc h => ?_)
      · refine j_iconst C (1) dX10_degree_40 ki_1 ?_
        refine j_goto C 45 dX10_degree_41 (by decide) ?_
        refine j_iadd C dX10_degree_45 ?_
        refine j_istore_n C dX10_degree_46 (by decide) ?_
        refine j_inc C (1) dX10_degree_47 rfl ki_1 (by decide) ?_
        refine j_goto C 4 dX10_degree_50 (by decide) ?_
        have h := Option.some.inj h
        subst h
        have hc9 := hc_4 _ rfl
        exact j_lw hc9 rfl
      · refine j_aload_n C dX10_degree_30 rfl ?_
        refine j_bipush C (8) dX10_degree_31 kb_8 ?_
        refine j_iload_n C dX10_degree_33 rfl ?_
        refine j_iadd C dX10_degree_34 ?_
        refine j_iaload 0 C h w_X10_degree_g0 rfl dX10_degree_35 (fun h => ?_)
        refine j_iload_n C dX10_degree_36 rfl ?_
        have hj_2 : J g (w_X10_degree (gD g) q_p1 v_p1) [(0, .ref q_p1), (1, .int (x1)), (3, .int (s_4.2))] 45 [.int (if (v_p1 (Int32.toNatClampNeg ((8 : Int32) + s_4.2))) = x1 then (1 : Int32) else (0 : Int32)), .int (s_4.1)] := by
          refine j_iadd C dX10_degree_45 ?_
          refine j_istore_n C dX10_degree_46 (by decide) ?_
          refine j_inc C (1) dX10_degree_47 rfl ki_1 (by decide) ?_
          refine j_goto C 4 dX10_degree_50 (by decide) ?_
          have h := Option.some.inj h
          subst h
          have hc9 := hc_4 _ rfl
          exact j_lw hc9 rfl
        refine jv_icmp_ne C 44 dX10_degree_37 (by decide) (fun hc => ?_) (fun hc => ?_)
        · try simp only [if_pos hc] at hj_2
          refine j_iconst C (1) dX10_degree_40 ki_1 ?_
          refine j_goto C 45 dX10_degree_41 (by decide) ?_
          exact j_lw hj_2 rfl
        · try simp only [if_neg hc] at hj_2
          refine j_iconst C (0) dX10_degree_44 ki_0 ?_
          exact j_lw hj_2 rfl

def w_X10_corner (D : va_G) (q_this q_now q_refusals q_dists : Nat) (w_kept w_trial w_row w_letters w_left w_steps w_partners w_times w_spliced w_piece w_balances w_prices w_hands w_hand w_dealing : Value) (v_hasImage : Int32) (v_rows : Int32) (v_lettered : Int32) (v_stepsMany : Int32) (v_splicedMany : Int32) (v_most : Int32) (v_together : Int32) (v_z : Int32) (v_now : (Nat → Int32)) (v_refusals : (Nat → Int32)) (v_dists : (Nat → Int32)) : va_W := [(q_this, .inr (9, [.ref q_now, w_kept, w_trial, .int v_hasImage, .ref q_refusals, w_row, .int v_rows, w_letters, .int v_lettered, .ref q_dists, w_left, w_steps, .int v_stepsMany, w_partners, w_times, w_spliced, .int v_splicedMany, w_piece, w_balances, w_prices, w_hands, w_hand, w_dealing, .int v_most, .int v_together, .int v_z])), (q_now, .inl (D.1 100, 50, .inl v_now)), (q_refusals, .inl (D.1 100, 7, .inl v_refusals)), (q_dists, .inl (D.1 100, 36, .inl v_dists))]
theorem w_X10_corner_g0 {D : va_G} {q_this : Nat} {q_now : Nat} {q_refusals : Nat} {q_dists : Nat} {w_kept : Value} {w_trial : Value} {w_row : Value} {w_letters : Value} {w_left : Value} {w_steps : Value} {w_partners : Value} {w_times : Value} {w_spliced : Value} {w_piece : Value} {w_balances : Value} {w_prices : Value} {w_hands : Value} {w_hand : Value} {w_dealing : Value} {v_hasImage : Int32} {v_rows : Int32} {v_lettered : Int32} {v_stepsMany : Int32} {v_splicedMany : Int32} {v_most : Int32} {v_together : Int32} {v_z : Int32} {v_now : (Nat → Int32)} {v_refusals : (Nat → Int32)} {v_dists : (Nat → Int32)} : (w_X10_corner D q_this q_now q_refusals q_dists w_kept w_trial w_row w_letters w_left w_steps w_partners w_times w_spliced w_piece w_balances w_prices w_hands w_hand w_dealing v_hasImage v_rows v_lettered v_stepsMany v_splicedMany v_most v_together v_z v_now v_refusals v_dists)[0]? = some (q_this, .inr (9, [.ref q_now, w_kept, w_trial, .int v_hasImage, .ref q_refusals, w_row, .int v_rows, w_letters, .int v_lettered, .ref q_dists, w_left, w_steps, .int v_stepsMany, w_partners, w_times, w_spliced, .int v_splicedMany, w_piece, w_balances, w_prices, w_hands, w_hand, w_dealing, .int v_most, .int v_together, .int v_z])) := rfl
theorem w_X10_corner_s0 {D : va_G} {q_this : Nat} {q_now : Nat} {q_refusals : Nat} {q_dists : Nat} {w_kept : Value} {w_trial : Value} {w_row : Value} {w_letters : Value} {w_left : Value} {w_steps : Value} {w_partners : Value} {w_times : Value} {w_spliced : Value} {w_piece : Value} {w_balances : Value} {w_prices : Value} {w_hands : Value} {w_hand : Value} {w_dealing : Value} {v_hasImage : Int32} {v_rows : Int32} {v_lettered : Int32} {v_stepsMany : Int32} {v_splicedMany : Int32} {v_most : Int32} {v_together : Int32} {v_z : Int32} {v_now : (Nat → Int32)} {v_refusals : (Nat → Int32)} {v_dists : (Nat → Int32)} {v_hasImage' : Int32} {v_rows' : Int32} {v_lettered' : Int32} {v_stepsMany' : Int32} {v_splicedMany' : Int32} {v_most' : Int32} {v_together' : Int32} {v_z' : Int32} : (w_X10_corner D q_this q_now q_refusals q_dists w_kept w_trial w_row w_letters w_left w_steps w_partners w_times w_spliced w_piece w_balances w_prices w_hands w_hand w_dealing v_hasImage v_rows v_lettered v_stepsMany v_splicedMany v_most v_together v_z v_now v_refusals v_dists).set 0 (q_this, .inr (9, [.ref q_now, w_kept, w_trial, .int v_hasImage', .ref q_refusals, w_row, .int v_rows', w_letters, .int v_lettered', .ref q_dists, w_left, w_steps, .int v_stepsMany', w_partners, w_times, w_spliced, .int v_splicedMany', w_piece, w_balances, w_prices, w_hands, w_hand, w_dealing, .int v_most', .int v_together', .int v_z'])) = (w_X10_corner D q_this q_now q_refusals q_dists w_kept w_trial w_row w_letters w_left w_steps w_partners w_times w_spliced w_piece w_balances w_prices w_hands w_hand w_dealing v_hasImage' v_rows' v_lettered' v_stepsMany' v_splicedMany' v_most' v_together' v_z' v_now v_refusals v_dists) := rfl
theorem w_X10_corner_g1 {D : va_G} {q_this : Nat} {q_now : Nat} {q_refusals : Nat} {q_dists : Nat} {w_kept : Value} {w_trial : Value} {w_row : Value} {w_letters : Value} {w_left : Value} {w_steps : Value} {w_partners : Value} {w_times : Value} {w_spliced : Value} {w_piece : Value} {w_balances : Value} {w_prices : Value} {w_hands : Value} {w_hand : Value} {w_dealing : Value} {v_hasImage : Int32} {v_rows : Int32} {v_lettered : Int32} {v_stepsMany : Int32} {v_splicedMany : Int32} {v_most : Int32} {v_together : Int32} {v_z : Int32} {v_now : (Nat → Int32)} {v_refusals : (Nat → Int32)} {v_dists : (Nat → Int32)} : (w_X10_corner D q_this q_now q_refusals q_dists w_kept w_trial w_row w_letters w_left w_steps w_partners w_times w_spliced w_piece w_balances w_prices w_hands w_hand w_dealing v_hasImage v_rows v_lettered v_stepsMany v_splicedMany v_most v_together v_z v_now v_refusals v_dists)[1]? = some (q_now, .inl (D.1 100, 50, .inl v_now)) := rfl
theorem w_X10_corner_s1 {D : va_G} {q_this : Nat} {q_now : Nat} {q_refusals : Nat} {q_dists : Nat} {w_kept : Value} {w_trial : Value} {w_row : Value} {w_letters : Value} {w_left : Value} {w_steps : Value} {w_partners : Value} {w_times : Value} {w_spliced : Value} {w_piece : Value} {w_balances : Value} {w_prices : Value} {w_hands : Value} {w_hand : Value} {w_dealing : Value} {v_hasImage : Int32} {v_rows : Int32} {v_lettered : Int32} {v_stepsMany : Int32} {v_splicedMany : Int32} {v_most : Int32} {v_together : Int32} {v_z : Int32} {v_now : (Nat → Int32)} {v_refusals : (Nat → Int32)} {v_dists : (Nat → Int32)} {v_now' : (Nat → Int32)} : (w_X10_corner D q_this q_now q_refusals q_dists w_kept w_trial w_row w_letters w_left w_steps w_partners w_times w_spliced w_piece w_balances w_prices w_hands w_hand w_dealing v_hasImage v_rows v_lettered v_stepsMany v_splicedMany v_most v_together v_z v_now v_refusals v_dists).set 1 (q_now, .inl (D.1 100, 50, .inl v_now')) = (w_X10_corner D q_this q_now q_refusals q_dists w_kept w_trial w_row w_letters w_left w_steps w_partners w_times w_spliced w_piece w_balances w_prices w_hands w_hand w_dealing v_hasImage v_rows v_lettered v_stepsMany v_splicedMany v_most v_together v_z v_now' v_refusals v_dists) := rfl
theorem w_X10_corner_g2 {D : va_G} {q_this : Nat} {q_now : Nat} {q_refusals : Nat} {q_dists : Nat} {w_kept : Value} {w_trial : Value} {w_row : Value} {w_letters : Value} {w_left : Value} {w_steps : Value} {w_partners : Value} {w_times : Value} {w_spliced : Value} {w_piece : Value} {w_balances : Value} {w_prices : Value} {w_hands : Value} {w_hand : Value} {w_dealing : Value} {v_hasImage : Int32} {v_rows : Int32} {v_lettered : Int32} {v_stepsMany : Int32} {v_splicedMany : Int32} {v_most : Int32} {v_together : Int32} {v_z : Int32} {v_now : (Nat → Int32)} {v_refusals : (Nat → Int32)} {v_dists : (Nat → Int32)} : (w_X10_corner D q_this q_now q_refusals q_dists w_kept w_trial w_row w_letters w_left w_steps w_partners w_times w_spliced w_piece w_balances w_prices w_hands w_hand w_dealing v_hasImage v_rows v_lettered v_stepsMany v_splicedMany v_most v_together v_z v_now v_refusals v_dists)[2]? = some (q_refusals, .inl (D.1 100, 7, .inl v_refusals)) := rfl
theorem w_X10_corner_s2 {D : va_G} {q_this : Nat} {q_now : Nat} {q_refusals : Nat} {q_dists : Nat} {w_kept : Value} {w_trial : Value} {w_row : Value} {w_letters : Value} {w_left : Value} {w_steps : Value} {w_partners : Value} {w_times : Value} {w_spliced : Value} {w_piece : Value} {w_balances : Value} {w_prices : Value} {w_hands : Value} {w_hand : Value} {w_dealing : Value} {v_hasImage : Int32} {v_rows : Int32} {v_lettered : Int32} {v_stepsMany : Int32} {v_splicedMany : Int32} {v_most : Int32} {v_together : Int32} {v_z : Int32} {v_now : (Nat → Int32)} {v_refusals : (Nat → Int32)} {v_dists : (Nat → Int32)} {v_refusals' : (Nat → Int32)} : (w_X10_corner D q_this q_now q_refusals q_dists w_kept w_trial w_row w_letters w_left w_steps w_partners w_times w_spliced w_piece w_balances w_prices w_hands w_hand w_dealing v_hasImage v_rows v_lettered v_stepsMany v_splicedMany v_most v_together v_z v_now v_refusals v_dists).set 2 (q_refusals, .inl (D.1 100, 7, .inl v_refusals')) = (w_X10_corner D q_this q_now q_refusals q_dists w_kept w_trial w_row w_letters w_left w_steps w_partners w_times w_spliced w_piece w_balances w_prices w_hands w_hand w_dealing v_hasImage v_rows v_lettered v_stepsMany v_splicedMany v_most v_together v_z v_now v_refusals' v_dists) := rfl
theorem w_X10_corner_g3 {D : va_G} {q_this : Nat} {q_now : Nat} {q_refusals : Nat} {q_dists : Nat} {w_kept : Value} {w_trial : Value} {w_row : Value} {w_letters : Value} {w_left : Value} {w_steps : Value} {w_partners : Value} {w_times : Value} {w_spliced : Value} {w_piece : Value} {w_balances : Value} {w_prices : Value} {w_hands : Value} {w_hand : Value} {w_dealing : Value} {v_hasImage : Int32} {v_rows : Int32} {v_lettered : Int32} {v_stepsMany : Int32} {v_splicedMany : Int32} {v_most : Int32} {v_together : Int32} {v_z : Int32} {v_now : (Nat → Int32)} {v_refusals : (Nat → Int32)} {v_dists : (Nat → Int32)} : (w_X10_corner D q_this q_now q_refusals q_dists w_kept w_trial w_row w_letters w_left w_steps w_partners w_times w_spliced w_piece w_balances w_prices w_hands w_hand w_dealing v_hasImage v_rows v_lettered v_stepsMany v_splicedMany v_most v_together v_z v_now v_refusals v_dists)[3]? = some (q_dists, .inl (D.1 100, 36, .inl v_dists)) := rfl
theorem w_X10_corner_s3 {D : va_G} {q_this : Nat} {q_now : Nat} {q_refusals : Nat} {q_dists : Nat} {w_kept : Value} {w_trial : Value} {w_row : Value} {w_letters : Value} {w_left : Value} {w_steps : Value} {w_partners : Value} {w_times : Value} {w_spliced : Value} {w_piece : Value} {w_balances : Value} {w_prices : Value} {w_hands : Value} {w_hand : Value} {w_dealing : Value} {v_hasImage : Int32} {v_rows : Int32} {v_lettered : Int32} {v_stepsMany : Int32} {v_splicedMany : Int32} {v_most : Int32} {v_together : Int32} {v_z : Int32} {v_now : (Nat → Int32)} {v_refusals : (Nat → Int32)} {v_dists : (Nat → Int32)} {v_dists' : (Nat → Int32)} : (w_X10_corner D q_this q_now q_refusals q_dists w_kept w_trial w_row w_letters w_left w_steps w_partners w_times w_spliced w_piece w_balances w_prices w_hands w_hand w_dealing v_hasImage v_rows v_lettered v_stepsMany v_splicedMany v_most v_together v_z v_now v_refusals v_dists).set 3 (q_dists, .inl (D.1 100, 36, .inl v_dists')) = (w_X10_corner D q_this q_now q_refusals q_dists w_kept w_trial w_row w_letters w_left w_steps w_partners w_times w_spliced w_piece w_balances w_prices w_hands w_hand w_dealing v_hasImage v_rows v_lettered v_stepsMany v_splicedMany v_most v_together v_z v_now v_refusals v_dists') := rfl
theorem w_X10_corner_a {D : va_G} {q_this : Nat} {q_now : Nat} {q_refusals : Nat} {q_dists : Nat} {w_kept : Value} {w_trial : Value} {w_row : Value} {w_letters : Value} {w_left : Value} {w_steps : Value} {w_partners : Value} {w_times : Value} {w_spliced : Value} {w_piece : Value} {w_balances : Value} {w_prices : Value} {w_hands : Value} {w_hand : Value} {w_dealing : Value} {v_hasImage : Int32} {v_rows : Int32} {v_lettered : Int32} {v_stepsMany : Int32} {v_splicedMany : Int32} {v_most : Int32} {v_together : Int32} {v_z : Int32} {v_now : (Nat → Int32)} {v_refusals : (Nat → Int32)} {v_dists : (Nat → Int32)} : (w_X10_corner D q_this q_now q_refusals q_dists w_kept w_trial w_row w_letters w_left w_steps w_partners w_times w_spliced w_piece w_balances w_prices w_hands w_hand w_dealing v_hasImage v_rows v_lettered v_stepsMany v_splicedMany v_most v_together v_z v_now v_refusals v_dists).map (fun q => q.1) = [q_this, q_now, q_refusals, q_dists] := rfl
def f_X10_corner_b124 (x4_124 : Int32) (x3_124 : Int32) (x1 : Int32) (r_measures_3_0 : (Nat → Int32)) : Option ((Int32 × Int32) ⊕ Int32) :=
  (if (6 : Int32) ≤ x4_124 then some (.inr x3_124) else (f_X10_dist x1 x4_124 r_measures_3_0).bind (fun r_dist_4 => some (.inl (x3_124 ||| (if (1000000 : Int32) ≤ r_dist_4 then (0 : Int32) else ((1 : Int32) <<< (x4_124 &&& 31))), x4_124 + (1 : Int32)))))
def f_X10_corner_j6 (x4_j6 : Int32) (x3_55 : Int32) : Option ((Int32 × Int32) ⊕ Int32) :=
  some (.inl (x3_55 ||| ((1 : Int32) <<< (x4_j6 &&& 31)), x4_j6 + (1 : Int32)))
def f_X10_corner_b55 (v_now : (Nat → Int32)) (x4_55 : Int32) (x3_55 : Int32) (x1 : Int32) : Option ((Int32 × Int32) ⊕ Int32) :=
  ga (49 : Int32) 50 ((if (v_now (Int32.toNatClampNeg (49 : Int32))) ≤ x4_55 then some (.inr x3_55) else ga ((0 : Int32) + x4_55) 50 ((if (v_now (Int32.toNatClampNeg ((0 : Int32) + x4_55))) = x1 then f_X10_corner_j6 x4_55 x3_55 else ga ((8 : Int32) + x4_55) 50 ((if (v_now (Int32.toNatClampNeg ((8 : Int32) + x4_55))) = x1 then f_X10_corner_j6 x4_55 x3_55 else some (.inl (x3_55 ||| (0 : Int32), x4_55 + (1 : Int32)))))))))
def f_X10_corner (N : Nat) (x1 : Int32) (x2 : Int32) (v_now : (Nat → Int32)) (v_refusals : (Nat → Int32)) (v_dists : (Nat → Int32)) : Option (Int32 × (Nat → Int32) × (Nat → Int32)) :=
  (f_X10_isCorner x1).bind (fun r_isCorner_1 => (if r_isCorner_1 = 0 then (f_X10_refused (-1 : Int32) v_refusals).bind (fun r_refused_9 => some (r_refused_9.1, r_refused_9.2, v_dists)) else (f_X10_in (Int32.toInt64 x2) (0 : Int64) (2 : Int64)).bind (fun r_in_2 => (if r_in_2 = 0 then (f_X10_refused (-2 : Int32) v_refusals).bind (fun r_refused_8 => some (r_refused_8.1, r_refused_8.2, v_dists)) else (if x2 = 0 then (f_X10_degree N x1 v_now).bind (fun r_degree_7 => some (r_degree_7, v_refusals, v_dists)) else (if x2 = (1 : Int32) then (lp (fun s_55 => f_X10_corner_b55 v_now s_55.2 s_55.1 x1) N ((0 : Int32), (0 : Int32))).bind (fun e_55 => some (e_55, v_refusals, v_dists)) else (f_X10_measures N v_dists v_now).bind (fun r_measures_3 => (lp (fun s_124 => f_X10_corner_b124 s_124.2 s_124.1 x1 r_measures_3) N ((0 : Int32), (0 : Int32))).bind (fun e_124 => some (e_124, v_refusals, r_measures_3)))))))))
set_option maxRecDepth 100000 in
set_option maxHeartbeats 4000000 in
theorem c_X10_corner (l : Launch) (D : va_G) (N : Nat) {q_this q_now q_refusals q_dists : Nat} {w_kept w_trial w_row w_letters w_left w_steps w_partners w_times w_spliced w_piece w_balances w_prices w_hands w_hand w_dealing : Value} {v_hasImage : Int32} {v_rows : Int32} {v_lettered : Int32} {v_stepsMany : Int32} {v_splicedMany : Int32} {v_most : Int32} {v_together : Int32} {v_z : Int32} {v_now : (Nat → Int32)} {v_refusals : (Nat → Int32)} {v_dists : (Nat → Int32)} {x1 : Int32} {x2 : Int32} {o : (Int32 × (Nat → Int32) × (Nat → Int32))} (h : f_X10_corner N x1 x2 v_now v_refusals v_dists = some o) : CT l D yX10_corner cX10_corner 5 (Option.some FieldType.int) 2 [.ref q_this, .int x1, .int x2] (w_X10_corner D q_this q_now q_refusals q_dists w_kept w_trial w_row w_letters w_left w_steps w_partners w_times w_spliced w_piece w_balances w_prices w_hands w_hand w_dealing v_hasImage v_rows v_lettered v_stepsMany v_splicedMany v_most v_together v_z v_now v_refusals v_dists) (w_X10_corner D q_this q_now q_refusals q_dists w_kept w_trial w_row w_letters w_left w_steps w_partners w_times w_spliced w_piece w_balances w_prices w_hands w_hand w_dealing v_hasImage v_rows v_lettered v_stepsMany v_splicedMany v_most v_together v_z v_now o.2.1 o.2.2) (some (.int o.1)) := by
  refine CT.of mk_X10_corner (Nat.le_of_ble_eq_true rfl) (fun g hl hD C E => ?_)
  subst hl
  subst hD
  unfold f_X10_corner at h
  refine j_iload_n C dX10_corner_0 rfl ?_
  obtain ⟨r_isCorner_1, h_1, h⟩ := of_bind h
  refine j_callS1 C mk_X10_isCorner ms_X10_isCorner kw_1108 (c_X10_isCorner (gl g) (gD g) h_1) (by decide) [] hC_nil rfl (w_X10_isCorner_a.trans w_X10_isCorner_a.symm) rfl rfl (Nat.le_of_ble_eq_true rfl) dX10_corner_1 wput_nil ?_
  refine j_if_ne C h 13 dX10_corner_4 (by decide) (fun hc h => ?_) (fun hc h => ?_)
  · refine j_aload_n C dX10_corner_7 rfl ?_
    refine j_iconst C (-1) dX10_corner_8 ki_m1 ?_
    obtain ⟨r_refused_9, h_9, h⟩ := of_bind h
    refine j_callV1 C mk_X10_refused ms_X10_refused kw_1064 (c_X10_refused (gl g) (gD g) h_9) (by decide) 0 w_X10_corner_g0 rfl [0, 2] (hC_cons w_X10_corner_g0 (hC_cons w_X10_corner_g2 hC_nil)) rfl (w_X10_refused_a.trans w_X10_refused_a.symm) rfl rfl (Nat.le_of_ble_eq_true rfl) dX10_corner_9 (wput_cons w_X10_corner_s0 (wput_cons w_X10_corner_s2 wput_nil)) ?_
    have h := Option.some.inj h
    subst h
    exact j_iret C E dX10_corner_12
  · refine j_iload_n C dX10_corner_13 rfl ?_
    refine j_i2l C dX10_corner_14 ?_
    refine j_lconst C 0 dX10_corner_15 rfl ?_
    refine j_ldc2 C kw_1149 dX10_corner_16 ?_
    obtain ⟨r_in_2, h_2, h⟩ := of_bind h
    refine j_callS1 C mk_X10_in ms_X10_in kw_1085 (c_X10_in (gl g) (gD g) h_2) (by decide) [] hC_nil rfl (w_X10_in_a.trans w_X10_in_a.symm) rfl rfl (Nat.le_of_ble_eq_true rfl) dX10_corner_19 wput_nil ?_
    refine j_if_ne C h 32 dX10_corner_22 (by decide) (fun hc h => ?_) (fun hc h => ?_)
    · refine j_aload_n C dX10_corner_25 rfl ?_
      refine j_bipush C (-2) dX10_corner_26 kb_m2 ?_
      obtain ⟨r_refused_8, h_8, h⟩ := of_bind h
      refine j_callV1 C mk_X10_refused ms_X10_refused kw_1064 (c_X10_refused (gl g) (gD g) h_8) (by decide) 0 w_X10_corner_g0 rfl [0, 2] (hC_cons w_X10_corner_g0 (hC_cons w_X10_corner_g2 hC_nil)) rfl (w_X10_refused_a.trans w_X10_refused_a.symm) rfl rfl (Nat.le_of_ble_eq_true rfl) dX10_corner_28 (wput_cons w_X10_corner_s0 (wput_cons w_X10_corner_s2 wput_nil)) ?_
      have h := Option.some.inj h
      subst h
      exact j_iret C E dX10_corner_31
    · refine j_iload_n C dX10_corner_32 rfl ?_
      refine j_if_ne C h 45 dX10_corner_33 (by decide) (fun hc h => ?_) (fun hc h => ?_)
      · refine j_aload_n C dX10_corner_36 rfl ?_
        refine j_get C 0 w_X10_corner_g0 rfl inX10 0 (by decide) kw_981 rfl rfl dX10_corner_37 ?_
        refine j_iload_n C dX10_corner_40 rfl ?_
        obtain ⟨r_degree_7, h_7, h⟩ := of_bind h
        refine j_callS1 C mk_X10_degree ms_X10_degree kw_1150 (c_X10_degree (gl g) (gD g) N h_7) (by decide) [1] (hC_cons w_X10_corner_g1 hC_nil) rfl (w_X10_degree_a.trans w_X10_degree_a.symm) rfl rfl (Nat.le_of_ble_eq_true rfl) dX10_corner_41 (wput_cons w_X10_corner_s1 wput_nil) ?_
        have h := Option.some.inj h
        subst h
        exact j_iret C E dX10_corner_44
      · refine j_iconst C (0) dX10_corner_45 ki_0 ?_
        refine j_istore_n C dX10_corner_46 (by decide) ?_
        refine j_iload_n C dX10_corner_47 rfl ?_
        refine j_iconst C (1) dX10_corner_48 ki_1 ?_
        refine j_icmp_ne C h 113 dX10_corner_49 (by decide) (fun hc h => ?_) (fun hc h => ?_)
        · refine j_iconst C (0) dX10_corner_52 ki_0 ?_
          refine j_istore C dX10_corner_53 (by decide) ?_
          obtain ⟨e_55, hl_55, h⟩ := of_bind h
          have ha_55 : J g (w_X10_corner (gD g) q_this q_now q_refusals q_dists w_kept w_trial w_row w_letters w_left w_steps w_partners w_times w_spliced w_piece w_balances w_prices w_hands w_hand w_dealing v_hasImage v_rows v_lettered v_stepsMany v_splicedMany v_most v_together v_z v_now v_refusals v_dists) [(3, .int (e_55))] 111 [] := by
            refine j_iload_n C dX10_corner_111 rfl ?_
            have h := Option.some.inj h
            subst h
            exact j_iret C E dX10_corner_112
          refine j_lv (lv' := [(0, .ref q_this), (1, .int (x1)), (3, .int ((0 : Int32))), (4, .int ((0 : Int32)))]) rfl ?_
          refine lp_ind hl_55 (fun s_55 => J g (w_X10_corner (gD g) q_this q_now q_refusals q_dists w_kept w_trial w_row w_letters w_left w_steps w_partners w_times w_spliced w_piece w_balances w_prices w_hands w_hand w_dealing v_hasImage v_rows v_lettered v_stepsMany v_splicedMany v_most v_together v_z v_now v_refusals v_dists) [(0, .ref q_this), (1, .int (x1)), (3, .int (s_55.1)), (4, .int (s_55.2))] 55 []) (fun s_55 r_55 h hc_55 hx_55 => ?_)
          unfold f_X10_corner_b55 at h
          refine j_iload C dX10_corner_55 rfl ?_
          refine j_aload_n C dX10_corner_57 rfl ?_
          refine j_get C 0 w_X10_corner_g0 rfl inX10 0 (by decide) kw_981 rfl rfl dX10_corner_58 ?_
          refine j_bipush C (49) dX10_corner_61 kb_49 ?_
          refine j_iaload 1 C h w_X10_corner_g1 rfl dX10_corner_63 (fun h => ?_)
          refine j_icmp_ge C h 111 dX10_corner_64 (by decide) (fun hc h => ?_) (fun hc h => ?_)
          · have h := Option.some.inj h
            subst h
            have h9 := hx_55 _ rfl
            subst h9
            exact j_lw ha_55 rfl
          · refine j_iload_n C dX10_corner_67 rfl ?_
            refine j_aload_n C dX10_corner_68 rfl ?_
            refine j_get C 0 w_X10_corner_g0 rfl inX10 0 (by decide) kw_981 rfl rfl dX10_corner_69 ?_
            refine j_iconst C (0) dX10_corner_72 ki_0 ?_
            refine j_iload C dX10_corner_73 rfl ?_
            refine j_iadd C dX10_corner_75 ?_
            refine j_iaload 1 C h w_X10_corner_g1 rfl dX10_corner_76 (fun h => ?_)
            refine j_iload_n C dX10_corner_77 rfl ?_
            have hj_6 : ∀ (x4_j6 : Int32), f_X10_corner_j6 x4_j6 s_55.1 = some r_55 → J g (w_X10_corner (gD g) q_this q_now q_refusals q_dists w_kept w_trial w_row w_letters w_left w_steps w_partners w_times w_spliced w_piece w_balances w_prices w_hands w_hand w_dealing v_hasImage v_rows v_lettered v_stepsMany v_splicedMany v_most v_together v_z v_now v_refusals v_dists) [(0, .ref q_this), (1, .int (x1)), (4, .int (x4_j6))] 95 [.int (s_55.1)] := by
              intro x4_j6 h
              unfold f_X10_corner_j6 at h
              refine j_iconst C (1) dX10_corner_95 ki_1 ?_
              refine j_iload C dX10_corner_96 rfl ?_
              refine j_ishl C dX10_corner_98 ?_
              refine j_goto C 103 dX10_corner_99 (by decide) ?_
              refine j_ior C dX10_corner_103 ?_
              refine j_istore_n C dX10_corner_104 (by decide) ?_
              refine j_inc C (1) dX10_corner_105 rfl ki_1 (by decide) ?_
              refine j_goto C 55 dX10_corner_108 (by decide) ?_
              have h := Option.some.inj h
              subst h
              have hc9 := hc_55 _ rfl
              exact j_lw hc9 rfl
            refine j_icmp_eq C h 95 dX10_corner_78 (by decide) (fun hc h => ?_) (fun hc h => ?_)
            · have hj9 := hj_6 _ h
              exact j_lw hj9 rfl
            · refine j_aload_n C dX10_corner_81 rfl ?_
              refine j_get C 0 w_X10_corner_g0 rfl inX10 0 (by decide) kw_981 rfl rfl dX10_corner_82 ?_
              refine j_bipush C (8) dX10_corner_85 kb_8 ?_
              refine j_iload C dX10_corner_87 rfl ?_
              refine j_iadd C dX10_corner_89 ?_
              refine j_iaload 1 C h w_X10_corner_g1 rfl dX10_corner_90 (fun h => ?_)
              refine j_iload_n C dX10_corner_91 rfl ?_
              refine j_icmp_ne C h 102 dX10_corner_92 (by decide) (fun hc h => ?_) (fun hc h => ?_)
              · have hj9 := hj_6 _ h
                exact j_lw hj9 rfl
              · refine j_iconst C (0) dX10_corner_102 ki_0 ?_
                refine j_ior C dX10_corner_103 ?_
                refine j_istore_n C dX10_corner_104 (by decide) ?_
                refine j_inc C (1) dX10_corner_105 rfl ki_1 (by decide) ?_
                refine j_goto C 55 dX10_corner_108 (by decide) ?_
                have h := Option.some.inj h
                subst h
                have hc9 := hc_55 _ rfl
                exact j_lw hc9 rfl
        · refine j_aload_n C dX10_corner_113 rfl ?_
          refine j_aload_n C dX10_corner_114 rfl ?_
          refine j_get C 0 w_X10_corner_g0 rfl inX10 0 (by decide) kw_981 rfl rfl dX10_corner_115 ?_
          obtain ⟨r_measures_3, h_3, h⟩ := of_bind h
          refine j_callV0 C mk_X10_measures ms_X10_measures kw_1156 (c_X10_measures (gl g) (gD g) N h_3) (by decide) 0 w_X10_corner_g0 rfl [0, 3, 1] (hC_cons w_X10_corner_g0 (hC_cons w_X10_corner_g3 (hC_cons w_X10_corner_g1 hC_nil))) rfl (w_X10_measures_a.trans w_X10_measures_a.symm) rfl rfl (Nat.le_of_ble_eq_true rfl) dX10_corner_118 (wput_cons w_X10_corner_s0 (wput_cons w_X10_corner_s3 (wput_cons w_X10_corner_s1 wput_nil))) ?_
          refine j_iconst C (0) dX10_corner_121 ki_0 ?_
          refine j_istore C dX10_corner_122 (by decide) ?_
          obtain ⟨e_124, hl_124, h⟩ := of_bind h
          have ha_124 : J g (w_X10_corner (gD g) q_this q_now q_refusals q_dists w_kept w_trial w_row w_letters w_left w_steps w_partners w_times w_spliced w_piece w_balances w_prices w_hands w_hand w_dealing v_hasImage v_rows v_lettered v_stepsMany v_splicedMany v_most v_together v_z v_now v_refusals r_measures_3) [(3, .int (e_124))] 160 [] := by
            refine j_iload_n C dX10_corner_160 rfl ?_
            have h := Option.some.inj h
            subst h
            exact j_iret C E dX10_corner_161
          refine j_lv (lv' := [(0, .ref q_this), (1, .int (x1)), (3, .int ((0 : Int32))), (4, .int ((0 : Int32)))]) rfl ?_
          refine lp_ind hl_124 (fun s_124 => J g (w_X10_corner (gD g) q_this q_now q_refusals q_dists w_kept w_trial w_row w_letters w_left w_steps w_partners w_times w_spliced w_piece w_balances w_prices w_hands w_hand w_dealing v_hasImage v_rows v_lettered v_stepsMany v_splicedMany v_most v_together v_z v_now v_refusals r_measures_3) [(0, .ref q_this), (1, .int (x1)), (3, .int (s_124.1)), (4, .int (s_124.2))] 124 []) (fun s_124 r_124 h hc_124 hx_124 => ?_)
          unfold f_X10_corner_b124 at h
          refine j_iload C dX10_corner_124 rfl ?_
          refine j_bipush C (6) dX10_corner_126 kb_6 ?_
          refine j_icmp_ge C h 160 dX10_corner_128 (by decide) (fun hc h => ?_) (fun hc h => ?_)
          · have h := Option.some.inj h
            subst h
            have h9 := hx_124 _ rfl
            subst h9
            exact j_lw ha_124 rfl
          · refine j_iload_n C dX10_corner_131 rfl ?_
            refine j_aload_n C dX10_corner_132 rfl ?_
            refine j_iload_n C dX10_corner_133 rfl ?_
            refine j_iload C dX10_corner_134 rfl ?_
            obtain ⟨r_dist_4, h_4, h⟩ := of_bind h
            refine j_callV1 C mk_X10_dist ms_X10_dist kw_1168 (c_X10_dist (gl g) (gD g) h_4) (by decide) 0 w_X10_corner_g0 rfl [0, 3] (hC_cons w_X10_corner_g0 (hC_cons w_X10_corner_g3 hC_nil)) rfl (w_X10_dist_a.trans w_X10_dist_a.symm) rfl rfl (Nat.le_of_ble_eq_true rfl) dX10_corner_136 (wput_cons w_X10_corner_s0 (wput_cons w_X10_corner_s3 wput_nil)) ?_
            refine j_ldc C kw_1160 dX10_corner_139 ?_
            have hj_5 : J g (w_X10_corner (gD g) q_this q_now q_refusals q_dists w_kept w_trial w_row w_letters w_left w_steps w_partners w_times w_spliced w_piece w_balances w_prices w_hands w_hand w_dealing v_hasImage v_rows v_lettered v_stepsMany v_splicedMany v_most v_together v_z v_now v_refusals r_measures_3) [(0, .ref q_this), (1, .int (x1)), (4, .int (s_124.2))] 152 [.int (if (1000000 : Int32) ≤ r_dist_4 then (0 : Int32) else ((1 : Int32) <<< (s_124.2 &&& 31))), .int (s_124.1)] := by
              refine j_ior C dX10_corner_152 ?_
              refine j_istore_n C dX10_corner_153 (by decide) ?_
              refine j_inc C (1) dX10_corner_154 rfl ki_1 (by decide) ?_
              refine j_goto C 124 dX10_corner_157 (by decide) ?_
              have h := Option.some.inj h
              subst h
              have hc9 := hc_124 _ rfl
              exact j_lw hc9 rfl
            refine jv_icmp_ge C 151 dX10_corner_141 (by decide) (fun hc => ?_) (fun hc => ?_)
            · try simp only [if_pos hc] at hj_5
              refine j_iconst C (0) dX10_corner_151 ki_0 ?_
              exact j_lw hj_5 rfl
            · try simp only [if_neg hc] at hj_5
              refine j_iconst C (1) dX10_corner_144 ki_1 ?_
              refine j_iload C dX10_corner_145 rfl ?_
              refine j_ishl C dX10_corner_147 ?_
              refine j_goto C 152 dX10_corner_148 (by decide) ?_
              exact j_lw hj_5 rfl

def w_X10_distance (D : va_G) (q_this q_now q_refusals q_dists : Nat) (w_kept w_trial w_row w_letters w_left w_steps w_partners w_times w_spliced w_piece w_balances w_prices w_hands w_hand w_dealing : Value) (v_hasImage : Int32) (v_rows : Int32) (v_lettered : Int32) (v_stepsMany : Int32) (v_splicedMany : Int32) (v_most : Int32) (v_together : Int32) (v_z : Int32) (v_now : (Nat → Int32)) (v_refusals : (Nat → Int32)) (v_dists : (Nat → Int32)) : va_W := [(q_this, .inr (9, [.ref q_now, w_kept, w_trial, .int v_hasImage, .ref q_refusals, w_row, .int v_rows, w_letters, .int v_lettered, .ref q_dists, w_left, w_steps, .int v_stepsMany, w_partners, w_times, w_spliced, .int v_splicedMany, w_piece, w_balances, w_prices, w_hands, w_hand, w_dealing, .int v_most, .int v_together, .int v_z])), (q_now, .inl (D.1 100, 50, .inl v_now)), (q_refusals, .inl (D.1 100, 7, .inl v_refusals)), (q_dists, .inl (D.1 100, 36, .inl v_dists))]
theorem w_X10_distance_g0 {D : va_G} {q_this : Nat} {q_now : Nat} {q_refusals : Nat} {q_dists : Nat} {w_kept : Value} {w_trial : Value} {w_row : Value} {w_letters : Value} {w_left : Value} {w_steps : Value} {w_partners : Value} {w_times : Value} {w_spliced : Value} {w_piece : Value} {w_balances : Value} {w_prices : Value} {w_hands : Value} {w_hand : Value} {w_dealing : Value} {v_hasImage : Int32} {v_rows : Int32} {v_lettered : Int32} {v_stepsMany : Int32} {v_splicedMany : Int32} {v_most : Int32} {v_together : Int32} {v_z : Int32} {v_now : (Nat → Int32)} {v_refusals : (Nat → Int32)} {v_dists : (Nat → Int32)} : (w_X10_distance D q_this q_now q_refusals q_dists w_kept w_trial w_row w_letters w_left w_steps w_partners w_times w_spliced w_piece w_balances w_prices w_hands w_hand w_dealing v_hasImage v_rows v_lettered v_stepsMany v_splicedMany v_most v_together v_z v_now v_refusals v_dists)[0]? = some (q_this, .inr (9, [.ref q_now, w_kept, w_trial, .int v_hasImage, .ref q_refusals, w_row, .int v_rows, w_letters, .int v_lettered, .ref q_dists, w_left, w_steps, .int v_stepsMany, w_partners, w_times, w_spliced, .int v_splicedMany, w_piece, w_balances, w_prices, w_hands, w_hand, w_dealing, .int v_most, .int v_together, .int v_z])) := rfl
theorem w_X10_distance_s0 {D : va_G} {q_this : Nat} {q_now : Nat} {q_refusals : Nat} {q_dists : Nat} {w_kept : Value} {w_trial : Value} {w_row : Value} {w_letters : Value} {w_left : Value} {w_steps : Value} {w_partners : Value} {w_times : Value} {w_spliced : Value} {w_piece : Value} {w_balances : Value} {w_prices : Value} {w_hands : Value} {w_hand : Value} {w_dealing : Value} {v_hasImage : Int32} {v_rows : Int32} {v_lettered : Int32} {v_stepsMany : Int32} {v_splicedMany : Int32} {v_most : Int32} {v_together : Int32} {v_z : Int32} {v_now : (Nat → Int32)} {v_refusals : (Nat → Int32)} {v_dists : (Nat → Int32)} {v_hasImage' : Int32} {v_rows' : Int32} {v_lettered' : Int32} {v_stepsMany' : Int32} {v_splicedMany' : Int32} {v_most' : Int32} {v_together' : Int32} {v_z' : Int32} : (w_X10_distance D q_this q_now q_refusals q_dists w_kept w_trial w_row w_letters w_left w_steps w_partners w_times w_spliced w_piece w_balances w_prices w_hands w_hand w_dealing v_hasImage v_rows v_lettered v_stepsMany v_splicedMany v_most v_together v_z v_now v_refusals v_dists).set 0 (q_this, .inr (9, [.ref q_now, w_kept, w_trial, .int v_hasImage', .ref q_refusals, w_row, .int v_rows', w_letters, .int v_lettered', .ref q_dists, w_left, w_steps, .int v_stepsMany', w_partners, w_times, w_spliced, .int v_splicedMany', w_piece, w_balances, w_prices, w_hands, w_hand, w_dealing, .int v_most', .int v_together', .int v_z'])) = (w_X10_distance D q_this q_now q_refusals q_dists w_kept w_trial w_row w_letters w_left w_steps w_partners w_times w_spliced w_piece w_balances w_prices w_hands w_hand w_dealing v_hasImage' v_rows' v_lettered' v_stepsMany' v_splicedMany' v_most' v_together' v_z' v_now v_refusals v_dists) := rfl
theorem w_X10_distance_g1 {D : va_G} {q_this : Nat} {q_now : Nat} {q_refusals : Nat} {q_dists : Nat} {w_kept : Value} {w_trial : Value} {w_row : Value} {w_letters : Value} {w_left : Value} {w_steps : Value} {w_partners : Value} {w_times : Value} {w_spliced : Value} {w_piece : Value} {w_balances : Value} {w_prices : Value} {w_hands : Value} {w_hand : Value} {w_dealing : Value} {v_hasImage : Int32} {v_rows : Int32} {v_lettered : Int32} {v_stepsMany : Int32} {v_splicedMany : Int32} {v_most : Int32} {v_together : Int32} {v_z : Int32} {v_now : (Nat → Int32)} {v_refusals : (Nat → Int32)} {v_dists : (Nat → Int32)} : (w_X10_distance D q_this q_now q_refusals q_dists w_kept w_trial w_row w_letters w_left w_steps w_partners w_times w_spliced w_piece w_balances w_prices w_hands w_hand w_dealing v_hasImage v_rows v_lettered v_stepsMany v_splicedMany v_most v_together v_z v_now v_refusals v_dists)[1]? = some (q_now, .inl (D.1 100, 50, .inl v_now)) := rfl
theorem w_X10_distance_s1 {D : va_G} {q_this : Nat} {q_now : Nat} {q_refusals : Nat} {q_dists : Nat} {w_kept : Value} {w_trial : Value} {w_row : Value} {w_letters : Value} {w_left : Value} {w_steps : Value} {w_partners : Value} {w_times : Value} {w_spliced : Value} {w_piece : Value} {w_balances : Value} {w_prices : Value} {w_hands : Value} {w_hand : Value} {w_dealing : Value} {v_hasImage : Int32} {v_rows : Int32} {v_lettered : Int32} {v_stepsMany : Int32} {v_splicedMany : Int32} {v_most : Int32} {v_together : Int32} {v_z : Int32} {v_now : (Nat → Int32)} {v_refusals : (Nat → Int32)} {v_dists : (Nat → Int32)} {v_now' : (Nat → Int32)} : (w_X10_distance D q_this q_now q_refusals q_dists w_kept w_trial w_row w_letters w_left w_steps w_partners w_times w_spliced w_piece w_balances w_prices w_hands w_hand w_dealing v_hasImage v_rows v_lettered v_stepsMany v_splicedMany v_most v_together v_z v_now v_refusals v_dists).set 1 (q_now, .inl (D.1 100, 50, .inl v_now')) = (w_X10_distance D q_this q_now q_refusals q_dists w_kept w_trial w_row w_letters w_left w_steps w_partners w_times w_spliced w_piece w_balances w_prices w_hands w_hand w_dealing v_hasImage v_rows v_lettered v_stepsMany v_splicedMany v_most v_together v_z v_now' v_refusals v_dists) := rfl
theorem w_X10_distance_g2 {D : va_G} {q_this : Nat} {q_now : Nat} {q_refusals : Nat} {q_dists : Nat} {w_kept : Value} {w_trial : Value} {w_row : Value} {w_letters : Value} {w_left : Value} {w_steps : Value} {w_partners : Value} {w_times : Value} {w_spliced : Value} {w_piece : Value} {w_balances : Value} {w_prices : Value} {w_hands : Value} {w_hand : Value} {w_dealing : Value} {v_hasImage : Int32} {v_rows : Int32} {v_lettered : Int32} {v_stepsMany : Int32} {v_splicedMany : Int32} {v_most : Int32} {v_together : Int32} {v_z : Int32} {v_now : (Nat → Int32)} {v_refusals : (Nat → Int32)} {v_dists : (Nat → Int32)} : (w_X10_distance D q_this q_now q_refusals q_dists w_kept w_trial w_row w_letters w_left w_steps w_partners w_times w_spliced w_piece w_balances w_prices w_hands w_hand w_dealing v_hasImage v_rows v_lettered v_stepsMany v_splicedMany v_most v_together v_z v_now v_refusals v_dists)[2]? = some (q_refusals, .inl (D.1 100, 7, .inl v_refusals)) := rfl
theorem w_X10_distance_s2 {D : va_G} {q_this : Nat} {q_now : Nat} {q_refusals : Nat} {q_dists : Nat} {w_kept : Value} {w_trial : Value} {w_row : Value} {w_letters : Value} {w_left : Value} {w_steps : Value} {w_partners : Value} {w_times : Value} {w_spliced : Value} {w_piece : Value} {w_balances : Value} {w_prices : Value} {w_hands : Value} {w_hand : Value} {w_dealing : Value} {v_hasImage : Int32} {v_rows : Int32} {v_lettered : Int32} {v_stepsMany : Int32} {v_splicedMany : Int32} {v_most : Int32} {v_together : Int32} {v_z : Int32} {v_now : (Nat → Int32)} {v_refusals : (Nat → Int32)} {v_dists : (Nat → Int32)} {v_refusals' : (Nat → Int32)} : (w_X10_distance D q_this q_now q_refusals q_dists w_kept w_trial w_row w_letters w_left w_steps w_partners w_times w_spliced w_piece w_balances w_prices w_hands w_hand w_dealing v_hasImage v_rows v_lettered v_stepsMany v_splicedMany v_most v_together v_z v_now v_refusals v_dists).set 2 (q_refusals, .inl (D.1 100, 7, .inl v_refusals')) = (w_X10_distance D q_this q_now q_refusals q_dists w_kept w_trial w_row w_letters w_left w_steps w_partners w_times w_spliced w_piece w_balances w_prices w_hands w_hand w_dealing v_hasImage v_rows v_lettered v_stepsMany v_splicedMany v_most v_together v_z v_now v_refusals' v_dists) := rfl
theorem w_X10_distance_g3 {D : va_G} {q_this : Nat} {q_now : Nat} {q_refusals : Nat} {q_dists : Nat} {w_kept : Value} {w_trial : Value} {w_row : Value} {w_letters : Value} {w_left : Value} {w_steps : Value} {w_partners : Value} {w_times : Value} {w_spliced : Value} {w_piece : Value} {w_balances : Value} {w_prices : Value} {w_hands : Value} {w_hand : Value} {w_dealing : Value} {v_hasImage : Int32} {v_rows : Int32} {v_lettered : Int32} {v_stepsMany : Int32} {v_splicedMany : Int32} {v_most : Int32} {v_together : Int32} {v_z : Int32} {v_now : (Nat → Int32)} {v_refusals : (Nat → Int32)} {v_dists : (Nat → Int32)} : (w_X10_distance D q_this q_now q_refusals q_dists w_kept w_trial w_row w_letters w_left w_steps w_partners w_times w_spliced w_piece w_balances w_prices w_hands w_hand w_dealing v_hasImage v_rows v_lettered v_stepsMany v_splicedMany v_most v_together v_z v_now v_refusals v_dists)[3]? = some (q_dists, .inl (D.1 100, 36, .inl v_dists)) := rfl
theorem w_X10_distance_s3 {D : va_G} {q_this : Nat} {q_now : Nat} {q_refusals : Nat} {q_dists : Nat} {w_kept : Value} {w_trial : Value} {w_row : Value} {w_letters : Value} {w_left : Value} {w_steps : Value} {w_partners : Value} {w_times : Value} {w_spliced : Value} {w_piece : Value} {w_balances : Value} {w_prices : Value} {w_hands : Value} {w_hand : Value} {w_dealing : Value} {v_hasImage : Int32} {v_rows : Int32} {v_lettered : Int32} {v_stepsMany : Int32} {v_splicedMany : Int32} {v_most : Int32} {v_together : Int32} {v_z : Int32} {v_now : (Nat → Int32)} {v_refusals : (Nat → Int32)} {v_dists : (Nat → Int32)} {v_dists' : (Nat → Int32)} : (w_X10_distance D q_this q_now q_refusals q_dists w_kept w_trial w_row w_letters w_left w_steps w_partners w_times w_spliced w_piece w_balances w_prices w_hands w_hand w_dealing v_hasImage v_rows v_lettered v_stepsMany v_splicedMany v_most v_together v_z v_now v_refusals v_dists).set 3 (q_dists, .inl (D.1 100, 36, .inl v_dists')) = (w_X10_distance D q_this q_now q_refusals q_dists w_kept w_trial w_row w_letters w_left w_steps w_partners w_times w_spliced w_piece w_balances w_prices w_hands w_hand w_dealing v_hasImage v_rows v_lettered v_stepsMany v_splicedMany v_most v_together v_z v_now v_refusals v_dists') := rfl
theorem w_X10_distance_a {D : va_G} {q_this : Nat} {q_now : Nat} {q_refusals : Nat} {q_dists : Nat} {w_kept : Value} {w_trial : Value} {w_row : Value} {w_letters : Value} {w_left : Value} {w_steps : Value} {w_partners : Value} {w_times : Value} {w_spliced : Value} {w_piece : Value} {w_balances : Value} {w_prices : Value} {w_hands : Value} {w_hand : Value} {w_dealing : Value} {v_hasImage : Int32} {v_rows : Int32} {v_lettered : Int32} {v_stepsMany : Int32} {v_splicedMany : Int32} {v_most : Int32} {v_together : Int32} {v_z : Int32} {v_now : (Nat → Int32)} {v_refusals : (Nat → Int32)} {v_dists : (Nat → Int32)} : (w_X10_distance D q_this q_now q_refusals q_dists w_kept w_trial w_row w_letters w_left w_steps w_partners w_times w_spliced w_piece w_balances w_prices w_hands w_hand w_dealing v_hasImage v_rows v_lettered v_stepsMany v_splicedMany v_most v_together v_z v_now v_refusals v_dists).map (fun q => q.1) = [q_this, q_now, q_refusals, q_dists] := rfl
def f_X10_distance_j2 (v_dists_j2 : (Nat → Int32)) (v_refusals : (Nat → Int32)) : Option (Int32 × (Nat → Int32) × (Nat → Int32)) :=
  (f_X10_refused (-1 : Int32) v_refusals).bind (fun r_refused_3 => some (r_refused_3.1, r_refused_3.2, v_dists_j2))
def f_X10_distance (N : Nat) (x1 : Int32) (x2 : Int32) (v_now : (Nat → Int32)) (v_refusals : (Nat → Int32)) (v_dists : (Nat → Int32)) : Option (Int32 × (Nat → Int32) × (Nat → Int32)) :=
  (f_X10_isCorner x1).bind (fun r_isCorner_1 => (if r_isCorner_1 = 0 then f_X10_distance_j2 v_dists v_refusals else (f_X10_isCorner x2).bind (fun r_isCorner_4 => (if r_isCorner_4 = 0 then f_X10_distance_j2 v_dists v_refusals else (f_X10_measures N v_dists v_now).bind (fun r_measures_5 => (f_X10_dist x1 x2 r_measures_5).bind (fun r_dist_6 => (if (1000000 : Int32) ≤ r_dist_6 then some ((-9 : Int32), v_refusals, r_measures_5) else (f_X10_dist x1 x2 r_measures_5).bind (fun r_dist_7 => some (r_dist_7, v_refusals, r_measures_5)))))))))
set_option maxRecDepth 100000 in
set_option maxHeartbeats 4000000 in
theorem c_X10_distance (l : Launch) (D : va_G) (N : Nat) {q_this q_now q_refusals q_dists : Nat} {w_kept w_trial w_row w_letters w_left w_steps w_partners w_times w_spliced w_piece w_balances w_prices w_hands w_hand w_dealing : Value} {v_hasImage : Int32} {v_rows : Int32} {v_lettered : Int32} {v_stepsMany : Int32} {v_splicedMany : Int32} {v_most : Int32} {v_together : Int32} {v_z : Int32} {v_now : (Nat → Int32)} {v_refusals : (Nat → Int32)} {v_dists : (Nat → Int32)} {x1 : Int32} {x2 : Int32} {o : (Int32 × (Nat → Int32) × (Nat → Int32))} (h : f_X10_distance N x1 x2 v_now v_refusals v_dists = some o) : CT l D yX10_distance cX10_distance 3 (Option.some FieldType.int) 2 [.ref q_this, .int x1, .int x2] (w_X10_distance D q_this q_now q_refusals q_dists w_kept w_trial w_row w_letters w_left w_steps w_partners w_times w_spliced w_piece w_balances w_prices w_hands w_hand w_dealing v_hasImage v_rows v_lettered v_stepsMany v_splicedMany v_most v_together v_z v_now v_refusals v_dists) (w_X10_distance D q_this q_now q_refusals q_dists w_kept w_trial w_row w_letters w_left w_steps w_partners w_times w_spliced w_piece w_balances w_prices w_hands w_hand w_dealing v_hasImage v_rows v_lettered v_stepsMany v_splicedMany v_most v_together v_z v_now o.2.1 o.2.2) (some (.int o.1)) := by
  refine CT.of mk_X10_distance (Nat.le_of_ble_eq_true rfl) (fun g hl hD C E => ?_)
  subst hl
  subst hD
  unfold f_X10_distance at h
  refine j_iload_n C dX10_distance_0 rfl ?_
  obtain ⟨r_isCorner_1, h_1, h⟩ := of_bind h
  refine j_callS1 C mk_X10_isCorner ms_X10_isCorner kw_1108 (c_X10_isCorner (gl g) (gD g) h_1) (by decide) [] hC_nil rfl (w_X10_isCorner_a.trans w_X10_isCorner_a.symm) rfl rfl (Nat.le_of_ble_eq_true rfl) dX10_distance_1 wput_nil ?_
  have hj_2 : ∀ (v_dists_j2 : (Nat → Int32)), f_X10_distance_j2 v_dists_j2 v_refusals = some o → J g (w_X10_distance (gD g) q_this q_now q_refusals q_dists w_kept w_trial w_row w_letters w_left w_steps w_partners w_times w_spliced w_piece w_balances w_prices w_hands w_hand w_dealing v_hasImage v_rows v_lettered v_stepsMany v_splicedMany v_most v_together v_z v_now v_refusals v_dists_j2) [(0, .ref q_this)] 14 [] := by
    intro v_dists_j2 h
    unfold f_X10_distance_j2 at h
    refine j_aload_n C dX10_distance_14 rfl ?_
    refine j_iconst C (-1) dX10_distance_15 ki_m1 ?_
    obtain ⟨r_refused_3, h_3, h⟩ := of_bind h
    refine j_callV1 C mk_X10_refused ms_X10_refused kw_1064 (c_X10_refused (gl g) (gD g) h_3) (by decide) 0 w_X10_distance_g0 rfl [0, 2] (hC_cons w_X10_distance_g0 (hC_cons w_X10_distance_g2 hC_nil)) rfl (w_X10_refused_a.trans w_X10_refused_a.symm) rfl rfl (Nat.le_of_ble_eq_true rfl) dX10_distance_16 (wput_cons w_X10_distance_s0 (wput_cons w_X10_distance_s2 wput_nil)) ?_
    have h := Option.some.inj h
    subst h
    exact j_iret C E dX10_distance_19
  refine j_if_eq C h 14 dX10_distance_4 (by decide) (fun hc h => ?_) (fun hc h => ?_)
  · have hj9 := hj_2 _ h
    exact j_lw hj9 rfl
  · refine j_iload_n C dX10_distance_7 rfl ?_
    obtain ⟨r_isCorner_4, h_4, h⟩ := of_bind h
    refine j_callS1 C mk_X10_isCorner ms_X10_isCorner kw_1108 (c_X10_isCorner (gl g) (gD g) h_4) (by decide) [] hC_nil rfl (w_X10_isCorner_a.trans w_X10_isCorner_a.symm) rfl rfl (Nat.le_of_ble_eq_true rfl) dX10_distance_8 wput_nil ?_
    refine j_if_ne C h 20 dX10_distance_11 (by decide) (fun hc h => ?_) (fun hc h => ?_)
    · have hj9 := hj_2 _ h
      exact j_lw hj9 rfl
    · refine j_aload_n C dX10_distance_20 rfl ?_
      refine j_aload_n C dX10_distance_21 rfl ?_
      refine j_get C 0 w_X10_distance_g0 rfl inX10 0 (by decide) kw_981 rfl rfl dX10_distance_22 ?_
      obtain ⟨r_measures_5, h_5, h⟩ := of_bind h
      refine j_callV0 C mk_X10_measures ms_X10_measures kw_1156 (c_X10_measures (gl g) (gD g) N h_5) (by decide) 0 w_X10_distance_g0 rfl [0, 3, 1] (hC_cons w_X10_distance_g0 (hC_cons w_X10_distance_g3 (hC_cons w_X10_distance_g1 hC_nil))) rfl (w_X10_measures_a.trans w_X10_measures_a.symm) rfl rfl (Nat.le_of_ble_eq_true rfl) dX10_distance_25 (wput_cons w_X10_distance_s0 (wput_cons w_X10_distance_s3 (wput_cons w_X10_distance_s1 wput_nil))) ?_
      refine j_aload_n C dX10_distance_28 rfl ?_
      refine j_iload_n C dX10_distance_29 rfl ?_
      refine j_iload_n C dX10_distance_30 rfl ?_
      obtain ⟨r_dist_6, h_6, h⟩ := of_bind h
      refine j_callV1 C mk_X10_dist ms_X10_dist kw_1168 (c_X10_dist (gl g) (gD g) h_6) (by decide) 0 w_X10_distance_g0 rfl [0, 3] (hC_cons w_X10_distance_g0 (hC_cons w_X10_distance_g3 hC_nil)) rfl (w_X10_dist_a.trans w_X10_dist_a.symm) rfl rfl (Nat.le_of_ble_eq_true rfl) dX10_distance_31 (wput_cons w_X10_distance_s0 (wput_cons w_X10_distance_s3 wput_nil)) ?_
      refine j_ldc C kw_1160 dX10_distance_34 ?_
      refine j_icmp_ge C h 48 dX10_distance_36 (by decide) (fun hc h => ?_) (fun hc h => ?_)
      · refine j_bipush C (-9) dX10_distance_48 kb_m9 ?_
        have h := Option.some.inj h
        subst h
        exact j_iret C E dX10_distance_50
      · refine j_aload_n C dX10_distance_39 rfl ?_
        refine j_iload_n C dX10_distance_40 rfl ?_
        refine j_iload_n C dX10_distance_41 rfl ?_
        obtain ⟨r_dist_7, h_7, h⟩ := of_bind h
        refine j_callV1 C mk_X10_dist ms_X10_dist kw_1168 (c_X10_dist (gl g) (gD g) h_7) (by decide) 0 w_X10_distance_g0 rfl [0, 3] (hC_cons w_X10_distance_g0 (hC_cons w_X10_distance_g3 hC_nil)) rfl (w_X10_dist_a.trans w_X10_dist_a.symm) rfl rfl (Nat.le_of_ble_eq_true rfl) dX10_distance_42 (wput_cons w_X10_distance_s0 (wput_cons w_X10_distance_s3 wput_nil)) ?_
        refine j_goto C 50 dX10_distance_45 (by decide) ?_
        have h := Option.some.inj h
        subst h
        exact j_iret C E dX10_distance_50

def w_X10_next (D : va_G) (q_this q_now q_refusals q_dists : Nat) (w_kept w_trial w_row w_letters w_left w_steps w_partners w_times w_spliced w_piece w_balances w_prices w_hands w_hand w_dealing : Value) (v_hasImage : Int32) (v_rows : Int32) (v_lettered : Int32) (v_stepsMany : Int32) (v_splicedMany : Int32) (v_most : Int32) (v_together : Int32) (v_z : Int32) (v_now : (Nat → Int32)) (v_refusals : (Nat → Int32)) (v_dists : (Nat → Int32)) : va_W := [(q_this, .inr (9, [.ref q_now, w_kept, w_trial, .int v_hasImage, .ref q_refusals, w_row, .int v_rows, w_letters, .int v_lettered, .ref q_dists, w_left, w_steps, .int v_stepsMany, w_partners, w_times, w_spliced, .int v_splicedMany, w_piece, w_balances, w_prices, w_hands, w_hand, w_dealing, .int v_most, .int v_together, .int v_z])), (q_now, .inl (D.1 100, 50, .inl v_now)), (q_refusals, .inl (D.1 100, 7, .inl v_refusals)), (q_dists, .inl (D.1 100, 36, .inl v_dists))]
theorem w_X10_next_g0 {D : va_G} {q_this : Nat} {q_now : Nat} {q_refusals : Nat} {q_dists : Nat} {w_kept : Value} {w_trial : Value} {w_row : Value} {w_letters : Value} {w_left : Value} {w_steps : Value} {w_partners : Value} {w_times : Value} {w_spliced : Value} {w_piece : Value} {w_balances : Value} {w_prices : Value} {w_hands : Value} {w_hand : Value} {w_dealing : Value} {v_hasImage : Int32} {v_rows : Int32} {v_lettered : Int32} {v_stepsMany : Int32} {v_splicedMany : Int32} {v_most : Int32} {v_together : Int32} {v_z : Int32} {v_now : (Nat → Int32)} {v_refusals : (Nat → Int32)} {v_dists : (Nat → Int32)} : (w_X10_next D q_this q_now q_refusals q_dists w_kept w_trial w_row w_letters w_left w_steps w_partners w_times w_spliced w_piece w_balances w_prices w_hands w_hand w_dealing v_hasImage v_rows v_lettered v_stepsMany v_splicedMany v_most v_together v_z v_now v_refusals v_dists)[0]? = some (q_this, .inr (9, [.ref q_now, w_kept, w_trial, .int v_hasImage, .ref q_refusals, w_row, .int v_rows, w_letters, .int v_lettered, .ref q_dists, w_left, w_steps, .int v_stepsMany, w_partners, w_times, w_spliced, .int v_splicedMany, w_piece, w_balances, w_prices, w_hands, w_hand, w_dealing, .int v_most, .int v_together, .int v_z])) := rfl
theorem w_X10_next_s0 {D : va_G} {q_this : Nat} {q_now : Nat} {q_refusals : Nat} {q_dists : Nat} {w_kept : Value} {w_trial : Value} {w_row : Value} {w_letters : Value} {w_left : Value} {w_steps : Value} {w_partners : Value} {w_times : Value} {w_spliced : Value} {w_piece : Value} {w_balances : Value} {w_prices : Value} {w_hands : Value} {w_hand : Value} {w_dealing : Value} {v_hasImage : Int32} {v_rows : Int32} {v_lettered : Int32} {v_stepsMany : Int32} {v_splicedMany : Int32} {v_most : Int32} {v_together : Int32} {v_z : Int32} {v_now : (Nat → Int32)} {v_refusals : (Nat → Int32)} {v_dists : (Nat → Int32)} {v_hasImage' : Int32} {v_rows' : Int32} {v_lettered' : Int32} {v_stepsMany' : Int32} {v_splicedMany' : Int32} {v_most' : Int32} {v_together' : Int32} {v_z' : Int32} : (w_X10_next D q_this q_now q_refusals q_dists w_kept w_trial w_row w_letters w_left w_steps w_partners w_times w_spliced w_piece w_balances w_prices w_hands w_hand w_dealing v_hasImage v_rows v_lettered v_stepsMany v_splicedMany v_most v_together v_z v_now v_refusals v_dists).set 0 (q_this, .inr (9, [.ref q_now, w_kept, w_trial, .int v_hasImage', .ref q_refusals, w_row, .int v_rows', w_letters, .int v_lettered', .ref q_dists, w_left, w_steps, .int v_stepsMany', w_partners, w_times, w_spliced, .int v_splicedMany', w_piece, w_balances, w_prices, w_hands, w_hand, w_dealing, .int v_most', .int v_together', .int v_z'])) = (w_X10_next D q_this q_now q_refusals q_dists w_kept w_trial w_row w_letters w_left w_steps w_partners w_times w_spliced w_piece w_balances w_prices w_hands w_hand w_dealing v_hasImage' v_rows' v_lettered' v_stepsMany' v_splicedMany' v_most' v_together' v_z' v_now v_refusals v_dists) := rfl
theorem w_X10_next_g1 {D : va_G} {q_this : Nat} {q_now : Nat} {q_refusals : Nat} {q_dists : Nat} {w_kept : Value} {w_trial : Value} {w_row : Value} {w_letters : Value} {w_left : Value} {w_steps : Value} {w_partners : Value} {w_times : Value} {w_spliced : Value} {w_piece : Value} {w_balances : Value} {w_prices : Value} {w_hands : Value} {w_hand : Value} {w_dealing : Value} {v_hasImage : Int32} {v_rows : Int32} {v_lettered : Int32} {v_stepsMany : Int32} {v_splicedMany : Int32} {v_most : Int32} {v_together : Int32} {v_z : Int32} {v_now : (Nat → Int32)} {v_refusals : (Nat → Int32)} {v_dists : (Nat → Int32)} : (w_X10_next D q_this q_now q_refusals q_dists w_kept w_trial w_row w_letters w_left w_steps w_partners w_times w_spliced w_piece w_balances w_prices w_hands w_hand w_dealing v_hasImage v_rows v_lettered v_stepsMany v_splicedMany v_most v_together v_z v_now v_refusals v_dists)[1]? = some (q_now, .inl (D.1 100, 50, .inl v_now)) := rfl
theorem w_X10_next_s1 {D : va_G} {q_this : Nat} {q_now : Nat} {q_refusals : Nat} {q_dists : Nat} {w_kept : Value} {w_trial : Value} {w_row : Value} {w_letters : Value} {w_left : Value} {w_steps : Value} {w_partners : Value} {w_times : Value} {w_spliced : Value} {w_piece : Value} {w_balances : Value} {w_prices : Value} {w_hands : Value} {w_hand : Value} {w_dealing : Value} {v_hasImage : Int32} {v_rows : Int32} {v_lettered : Int32} {v_stepsMany : Int32} {v_splicedMany : Int32} {v_most : Int32} {v_together : Int32} {v_z : Int32} {v_now : (Nat → Int32)} {v_refusals : (Nat → Int32)} {v_dists : (Nat → Int32)} {v_now' : (Nat → Int32)} : (w_X10_next D q_this q_now q_refusals q_dists w_kept w_trial w_row w_letters w_left w_steps w_partners w_times w_spliced w_piece w_balances w_prices w_hands w_hand w_dealing v_hasImage v_rows v_lettered v_stepsMany v_splicedMany v_most v_together v_z v_now v_refusals v_dists).set 1 (q_now, .inl (D.1 100, 50, .inl v_now')) = (w_X10_next D q_this q_now q_refusals q_dists w_kept w_trial w_row w_letters w_left w_steps w_partners w_times w_spliced w_piece w_balances w_prices w_hands w_hand w_dealing v_hasImage v_rows v_lettered v_stepsMany v_splicedMany v_most v_together v_z v_now' v_refusals v_dists) := rfl
theorem w_X10_next_g2 {D : va_G} {q_this : Nat} {q_now : Nat} {q_refusals : Nat} {q_dists : Nat} {w_kept : Value} {w_trial : Value} {w_row : Value} {w_letters : Value} {w_left : Value} {w_steps : Value} {w_partners : Value} {w_times : Value} {w_spliced : Value} {w_piece : Value} {w_balances : Value} {w_prices : Value} {w_hands : Value} {w_hand : Value} {w_dealing : Value} {v_hasImage : Int32} {v_rows : Int32} {v_lettered : Int32} {v_stepsMany : Int32} {v_splicedMany : Int32} {v_most : Int32} {v_together : Int32} {v_z : Int32} {v_now : (Nat → Int32)} {v_refusals : (Nat → Int32)} {v_dists : (Nat → Int32)} : (w_X10_next D q_this q_now q_refusals q_dists w_kept w_trial w_row w_letters w_left w_steps w_partners w_times w_spliced w_piece w_balances w_prices w_hands w_hand w_dealing v_hasImage v_rows v_lettered v_stepsMany v_splicedMany v_most v_together v_z v_now v_refusals v_dists)[2]? = some (q_refusals, .inl (D.1 100, 7, .inl v_refusals)) := rfl
theorem w_X10_next_s2 {D : va_G} {q_this : Nat} {q_now : Nat} {q_refusals : Nat} {q_dists : Nat} {w_kept : Value} {w_trial : Value} {w_row : Value} {w_letters : Value} {w_left : Value} {w_steps : Value} {w_partners : Value} {w_times : Value} {w_spliced : Value} {w_piece : Value} {w_balances : Value} {w_prices : Value} {w_hands : Value} {w_hand : Value} {w_dealing : Value} {v_hasImage : Int32} {v_rows : Int32} {v_lettered : Int32} {v_stepsMany : Int32} {v_splicedMany : Int32} {v_most : Int32} {v_together : Int32} {v_z : Int32} {v_now : (Nat → Int32)} {v_refusals : (Nat → Int32)} {v_dists : (Nat → Int32)} {v_refusals' : (Nat → Int32)} : (w_X10_next D q_this q_now q_refusals q_dists w_kept w_trial w_row w_letters w_left w_steps w_partners w_times w_spliced w_piece w_balances w_prices w_hands w_hand w_dealing v_hasImage v_rows v_lettered v_stepsMany v_splicedMany v_most v_together v_z v_now v_refusals v_dists).set 2 (q_refusals, .inl (D.1 100, 7, .inl v_refusals')) = (w_X10_next D q_this q_now q_refusals q_dists w_kept w_trial w_row w_letters w_left w_steps w_partners w_times w_spliced w_piece w_balances w_prices w_hands w_hand w_dealing v_hasImage v_rows v_lettered v_stepsMany v_splicedMany v_most v_together v_z v_now v_refusals' v_dists) := rfl
theorem w_X10_next_g3 {D : va_G} {q_this : Nat} {q_now : Nat} {q_refusals : Nat} {q_dists : Nat} {w_kept : Value} {w_trial : Value} {w_row : Value} {w_letters : Value} {w_left : Value} {w_steps : Value} {w_partners : Value} {w_times : Value} {w_spliced : Value} {w_piece : Value} {w_balances : Value} {w_prices : Value} {w_hands : Value} {w_hand : Value} {w_dealing : Value} {v_hasImage : Int32} {v_rows : Int32} {v_lettered : Int32} {v_stepsMany : Int32} {v_splicedMany : Int32} {v_most : Int32} {v_together : Int32} {v_z : Int32} {v_now : (Nat → Int32)} {v_refusals : (Nat → Int32)} {v_dists : (Nat → Int32)} : (w_X10_next D q_this q_now q_refusals q_dists w_kept w_trial w_row w_letters w_left w_steps w_partners w_times w_spliced w_piece w_balances w_prices w_hands w_hand w_dealing v_hasImage v_rows v_lettered v_stepsMany v_splicedMany v_most v_together v_z v_now v_refusals v_dists)[3]? = some (q_dists, .inl (D.1 100, 36, .inl v_dists)) := rfl
theorem w_X10_next_s3 {D : va_G} {q_this : Nat} {q_now : Nat} {q_refusals : Nat} {q_dists : Nat} {w_kept : Value} {w_trial : Value} {w_row : Value} {w_letters : Value} {w_left : Value} {w_steps : Value} {w_partners : Value} {w_times : Value} {w_spliced : Value} {w_piece : Value} {w_balances : Value} {w_prices : Value} {w_hands : Value} {w_hand : Value} {w_dealing : Value} {v_hasImage : Int32} {v_rows : Int32} {v_lettered : Int32} {v_stepsMany : Int32} {v_splicedMany : Int32} {v_most : Int32} {v_together : Int32} {v_z : Int32} {v_now : (Nat → Int32)} {v_refusals : (Nat → Int32)} {v_dists : (Nat → Int32)} {v_dists' : (Nat → Int32)} : (w_X10_next D q_this q_now q_refusals q_dists w_kept w_trial w_row w_letters w_left w_steps w_partners w_times w_spliced w_piece w_balances w_prices w_hands w_hand w_dealing v_hasImage v_rows v_lettered v_stepsMany v_splicedMany v_most v_together v_z v_now v_refusals v_dists).set 3 (q_dists, .inl (D.1 100, 36, .inl v_dists')) = (w_X10_next D q_this q_now q_refusals q_dists w_kept w_trial w_row w_letters w_left w_steps w_partners w_times w_spliced w_piece w_balances w_prices w_hands w_hand w_dealing v_hasImage v_rows v_lettered v_stepsMany v_splicedMany v_most v_together v_z v_now v_refusals v_dists') := rfl
theorem w_X10_next_a {D : va_G} {q_this : Nat} {q_now : Nat} {q_refusals : Nat} {q_dists : Nat} {w_kept : Value} {w_trial : Value} {w_row : Value} {w_letters : Value} {w_left : Value} {w_steps : Value} {w_partners : Value} {w_times : Value} {w_spliced : Value} {w_piece : Value} {w_balances : Value} {w_prices : Value} {w_hands : Value} {w_hand : Value} {w_dealing : Value} {v_hasImage : Int32} {v_rows : Int32} {v_lettered : Int32} {v_stepsMany : Int32} {v_splicedMany : Int32} {v_most : Int32} {v_together : Int32} {v_z : Int32} {v_now : (Nat → Int32)} {v_refusals : (Nat → Int32)} {v_dists : (Nat → Int32)} : (w_X10_next D q_this q_now q_refusals q_dists w_kept w_trial w_row w_letters w_left w_steps w_partners w_times w_spliced w_piece w_balances w_prices w_hands w_hand w_dealing v_hasImage v_rows v_lettered v_stepsMany v_splicedMany v_most v_together v_z v_now v_refusals v_dists).map (fun q => q.1) = [q_this, q_now, q_refusals, q_dists] := rfl
def f_X10_next_j2 (v_dists_j2 : (Nat → Int32)) (v_refusals : (Nat → Int32)) : Option (Int32 × (Nat → Int32) × (Nat → Int32)) :=
  (f_X10_refused (-1 : Int32) v_refusals).bind (fun r_refused_3 => some (r_refused_3.1, r_refused_3.2, v_dists_j2))
def f_X10_next (N : Nat) (x1 : Int32) (x2 : Int32) (v_now : (Nat → Int32)) (v_refusals : (Nat → Int32)) (v_dists : (Nat → Int32)) : Option (Int32 × (Nat → Int32) × (Nat → Int32)) :=
  (f_X10_isCorner x1).bind (fun r_isCorner_1 => (if r_isCorner_1 = 0 then f_X10_next_j2 v_dists v_refusals else (f_X10_isCorner x2).bind (fun r_isCorner_4 => (if r_isCorner_4 = 0 then f_X10_next_j2 v_dists v_refusals else (f_X10_measures N v_dists v_now).bind (fun r_measures_5 => (f_X10_nextStep N x1 x2 r_measures_5 v_now).bind (fun r_nextStep_6 => some (r_nextStep_6, v_refusals, r_measures_5)))))))
set_option maxRecDepth 100000 in
set_option maxHeartbeats 4000000 in
theorem c_X10_next (l : Launch) (D : va_G) (N : Nat) {q_this q_now q_refusals q_dists : Nat} {w_kept w_trial w_row w_letters w_left w_steps w_partners w_times w_spliced w_piece w_balances w_prices w_hands w_hand w_dealing : Value} {v_hasImage : Int32} {v_rows : Int32} {v_lettered : Int32} {v_stepsMany : Int32} {v_splicedMany : Int32} {v_most : Int32} {v_together : Int32} {v_z : Int32} {v_now : (Nat → Int32)} {v_refusals : (Nat → Int32)} {v_dists : (Nat → Int32)} {x1 : Int32} {x2 : Int32} {o : (Int32 × (Nat → Int32) × (Nat → Int32))} (h : f_X10_next N x1 x2 v_now v_refusals v_dists = some o) : CT l D yX10_next cX10_next 3 (Option.some FieldType.int) 3 [.ref q_this, .int x1, .int x2] (w_X10_next D q_this q_now q_refusals q_dists w_kept w_trial w_row w_letters w_left w_steps w_partners w_times w_spliced w_piece w_balances w_prices w_hands w_hand w_dealing v_hasImage v_rows v_lettered v_stepsMany v_splicedMany v_most v_together v_z v_now v_refusals v_dists) (w_X10_next D q_this q_now q_refusals q_dists w_kept w_trial w_row w_letters w_left w_steps w_partners w_times w_spliced w_piece w_balances w_prices w_hands w_hand w_dealing v_hasImage v_rows v_lettered v_stepsMany v_splicedMany v_most v_together v_z v_now o.2.1 o.2.2) (some (.int o.1)) := by
  refine CT.of mk_X10_next (Nat.le_of_ble_eq_true rfl) (fun g hl hD C E => ?_)
  subst hl
  subst hD
  unfold f_X10_next at h
  refine j_iload_n C dX10_next_0 rfl ?_
  obtain ⟨r_isCorner_1, h_1, h⟩ := of_bind h
  refine j_callS1 C mk_X10_isCorner ms_X10_isCorner kw_1108 (c_X10_isCorner (gl g) (gD g) h_1) (by decide) [] hC_nil rfl (w_X10_isCorner_a.trans w_X10_isCorner_a.symm) rfl rfl (Nat.le_of_ble_eq_true rfl) dX10_next_1 wput_nil ?_
  have hj_2 : ∀ (v_dists_j2 : (Nat → Int32)), f_X10_next_j2 v_dists_j2 v_refusals = some o → J g (w_X10_next (gD g) q_this q_now q_refusals q_dists w_kept w_trial w_row w_letters w_left w_steps w_partners w_times w_spliced w_piece w_balances w_prices w_hands w_hand w_dealing v_hasImage v_rows v_lettered v_stepsMany v_splicedMany v_most v_together v_z v_now v_refusals v_dists_j2) [(0, .ref q_this)] 14 [] := by
    intro v_dists_j2 h
    unfold f_X10_next_j2 at h
    refine j_aload_n C dX10_next_14 rfl ?_
    refine j_iconst C (-1) dX10_next_15 ki_m1 ?_
    obtain ⟨r_refused_3, h_3, h⟩ := of_bind h
    refine j_callV1 C mk_X10_refused ms_X10_refused kw_1064 (c_X10_refused (gl g) (gD g) h_3) (by decide) 0 w_X10_next_g0 rfl [0, 2] (hC_cons w_X10_next_g0 (hC_cons w_X10_next_g2 hC_nil)) rfl (w_X10_refused_a.trans w_X10_refused_a.symm) rfl rfl (Nat.le_of_ble_eq_true rfl) dX10_next_16 (wput_cons w_X10_next_s0 (wput_cons w_X10_next_s2 wput_nil)) ?_
    have h := Option.some.inj h
    subst h
    exact j_iret C E dX10_next_19
  refine j_if_eq C h 14 dX10_next_4 (by decide) (fun hc h => ?_) (fun hc h => ?_)
  · have hj9 := hj_2 _ h
    exact j_lw hj9 rfl
  · refine j_iload_n C dX10_next_7 rfl ?_
    obtain ⟨r_isCorner_4, h_4, h⟩ := of_bind h
    refine j_callS1 C mk_X10_isCorner ms_X10_isCorner kw_1108 (c_X10_isCorner (gl g) (gD g) h_4) (by decide) [] hC_nil rfl (w_X10_isCorner_a.trans w_X10_isCorner_a.symm) rfl rfl (Nat.le_of_ble_eq_true rfl) dX10_next_8 wput_nil ?_
    refine j_if_ne C h 20 dX10_next_11 (by decide) (fun hc h => ?_) (fun hc h => ?_)
    · have hj9 := hj_2 _ h
      exact j_lw hj9 rfl
    · refine j_aload_n C dX10_next_20 rfl ?_
      refine j_aload_n C dX10_next_21 rfl ?_
      refine j_get C 0 w_X10_next_g0 rfl inX10 0 (by decide) kw_981 rfl rfl dX10_next_22 ?_
      obtain ⟨r_measures_5, h_5, h⟩ := of_bind h
      refine j_callV0 C mk_X10_measures ms_X10_measures kw_1156 (c_X10_measures (gl g) (gD g) N h_5) (by decide) 0 w_X10_next_g0 rfl [0, 3, 1] (hC_cons w_X10_next_g0 (hC_cons w_X10_next_g3 (hC_cons w_X10_next_g1 hC_nil))) rfl (w_X10_measures_a.trans w_X10_measures_a.symm) rfl rfl (Nat.le_of_ble_eq_true rfl) dX10_next_25 (wput_cons w_X10_next_s0 (wput_cons w_X10_next_s3 (wput_cons w_X10_next_s1 wput_nil))) ?_
      refine j_aload_n C dX10_next_28 rfl ?_
      refine j_aload_n C dX10_next_29 rfl ?_
      refine j_get C 0 w_X10_next_g0 rfl inX10 0 (by decide) kw_981 rfl rfl dX10_next_30 ?_
      refine j_iload_n C dX10_next_33 rfl ?_
      refine j_iload_n C dX10_next_34 rfl ?_
      obtain ⟨r_nextStep_6, h_6, h⟩ := of_bind h
      refine j_callV1 C mk_X10_nextStep ms_X10_nextStep kw_1180 (c_X10_nextStep (gl g) (gD g) N h_6) (by decide) 0 w_X10_next_g0 rfl [0, 3, 1] (hC_cons w_X10_next_g0 (hC_cons w_X10_next_g3 (hC_cons w_X10_next_g1 hC_nil))) rfl (w_X10_nextStep_a.trans w_X10_nextStep_a.symm) rfl rfl (Nat.le_of_ble_eq_true rfl) dX10_next_35 (wput_cons w_X10_next_s0 (wput_cons w_X10_next_s3 (wput_cons w_X10_next_s1 wput_nil))) ?_
      have h := Option.some.inj h
      subst h
      exact j_iret C E dX10_next_38

def w_X10_round (D : va_G) (q_this q_now q_refusals q_left q_steps : Nat) (w_kept w_trial w_row w_letters w_dists w_partners w_times w_spliced w_piece w_balances w_prices w_hands w_hand w_dealing : Value) (v_hasImage : Int32) (v_rows : Int32) (v_lettered : Int32) (v_stepsMany : Int32) (v_splicedMany : Int32) (v_most : Int32) (v_together : Int32) (v_z : Int32) (v_now : (Nat → Int32)) (v_refusals : (Nat → Int32)) (v_left : (Nat → Int32)) (v_steps : (Nat → Int32)) : va_W := [(q_this, .inr (9, [.ref q_now, w_kept, w_trial, .int v_hasImage, .ref q_refusals, w_row, .int v_rows, w_letters, .int v_lettered, w_dists, .ref q_left, .ref q_steps, .int v_stepsMany, w_partners, w_times, w_spliced, .int v_splicedMany, w_piece, w_balances, w_prices, w_hands, w_hand, w_dealing, .int v_most, .int v_together, .int v_z])), (q_now, .inl (D.1 100, 50, .inl v_now)), (q_refusals, .inl (D.1 100, 7, .inl v_refusals)), (q_left, .inl (D.1 100, 1536, .inl v_left)), (q_steps, .inl (D.1 100, 64, .inl v_steps))]
theorem w_X10_round_g0 {D : va_G} {q_this : Nat} {q_now : Nat} {q_refusals : Nat} {q_left : Nat} {q_steps : Nat} {w_kept : Value} {w_trial : Value} {w_row : Value} {w_letters : Value} {w_dists : Value} {w_partners : Value} {w_times : Value} {w_spliced : Value} {w_piece : Value} {w_balances : Value} {w_prices : Value} {w_hands : Value} {w_hand : Value} {w_dealing : Value} {v_hasImage : Int32} {v_rows : Int32} {v_lettered : Int32} {v_stepsMany : Int32} {v_splicedMany : Int32} {v_most : Int32} {v_together : Int32} {v_z : Int32} {v_now : (Nat → Int32)} {v_refusals : (Nat → Int32)} {v_left : (Nat → Int32)} {v_steps : (Nat → Int32)} : (w_X10_round D q_this q_now q_refusals q_left q_steps w_kept w_trial w_row w_letters w_dists w_partners w_times w_spliced w_piece w_balances w_prices w_hands w_hand w_dealing v_hasImage v_rows v_lettered v_stepsMany v_splicedMany v_most v_together v_z v_now v_refusals v_left v_steps)[0]? = some (q_this, .inr (9, [.ref q_now, w_kept, w_trial, .int v_hasImage, .ref q_refusals, w_row, .int v_rows, w_letters, .int v_lettered, w_dists, .ref q_left, .ref q_steps, .int v_stepsMany, w_partners, w_times, w_spliced, .int v_splicedMany, w_piece, w_balances, w_prices, w_hands, w_hand, w_dealing, .int v_most, .int v_together, .int v_z])) := rfl
theorem w_X10_round_s0 {D : va_G} {q_this : Nat} {q_now : Nat} {q_refusals : Nat} {q_left : Nat} {q_steps : Nat} {w_kept : Value} {w_trial : Value} {w_row : Value} {w_letters : Value} {w_dists : Value} {w_partners : Value} {w_times : Value} {w_spliced : Value} {w_piece : Value} {w_balances : Value} {w_prices : Value} {w_hands : Value} {w_hand : Value} {w_dealing : Value} {v_hasImage : Int32} {v_rows : Int32} {v_lettered : Int32} {v_stepsMany : Int32} {v_splicedMany : Int32} {v_most : Int32} {v_together : Int32} {v_z : Int32} {v_now : (Nat → Int32)} {v_refusals : (Nat → Int32)} {v_left : (Nat → Int32)} {v_steps : (Nat → Int32)} {v_hasImage' : Int32} {v_rows' : Int32} {v_lettered' : Int32} {v_stepsMany' : Int32} {v_splicedMany' : Int32} {v_most' : Int32} {v_together' : Int32} {v_z' : Int32} : (w_X10_round D q_this q_now q_refusals q_left q_steps w_kept w_trial w_row w_letters w_dists w_partners w_times w_spliced w_piece w_balances w_prices w_hands w_hand w_dealing v_hasImage v_rows v_lettered v_stepsMany v_splicedMany v_most v_together v_z v_now v_refusals v_left v_steps).set 0 (q_this, .inr (9, [.ref q_now, w_kept, w_trial, .int v_hasImage', .ref q_refusals, w_row, .int v_rows', w_letters, .int v_lettered', w_dists, .ref q_left, .ref q_steps, .int v_stepsMany', w_partners, w_times, w_spliced, .int v_splicedMany', w_piece, w_balances, w_prices, w_hands, w_hand, w_dealing, .int v_most', .int v_together', .int v_z'])) = (w_X10_round D q_this q_now q_refusals q_left q_steps w_kept w_trial w_row w_letters w_dists w_partners w_times w_spliced w_piece w_balances w_prices w_hands w_hand w_dealing v_hasImage' v_rows' v_lettered' v_stepsMany' v_splicedMany' v_most' v_together' v_z' v_now v_refusals v_left v_steps) := rfl
theorem w_X10_round_g1 {D : va_G} {q_this : Nat} {q_now : Nat} {q_refusals : Nat} {q_left : Nat} {q_steps : Nat} {w_kept : Value} {w_trial : Value} {w_row : Value} {w_letters : Value} {w_dists : Value} {w_partners : Value} {w_times : Value} {w_spliced : Value} {w_piece : Value} {w_balances : Value} {w_prices : Value} {w_hands : Value} {w_hand : Value} {w_dealing : Value} {v_hasImage : Int32} {v_rows : Int32} {v_lettered : Int32} {v_stepsMany : Int32} {v_splicedMany : Int32} {v_most : Int32} {v_together : Int32} {v_z : Int32} {v_now : (Nat → Int32)} {v_refusals : (Nat → Int32)} {v_left : (Nat → Int32)} {v_steps : (Nat → Int32)} : (w_X10_round D q_this q_now q_refusals q_left q_steps w_kept w_trial w_row w_letters w_dists w_partners w_times w_spliced w_piece w_balances w_prices w_hands w_hand w_dealing v_hasImage v_rows v_lettered v_stepsMany v_splicedMany v_most v_together v_z v_now v_refusals v_left v_steps)[1]? = some (q_now, .inl (D.1 100, 50, .inl v_now)) := rfl
theorem w_X10_round_s1 {D : va_G} {q_this : Nat} {q_now : Nat} {q_refusals : Nat} {q_left : Nat} {q_steps : Nat} {w_kept : Value} {w_trial : Value} {w_row : Value} {w_letters : Value} {w_dists : Value} {w_partners : Value} {w_times : Value} {w_spliced : Value} {w_piece : Value} {w_balances : Value} {w_prices : Value} {w_hands : Value} {w_hand : Value} {w_dealing : Value} {v_hasImage : Int32} {v_rows : Int32} {v_lettered : Int32} {v_stepsMany : Int32} {v_splicedMany : Int32} {v_most : Int32} {v_together : Int32} {v_z : Int32} {v_now : (Nat → Int32)} {v_refusals : (Nat → Int32)} {v_left : (Nat → Int32)} {v_steps : (Nat → Int32)} {v_now' : (Nat → Int32)} : (w_X10_round D q_this q_now q_refusals q_left q_steps w_kept w_trial w_row w_letters w_dists w_partners w_times w_spliced w_piece w_balances w_prices w_hands w_hand w_dealing v_hasImage v_rows v_lettered v_stepsMany v_splicedMany v_most v_together v_z v_now v_refusals v_left v_steps).set 1 (q_now, .inl (D.1 100, 50, .inl v_now')) = (w_X10_round D q_this q_now q_refusals q_left q_steps w_kept w_trial w_row w_letters w_dists w_partners w_times w_spliced w_piece w_balances w_prices w_hands w_hand w_dealing v_hasImage v_rows v_lettered v_stepsMany v_splicedMany v_most v_together v_z v_now' v_refusals v_left v_steps) := rfl
theorem w_X10_round_g2 {D : va_G} {q_this : Nat} {q_now : Nat} {q_refusals : Nat} {q_left : Nat} {q_steps : Nat} {w_kept : Value} {w_trial : Value} {w_row : Value} {w_letters : Value} {w_dists : Value} {w_partners : Value} {w_times : Value} {w_spliced : Value} {w_piece : Value} {w_balances : Value} {w_prices : Value} {w_hands : Value} {w_hand : Value} {w_dealing : Value} {v_hasImage : Int32} {v_rows : Int32} {v_lettered : Int32} {v_stepsMany : Int32} {v_splicedMany : Int32} {v_most : Int32} {v_together : Int32} {v_z : Int32} {v_now : (Nat → Int32)} {v_refusals : (Nat → Int32)} {v_left : (Nat → Int32)} {v_steps : (Nat → Int32)} : (w_X10_round D q_this q_now q_refusals q_left q_steps w_kept w_trial w_row w_letters w_dists w_partners w_times w_spliced w_piece w_balances w_prices w_hands w_hand w_dealing v_hasImage v_rows v_lettered v_stepsMany v_splicedMany v_most v_together v_z v_now v_refusals v_left v_steps)[2]? = some (q_refusals, .inl (D.1 100, 7, .inl v_refusals)) := rfl
theorem w_X10_round_s2 {D : va_G} {q_this : Nat} {q_now : Nat} {q_refusals : Nat} {q_left : Nat} {q_steps : Nat} {w_kept : Value} {w_trial : Value} {w_row : Value} {w_letters : Value} {w_dists : Value} {w_partners : Value} {w_times : Value} {w_spliced : Value} {w_piece : Value} {w_balances : Value} {w_prices : Value} {w_hands : Value} {w_hand : Value} {w_dealing : Value} {v_hasImage : Int32} {v_rows : Int32} {v_lettered : Int32} {v_stepsMany : Int32} {v_splicedMany : Int32} {v_most : Int32} {v_together : Int32} {v_z : Int32} {v_now : (Nat → Int32)} {v_refusals : (Nat → Int32)} {v_left : (Nat → Int32)} {v_steps : (Nat → Int32)} {v_refusals' : (Nat → Int32)} : (w_X10_round D q_this q_now q_refusals q_left q_steps w_kept w_trial w_row w_letters w_dists w_partners w_times w_spliced w_piece w_balances w_prices w_hands w_hand w_dealing v_hasImage v_rows v_lettered v_stepsMany v_splicedMany v_most v_together v_z v_now v_refusals v_left v_steps).set 2 (q_refusals, .inl (D.1 100, 7, .inl v_refusals')) = (w_X10_round D q_this q_now q_refusals q_left q_steps w_kept w_trial w_row w_letters w_dists w_partners w_times w_spliced w_piece w_balances w_prices w_hands w_hand w_dealing v_hasImage v_rows v_lettered v_stepsMany v_splicedMany v_most v_together v_z v_now v_refusals' v_left v_steps) := rfl
theorem w_X10_round_g3 {D : va_G} {q_this : Nat} {q_now : Nat} {q_refusals : Nat} {q_left : Nat} {q_steps : Nat} {w_kept : Value} {w_trial : Value} {w_row : Value} {w_letters : Value} {w_dists : Value} {w_partners : Value} {w_times : Value} {w_spliced : Value} {w_piece : Value} {w_balances : Value} {w_prices : Value} {w_hands : Value} {w_hand : Value} {w_dealing : Value} {v_hasImage : Int32} {v_rows : Int32} {v_lettered : Int32} {v_stepsMany : Int32} {v_splicedMany : Int32} {v_most : Int32} {v_together : Int32} {v_z : Int32} {v_now : (Nat → Int32)} {v_refusals : (Nat → Int32)} {v_left : (Nat → Int32)} {v_steps : (Nat → Int32)} : (w_X10_round D q_this q_now q_refusals q_left q_steps w_kept w_trial w_row w_letters w_dists w_partners w_times w_spliced w_piece w_balances w_prices w_hands w_hand w_dealing v_hasImage v_rows v_lettered v_stepsMany v_splicedMany v_most v_together v_z v_now v_refusals v_left v_steps)[3]? = some (q_left, .inl (D.1 100, 1536, .inl v_left)) := rfl
theorem w_X10_round_s3 {D : va_G} {q_this : Nat} {q_now : Nat} {q_refusals : Nat} {q_left : Nat} {q_steps : Nat} {w_kept : Value} {w_trial : Value} {w_row : Value} {w_letters : Value} {w_dists : Value} {w_partners : Value} {w_times : Value} {w_spliced : Value} {w_piece : Value} {w_balances : Value} {w_prices : Value} {w_hands : Value} {w_hand : Value} {w_dealing : Value} {v_hasImage : Int32} {v_rows : Int32} {v_lettered : Int32} {v_stepsMany : Int32} {v_splicedMany : Int32} {v_most : Int32} {v_together : Int32} {v_z : Int32} {v_now : (Nat → Int32)} {v_refusals : (Nat → Int32)} {v_left : (Nat → Int32)} {v_steps : (Nat → Int32)} {v_left' : (Nat → Int32)} : (w_X10_round D q_this q_now q_refusals q_left q_steps w_kept w_trial w_row w_letters w_dists w_partners w_times w_spliced w_piece w_balances w_prices w_hands w_hand w_dealing v_hasImage v_rows v_lettered v_stepsMany v_splicedMany v_most v_together v_z v_now v_refusals v_left v_steps).set 3 (q_left, .inl (D.1 100, 1536, .inl v_left')) = (w_X10_round D q_this q_now q_refusals q_left q_steps w_kept w_trial w_row w_letters w_dists w_partners w_times w_spliced w_piece w_balances w_prices w_hands w_hand w_dealing v_hasImage v_rows v_lettered v_stepsMany v_splicedMany v_most v_together v_z v_now v_refusals v_left' v_steps) := rfl
theorem w_X10_round_g4 {D : va_G} {q_this : Nat} {q_now : Nat} {q_refusals : Nat} {q_left : Nat} {q_steps : Nat} {w_kept : Value} {w_trial : Value} {w_row : Value} {w_letters : Value} {w_dists : Value} {w_partners : Value} {w_times : Value} {w_spliced : Value} {w_piece : Value} {w_balances : Value} {w_prices : Value} {w_hands : Value} {w_hand : Value} {w_dealing : Value} {v_hasImage : Int32} {v_rows : Int32} {v_lettered : Int32} {v_stepsMany : Int32} {v_splicedMany : Int32} {v_most : Int32} {v_together : Int32} {v_z : Int32} {v_now : (Nat → Int32)} {v_refusals : (Nat → Int32)} {v_left : (Nat → Int32)} {v_steps : (Nat → Int32)} : (w_X10_round D q_this q_now q_refusals q_left q_steps w_kept w_trial w_row w_letters w_dists w_partners w_times w_spliced w_piece w_balances w_prices w_hands w_hand w_dealing v_hasImage v_rows v_lettered v_stepsMany v_splicedMany v_most v_together v_z v_now v_refusals v_left v_steps)[4]? = some (q_steps, .inl (D.1 100, 64, .inl v_steps)) := rfl
theorem w_X10_round_s4 {D : va_G} {q_this : Nat} {q_now : Nat} {q_refusals : Nat} {q_left : Nat} {q_steps : Nat} {w_kept : Value} {w_trial : Value} {w_row : Value} {w_letters : Value} {w_dists : Value} {w_partners : Value} {w_times : Value} {w_spliced : Value} {w_piece : Value} {w_balances : Value} {w_prices : Value} {w_hands : Value} {w_hand : Value} {w_dealing : Value} {v_hasImage : Int32} {v_rows : Int32} {v_lettered : Int32} {v_stepsMany : Int32} {v_splicedMany : Int32} {v_most : Int32} {v_together : Int32} {v_z : Int32} {v_now : (Nat → Int32)} {v_refusals : (Nat → Int32)} {v_left : (Nat → Int32)} {v_steps : (Nat → Int32)} {v_steps' : (Nat → Int32)} : (w_X10_round D q_this q_now q_refusals q_left q_steps w_kept w_trial w_row w_letters w_dists w_partners w_times w_spliced w_piece w_balances w_prices w_hands w_hand w_dealing v_hasImage v_rows v_lettered v_stepsMany v_splicedMany v_most v_together v_z v_now v_refusals v_left v_steps).set 4 (q_steps, .inl (D.1 100, 64, .inl v_steps')) = (w_X10_round D q_this q_now q_refusals q_left q_steps w_kept w_trial w_row w_letters w_dists w_partners w_times w_spliced w_piece w_balances w_prices w_hands w_hand w_dealing v_hasImage v_rows v_lettered v_stepsMany v_splicedMany v_most v_together v_z v_now v_refusals v_left v_steps') := rfl
theorem w_X10_round_a {D : va_G} {q_this : Nat} {q_now : Nat} {q_refusals : Nat} {q_left : Nat} {q_steps : Nat} {w_kept : Value} {w_trial : Value} {w_row : Value} {w_letters : Value} {w_dists : Value} {w_partners : Value} {w_times : Value} {w_spliced : Value} {w_piece : Value} {w_balances : Value} {w_prices : Value} {w_hands : Value} {w_hand : Value} {w_dealing : Value} {v_hasImage : Int32} {v_rows : Int32} {v_lettered : Int32} {v_stepsMany : Int32} {v_splicedMany : Int32} {v_most : Int32} {v_together : Int32} {v_z : Int32} {v_now : (Nat → Int32)} {v_refusals : (Nat → Int32)} {v_left : (Nat → Int32)} {v_steps : (Nat → Int32)} : (w_X10_round D q_this q_now q_refusals q_left q_steps w_kept w_trial w_row w_letters w_dists w_partners w_times w_spliced w_piece w_balances w_prices w_hands w_hand w_dealing v_hasImage v_rows v_lettered v_stepsMany v_splicedMany v_most v_together v_z v_now v_refusals v_left v_steps).map (fun q => q.1) = [q_this, q_now, q_refusals, q_left, q_steps] := rfl
def f_X10_round_b46 (N : Nat) (r_walks_2_1 : Int32) (x5_46 : Int32) (x3_46 : Int32) (x4_46 : Int32) (r_walks_2_3 : (Nat → Int32)) (v_now : (Nat → Int32)) : Option ((Int32 × Int32 × Int32) ⊕ (Int32 × Int32)) :=
  (if r_walks_2_1 ≤ x5_46 then some (.inr (x3_46, x4_46)) else (f_X10_isAgain N x5_46 r_walks_2_3 v_now).bind (fun r_isAgain_3 => (if r_isAgain_3 = 0 then some (.inl (x3_46, x4_46, x5_46 + (1 : Int32))) else ga x5_46 64 ((f_X10_cost (r_walks_2_3 (Int32.toNatClampNeg x5_46)) v_now).bind (fun r_cost_4 => some (.inl (x3_46 + (1 : Int32), x4_46 + r_cost_4, x5_46 + (1 : Int32))))))))
def f_X10_round (N : Nat) (x1 : Int32) (v_stepsMany : Int32) (v_now : (Nat → Int32)) (v_refusals : (Nat → Int32)) (v_left : (Nat → Int32)) (v_steps : (Nat → Int32)) : Option (Int32 × Int32 × (Nat → Int32) × (Nat → Int32) × (Nat → Int32)) :=
  (f_X10_in (Int32.toInt64 x1) (0 : Int64) (3 : Int64)).bind (fun r_in_1 => (if r_in_1 = 0 then (f_X10_refused (-2 : Int32) v_refusals).bind (fun r_refused_6 => some (r_refused_6.1, v_stepsMany, r_refused_6.2, v_left, v_steps)) else (f_X10_walks N v_stepsMany v_left v_steps v_now).bind (fun r_walks_2 => (if r_walks_2.1 < 0 then some (r_walks_2.1, r_walks_2.2.1, v_refusals, r_walks_2.2.2.1, r_walks_2.2.2.2) else (if x1 = 0 then some (r_walks_2.1, r_walks_2.2.1, v_refusals, r_walks_2.2.2.1, r_walks_2.2.2.2) else (lp (fun s_46 => f_X10_round_b46 N r_walks_2.2.1 s_46.2.2 s_46.1 s_46.2.1 r_walks_2.2.2.2 v_now) N ((0 : Int32), (0 : Int32), (0 : Int32))).bind (fun e_46 => some (if x1 = (1 : Int32) then r_walks_2.2.1 else (if x1 = (2 : Int32) then e_46.1 else e_46.2), r_walks_2.2.1, v_refusals, r_walks_2.2.2.1, r_walks_2.2.2.2)))))))
set_option maxRecDepth 100000 in
set_option maxHeartbeats 4000000 in
theorem c_X10_round (l : Launch) (D : va_G) (N : Nat) {q_this q_now q_refusals q_left q_steps : Nat} {w_kept w_trial w_row w_letters w_dists w_partners w_times w_spliced w_piece w_balances w_prices w_hands w_hand w_dealing : Value} {v_hasImage : Int32} {v_rows : Int32} {v_lettered : Int32} {v_stepsMany : Int32} {v_splicedMany : Int32} {v_most : Int32} {v_together : Int32} {v_z : Int32} {v_now : (Nat → Int32)} {v_refusals : (Nat → Int32)} {v_left : (Nat → Int32)} {v_steps : (Nat → Int32)} {x1 : Int32} {o : (Int32 × Int32 × (Nat → Int32) × (Nat → Int32) × (Nat → Int32))} (h : f_X10_round N x1 v_stepsMany v_now v_refusals v_left v_steps = some o) : CT l D yX10_round cX10_round 6 (Option.some FieldType.int) 6 [.ref q_this, .int x1] (w_X10_round D q_this q_now q_refusals q_left q_steps w_kept w_trial w_row w_letters w_dists w_partners w_times w_spliced w_piece w_balances w_prices w_hands w_hand w_dealing v_hasImage v_rows v_lettered v_stepsMany v_splicedMany v_most v_together v_z v_now v_refusals v_left v_steps) (w_X10_round D q_this q_now q_refusals q_left q_steps w_kept w_trial w_row w_letters w_dists w_partners w_times w_spliced w_piece w_balances w_prices w_hands w_hand w_dealing v_hasImage v_rows v_lettered o.2.1 v_splicedMany v_most v_together v_z v_now o.2.2.1 o.2.2.2.1 o.2.2.2.2) (some (.int o.1)) := by
  refine CT.of mk_X10_round (Nat.le_of_ble_eq_true rfl) (fun g hl hD C E => ?_)
  subst hl
  subst hD
  unfold f_X10_round at h
  refine j_iload_n C dX10_round_0 rfl ?_
  refine j_i2l C dX10_round_1 ?_
  refine j_lconst C 0 dX10_round_2 rfl ?_
  refine j_ldc2 C kw_1191 dX10_round_3 ?_
  obtain ⟨r_in_1, h_1, h⟩ := of_bind h
  refine j_callS1 C mk_X10_in ms_X10_in kw_1085 (c_X10_in (gl g) (gD g) h_1) (by decide) [] hC_nil rfl (w_X10_in_a.trans w_X10_in_a.symm) rfl rfl (Nat.le_of_ble_eq_true rfl) dX10_round_6 wput_nil ?_
  refine j_if_ne C h 19 dX10_round_9 (by decide) (fun hc h => ?_) (fun hc h => ?_)
  · refine j_aload_n C dX10_round_12 rfl ?_
    refine j_bipush C (-2) dX10_round_13 kb_m2 ?_
    obtain ⟨r_refused_6, h_6, h⟩ := of_bind h
    refine j_callV1 C mk_X10_refused ms_X10_refused kw_1064 (c_X10_refused (gl g) (gD g) h_6) (by decide) 0 w_X10_round_g0 rfl [0, 2] (hC_cons w_X10_round_g0 (hC_cons w_X10_round_g2 hC_nil)) rfl (w_X10_refused_a.trans w_X10_refused_a.symm) rfl rfl (Nat.le_of_ble_eq_true rfl) dX10_round_15 (wput_cons w_X10_round_s0 (wput_cons w_X10_round_s2 wput_nil)) ?_
    have h := Option.some.inj h
    subst h
    exact j_iret C E dX10_round_18
  · refine j_aload_n C dX10_round_19 rfl ?_
    refine j_aload_n C dX10_round_20 rfl ?_
    refine j_get C 0 w_X10_round_g0 rfl inX10 0 (by decide) kw_981 rfl rfl dX10_round_21 ?_
    obtain ⟨r_walks_2, h_2, h⟩ := of_bind h
    refine j_callV1 C mk_X10_walks ms_X10_walks kw_1192 (c_X10_walks (gl g) (gD g) N h_2) (by decide) 0 w_X10_round_g0 rfl [0, 3, 4, 1] (hC_cons w_X10_round_g0 (hC_cons w_X10_round_g3 (hC_cons w_X10_round_g4 (hC_cons w_X10_round_g1 hC_nil)))) rfl (w_X10_walks_a.trans w_X10_walks_a.symm) rfl rfl (Nat.le_of_ble_eq_true rfl) dX10_round_24 (wput_cons w_X10_round_s0 (wput_cons w_X10_round_s3 (wput_cons w_X10_round_s4 (wput_cons w_X10_round_s1 wput_nil)))) ?_
    refine j_istore_n C dX10_round_27 (by decide) ?_
    refine j_iload_n C dX10_round_28 rfl ?_
    refine j_if_lt C h 36 dX10_round_29 (by decide) (fun hc h => ?_) (fun hc h => ?_)
    · refine j_iload_n C dX10_round_36 rfl ?_
      have h := Option.some.inj h
      subst h
      exact j_iret C E dX10_round_37
    · refine j_iload_n C dX10_round_32 rfl ?_
      refine j_if_ne C h 38 dX10_round_33 (by decide) (fun hc h => ?_) (fun hc h => ?_)
      · refine j_iload_n C dX10_round_36 rfl ?_
        have h := Option.some.inj h
        subst h
        exact j_iret C E dX10_round_37
      · refine j_iconst C (0) dX10_round_38 ki_0 ?_
        refine j_istore_n C dX10_round_39 (by decide) ?_
        refine j_iconst C (0) dX10_round_40 ki_0 ?_
        refine j_istore C dX10_round_41 (by decide) ?_
        refine j_iconst C (0) dX10_round_43 ki_0 ?_
        refine j_istore C dX10_round_44 (by decide) ?_
        obtain ⟨e_46, hl_46, h⟩ := of_bind h
        have ha_46 : J g (w_X10_round (gD g) q_this q_now q_refusals q_left q_steps w_kept w_trial w_row w_letters w_dists w_partners w_times w_spliced w_piece w_balances w_prices w_hands w_hand w_dealing v_hasImage v_rows v_lettered r_walks_2.2.1 v_splicedMany v_most v_together v_z v_now v_refusals r_walks_2.2.2.1 r_walks_2.2.2.2) [(0, .ref q_this), (1, .int (x1)), (3, .int (e_46.1)), (4, .int (e_46.2))] 96 [] := by
          refine j_iload_n C dX10_round_96 rfl ?_
          refine j_iconst C (1) dX10_round_97 ki_1 ?_
          have hj_5 : J g (w_X10_round (gD g) q_this q_now q_refusals q_left q_steps w_kept w_trial w_row w_letters w_dists w_partners w_times w_spliced w_piece w_balances w_prices w_hands w_hand w_dealing v_hasImage v_rows v_lettered r_walks_2.2.1 v_splicedMany v_most v_together v_z v_now v_refusals r_walks_2.2.2.1 r_walks_2.2.2.2) [] 119 [.int (if x1 = (1 : Int32) then r_walks_2.2.1 else (if x1 = (2 : Int32) then e_46.1 else e_46.2))] := by
            have h := Option.some.inj h
            subst h
            exact j_iret C E dX10_round_119
          refine jv_icmp_ne C 108 dX10_round_98 (by decide) (fun hc => ?_) (fun hc => ?_)
          · try simp only [if_pos hc] at hj_5
            refine j_aload_n C dX10_round_101 rfl ?_
            refine j_get C 0 w_X10_round_g0 rfl inX10 12 (by decide) kw_993 rfl rfl dX10_round_102 ?_
            refine j_goto C 119 dX10_round_105 (by decide) ?_
            exact j_lw hj_5 rfl
          · try simp only [if_neg hc] at hj_5
            refine j_iload_n C dX10_round_108 rfl ?_
            refine j_iconst C (2) dX10_round_109 ki_2 ?_
            refine jv_icmp_ne C 117 dX10_round_110 (by decide) (fun hc => ?_) (fun hc => ?_)
            · try simp only [if_pos hc] at hj_5
              refine j_iload_n C dX10_round_113 rfl ?_
              refine j_goto C 119 dX10_round_114 (by decide) ?_
              exact j_lw hj_5 rfl
            · try simp only [if_neg hc] at hj_5
              refine j_iload C dX10_round_117 rfl ?_
              exact j_lw hj_5 rfl
        refine j_lv (lv' := [(0, .ref q_this), (1, .int (x1)), (3, .int ((0 : Int32))), (4, .int ((0 : Int32))), (5, .int ((0 : Int32)))]) rfl ?_
        refine lp_ind hl_46 (fun s_46 => J g (w_X10_round (gD g) q_this q_now q_refusals q_left q_steps w_kept w_trial w_row w_letters w_dists w_partners w_times w_spliced w_piece w_balances w_prices w_hands w_hand w_dealing v_hasImage v_rows v_lettered r_walks_2.2.1 v_splicedMany v_most v_together v_z v_now v_refusals r_walks_2.2.2.1 r_walks_2.2.2.2) [(0, .ref q_this), (1, .int (x1)), (3, .int (s_46.1)), (4, .int (s_46.2.1)), (5, .int (s_46.2.2))] 46 []) (fun s_46 r_46 h hc_46 hx_46 => ?_)
        unfold f_X10_round_b46 at h
        refine j_iload C dX10_round_46 rfl ?_
        refine j_aload_n C dX10_round_48 rfl ?_
        refine j_get C 0 w_X10_round_g0 rfl inX10 12 (by decide) kw_993 rfl rfl dX10_round_49 ?_
        refine j_icmp_ge C h 96 dX10_round_52 (by decide) (fun hc h => ?_) (fun hc h => ?_)
        · have h := Option.some.inj h
          subst h
          have h9 := hx_46 _ rfl
          subst h9
          exact j_lw ha_46 rfl
        · refine j_aload_n C dX10_round_55 rfl ?_
          refine j_aload_n C dX10_round_56 rfl ?_
          refine j_get C 0 w_X10_round_g0 rfl inX10 0 (by decide) kw_981 rfl rfl dX10_round_57 ?_
          refine j_iload C dX10_round_60 rfl ?_
          obtain ⟨r_isAgain_3, h_3, h⟩ := of_bind h
          refine j_callV1 C mk_X10_isAgain ms_X10_isAgain kw_1215 (c_X10_isAgain (gl g) (gD g) N h_3) (by decide) 0 w_X10_round_g0 rfl [0, 4, 1] (hC_cons w_X10_round_g0 (hC_cons w_X10_round_g4 (hC_cons w_X10_round_g1 hC_nil))) rfl (w_X10_isAgain_a.trans w_X10_isAgain_a.symm) rfl rfl (Nat.le_of_ble_eq_true rfl) dX10_round_62 (wput_cons w_X10_round_s0 (wput_cons w_X10_round_s4 (wput_cons w_X10_round_s1 wput_nil))) ?_
          refine j_if_eq C h 90 dX10_round_65 (by decide) (fun hc h => ?_) (fun hc h => ?_)
          · refine j_inc C (1) dX10_round_90 rfl ki_1 (by decide) ?_
            refine j_goto C 46 dX10_round_93 (by decide) ?_
            have h := Option.some.inj h
            subst h
            have hc9 := hc_46 _ rfl
            exact j_lw hc9 rfl
          · refine j_inc C (1) dX10_round_68 rfl ki_1 (by decide) ?_
            refine j_iload C dX10_round_71 rfl ?_
            refine j_aload_n C dX10_round_73 rfl ?_
            refine j_get C 0 w_X10_round_g0 rfl inX10 0 (by decide) kw_981 rfl rfl dX10_round_74 ?_
            refine j_aload_n C dX10_round_77 rfl ?_
            refine j_get C 0 w_X10_round_g0 rfl inX10 11 (by decide) kw_992 rfl rfl dX10_round_78 ?_
            refine j_iload C dX10_round_81 rfl ?_
            refine j_iaload 4 C h w_X10_round_g4 rfl dX10_round_83 (fun h => ?_)
            obtain ⟨r_cost_4, h_4, h⟩ := of_bind h
            refine j_callS1 C mk_X10_cost ms_X10_cost kw_1142 (c_X10_cost (gl g) (gD g) h_4) (by decide) [1] (hC_cons w_X10_round_g1 hC_nil) rfl (w_X10_cost_a.trans w_X10_cost_a.symm) rfl rfl (Nat.le_of_ble_eq_true rfl) dX10_round_84 (wput_cons w_X10_round_s1 wput_nil) ?_
            refine j_iadd C dX10_round_87 ?_
            refine j_istore C dX10_round_88 (by decide) ?_
            refine j_inc C (1) dX10_round_90 rfl ki_1 (by decide) ?_
            refine j_goto C 46 dX10_round_93 (by decide) ?_
            have h := Option.some.inj h
            subst h
            have hc9 := hc_46 _ rfl
            exact j_lw hc9 rfl

def w_X10_step (D : va_G) (q_this q_now q_refusals q_left q_steps : Nat) (w_kept w_trial w_row w_letters w_dists w_partners w_times w_spliced w_piece w_balances w_prices w_hands w_hand w_dealing : Value) (v_hasImage : Int32) (v_rows : Int32) (v_lettered : Int32) (v_stepsMany : Int32) (v_splicedMany : Int32) (v_most : Int32) (v_together : Int32) (v_z : Int32) (v_now : (Nat → Int32)) (v_refusals : (Nat → Int32)) (v_left : (Nat → Int32)) (v_steps : (Nat → Int32)) : va_W := [(q_this, .inr (9, [.ref q_now, w_kept, w_trial, .int v_hasImage, .ref q_refusals, w_row, .int v_rows, w_letters, .int v_lettered, w_dists, .ref q_left, .ref q_steps, .int v_stepsMany, w_partners, w_times, w_spliced, .int v_splicedMany, w_piece, w_balances, w_prices, w_hands, w_hand, w_dealing, .int v_most, .int v_together, .int v_z])), (q_now, .inl (D.1 100, 50, .inl v_now)), (q_refusals, .inl (D.1 100, 7, .inl v_refusals)), (q_left, .inl (D.1 100, 1536, .inl v_left)), (q_steps, .inl (D.1 100, 64, .inl v_steps))]
theorem w_X10_step_g0 {D : va_G} {q_this : Nat} {q_now : Nat} {q_refusals : Nat} {q_left : Nat} {q_steps : Nat} {w_kept : Value} {w_trial : Value} {w_row : Value} {w_letters : Value} {w_dists : Value} {w_partners : Value} {w_times : Value} {w_spliced : Value} {w_piece : Value} {w_balances : Value} {w_prices : Value} {w_hands : Value} {w_hand : Value} {w_dealing : Value} {v_hasImage : Int32} {v_rows : Int32} {v_lettered : Int32} {v_stepsMany : Int32} {v_splicedMany : Int32} {v_most : Int32} {v_together : Int32} {v_z : Int32} {v_now : (Nat → Int32)} {v_refusals : (Nat → Int32)} {v_left : (Nat → Int32)} {v_steps : (Nat → Int32)} : (w_X10_step D q_this q_now q_refusals q_left q_steps w_kept w_trial w_row w_letters w_dists w_partners w_times w_spliced w_piece w_balances w_prices w_hands w_hand w_dealing v_hasImage v_rows v_lettered v_stepsMany v_splicedMany v_most v_together v_z v_now v_refusals v_left v_steps)[0]? = some (q_this, .inr (9, [.ref q_now, w_kept, w_trial, .int v_hasImage, .ref q_refusals, w_row, .int v_rows, w_letters, .int v_lettered, w_dists, .ref q_left, .ref q_steps, .int v_stepsMany, w_partners, w_times, w_spliced, .int v_splicedMany, w_piece, w_balances, w_prices, w_hands, w_hand, w_dealing, .int v_most, .int v_together, .int v_z])) := rfl
theorem w_X10_step_s0 {D : va_G} {q_this : Nat} {q_now : Nat} {q_refusals : Nat} {q_left : Nat} {q_steps : Nat} {w_kept : Value} {w_trial : Value} {w_row : Value} {w_letters : Value} {w_dists : Value} {w_partners : Value} {w_times : Value} {w_spliced : Value} {w_piece : Value} {w_balances : Value} {w_prices : Value} {w_hands : Value} {w_hand : Value} {w_dealing : Value} {v_hasImage : Int32} {v_rows : Int32} {v_lettered : Int32} {v_stepsMany : Int32} {v_splicedMany : Int32} {v_most : Int32} {v_together : Int32} {v_z : Int32} {v_now : (Nat → Int32)} {v_refusals : (Nat → Int32)} {v_left : (Nat → Int32)} {v_steps : (Nat → Int32)} {v_hasImage' : Int32} {v_rows' : Int32} {v_lettered' : Int32} {v_stepsMany' : Int32} {v_splicedMany' : Int32} {v_most' : Int32} {v_together' : Int32} {v_z' : Int32} : (w_X10_step D q_this q_now q_refusals q_left q_steps w_kept w_trial w_row w_letters w_dists w_partners w_times w_spliced w_piece w_balances w_prices w_hands w_hand w_dealing v_hasImage v_rows v_lettered v_stepsMany v_splicedMany v_most v_together v_z v_now v_refusals v_left v_steps).set 0 (q_this, .inr (9, [.ref q_now, w_kept, w_trial, .int v_hasImage', .ref q_refusals, w_row, .int v_rows', w_letters, .int v_lettered', w_dists, .ref q_left, .ref q_steps, .int v_stepsMany', w_partners, w_times, w_spliced, .int v_splicedMany', w_piece, w_balances, w_prices, w_hands, w_hand, w_dealing, .int v_most', .int v_together', .int v_z'])) = (w_X10_step D q_this q_now q_refusals q_left q_steps w_kept w_trial w_row w_letters w_dists w_partners w_times w_spliced w_piece w_balances w_prices w_hands w_hand w_dealing v_hasImage' v_rows' v_lettered' v_stepsMany' v_splicedMany' v_most' v_together' v_z' v_now v_refusals v_left v_steps) := rfl
theorem w_X10_step_g1 {D : va_G} {q_this : Nat} {q_now : Nat} {q_refusals : Nat} {q_left : Nat} {q_steps : Nat} {w_kept : Value} {w_trial : Value} {w_row : Value} {w_letters : Value} {w_dists : Value} {w_partners : Value} {w_times : Value} {w_spliced : Value} {w_piece : Value} {w_balances : Value} {w_prices : Value} {w_hands : Value} {w_hand : Value} {w_dealing : Value} {v_hasImage : Int32} {v_rows : Int32} {v_lettered : Int32} {v_stepsMany : Int32} {v_splicedMany : Int32} {v_most : Int32} {v_together : Int32} {v_z : Int32} {v_now : (Nat → Int32)} {v_refusals : (Nat → Int32)} {v_left : (Nat → Int32)} {v_steps : (Nat → Int32)} : (w_X10_step D q_this q_now q_refusals q_left q_steps w_kept w_trial w_row w_letters w_dists w_partners w_times w_spliced w_piece w_balances w_prices w_hands w_hand w_dealing v_hasImage v_rows v_lettered v_stepsMany v_splicedMany v_most v_together v_z v_now v_refusals v_left v_steps)[1]? = some (q_now, .inl (D.1 100, 50, .inl v_now)) := rfl
theorem w_X10_step_s1 {D : va_G} {q_this : Nat} {q_now : Nat} {q_refusals : Nat} {q_left : Nat} {q_steps : Nat} {w_kept : Value} {w_trial : Value} {w_row : Value} {w_letters : Value} {w_dists : Value} {w_partners : Value} {w_times : Value} {w_spliced : Value} {w_piece : Value} {w_balances : Value} {w_prices : Value} {w_hands : Value} {w_hand : Value} {w_dealing : Value} {v_hasImage : Int32} {v_rows : Int32} {v_lettered : Int32} {v_stepsMany : Int32} {v_splicedMany : Int32} {v_most : Int32} {v_together : Int32} {v_z : Int32} {v_now : (Nat → Int32)} {v_refusals : (Nat → Int32)} {v_left : (Nat → Int32)} {v_steps : (Nat → Int32)} {v_now' : (Nat → Int32)} : (w_X10_step D q_this q_now q_refusals q_left q_steps w_kept w_trial w_row w_letters w_dists w_partners w_times w_spliced w_piece w_balances w_prices w_hands w_hand w_dealing v_hasImage v_rows v_lettered v_stepsMany v_splicedMany v_most v_together v_z v_now v_refusals v_left v_steps).set 1 (q_now, .inl (D.1 100, 50, .inl v_now')) = (w_X10_step D q_this q_now q_refusals q_left q_steps w_kept w_trial w_row w_letters w_dists w_partners w_times w_spliced w_piece w_balances w_prices w_hands w_hand w_dealing v_hasImage v_rows v_lettered v_stepsMany v_splicedMany v_most v_together v_z v_now' v_refusals v_left v_steps) := rfl
theorem w_X10_step_g2 {D : va_G} {q_this : Nat} {q_now : Nat} {q_refusals : Nat} {q_left : Nat} {q_steps : Nat} {w_kept : Value} {w_trial : Value} {w_row : Value} {w_letters : Value} {w_dists : Value} {w_partners : Value} {w_times : Value} {w_spliced : Value} {w_piece : Value} {w_balances : Value} {w_prices : Value} {w_hands : Value} {w_hand : Value} {w_dealing : Value} {v_hasImage : Int32} {v_rows : Int32} {v_lettered : Int32} {v_stepsMany : Int32} {v_splicedMany : Int32} {v_most : Int32} {v_together : Int32} {v_z : Int32} {v_now : (Nat → Int32)} {v_refusals : (Nat → Int32)} {v_left : (Nat → Int32)} {v_steps : (Nat → Int32)} : (w_X10_step D q_this q_now q_refusals q_left q_steps w_kept w_trial w_row w_letters w_dists w_partners w_times w_spliced w_piece w_balances w_prices w_hands w_hand w_dealing v_hasImage v_rows v_lettered v_stepsMany v_splicedMany v_most v_together v_z v_now v_refusals v_left v_steps)[2]? = some (q_refusals, .inl (D.1 100, 7, .inl v_refusals)) := rfl
theorem w_X10_step_s2 {D : va_G} {q_this : Nat} {q_now : Nat} {q_refusals : Nat} {q_left : Nat} {q_steps : Nat} {w_kept : Value} {w_trial : Value} {w_row : Value} {w_letters : Value} {w_dists : Value} {w_partners : Value} {w_times : Value} {w_spliced : Value} {w_piece : Value} {w_balances : Value} {w_prices : Value} {w_hands : Value} {w_hand : Value} {w_dealing : Value} {v_hasImage : Int32} {v_rows : Int32} {v_lettered : Int32} {v_stepsMany : Int32} {v_splicedMany : Int32} {v_most : Int32} {v_together : Int32} {v_z : Int32} {v_now : (Nat → Int32)} {v_refusals : (Nat → Int32)} {v_left : (Nat → Int32)} {v_steps : (Nat → Int32)} {v_refusals' : (Nat → Int32)} : (w_X10_step D q_this q_now q_refusals q_left q_steps w_kept w_trial w_row w_letters w_dists w_partners w_times w_spliced w_piece w_balances w_prices w_hands w_hand w_dealing v_hasImage v_rows v_lettered v_stepsMany v_splicedMany v_most v_together v_z v_now v_refusals v_left v_steps).set 2 (q_refusals, .inl (D.1 100, 7, .inl v_refusals')) = (w_X10_step D q_this q_now q_refusals q_left q_steps w_kept w_trial w_row w_letters w_dists w_partners w_times w_spliced w_piece w_balances w_prices w_hands w_hand w_dealing v_hasImage v_rows v_lettered v_stepsMany v_splicedMany v_most v_together v_z v_now v_refusals' v_left v_steps) := rfl
theorem w_X10_step_g3 {D : va_G} {q_this : Nat} {q_now : Nat} {q_refusals : Nat} {q_left : Nat} {q_steps : Nat} {w_kept : Value} {w_trial : Value} {w_row : Value} {w_letters : Value} {w_dists : Value} {w_partners : Value} {w_times : Value} {w_spliced : Value} {w_piece : Value} {w_balances : Value} {w_prices : Value} {w_hands : Value} {w_hand : Value} {w_dealing : Value} {v_hasImage : Int32} {v_rows : Int32} {v_lettered : Int32} {v_stepsMany : Int32} {v_splicedMany : Int32} {v_most : Int32} {v_together : Int32} {v_z : Int32} {v_now : (Nat → Int32)} {v_refusals : (Nat → Int32)} {v_left : (Nat → Int32)} {v_steps : (Nat → Int32)} : (w_X10_step D q_this q_now q_refusals q_left q_steps w_kept w_trial w_row w_letters w_dists w_partners w_times w_spliced w_piece w_balances w_prices w_hands w_hand w_dealing v_hasImage v_rows v_lettered v_stepsMany v_splicedMany v_most v_together v_z v_now v_refusals v_left v_steps)[3]? = some (q_left, .inl (D.1 100, 1536, .inl v_left)) := rfl
theorem w_X10_step_s3 {D : va_G} {q_this : Nat} {q_now : Nat} {q_refusals : Nat} {q_left : Nat} {q_steps : Nat} {w_kept : Value} {w_trial : Value} {w_row : Value} {w_letters : Value} {w_dists : Value} {w_partners : Value} {w_times : Value} {w_spliced : Value} {w_piece : Value} {w_balances : Value} {w_prices : Value} {w_hands : Value} {w_hand : Value} {w_dealing : Value} {v_hasImage : Int32} {v_rows : Int32} {v_lettered : Int32} {v_stepsMany : Int32} {v_splicedMany : Int32} {v_most : Int32} {v_together : Int32} {v_z : Int32} {v_now : (Nat → Int32)} {v_refusals : (Nat → Int32)} {v_left : (Nat → Int32)} {v_steps : (Nat → Int32)} {v_left' : (Nat → Int32)} : (w_X10_step D q_this q_now q_refusals q_left q_steps w_kept w_trial w_row w_letters w_dists w_partners w_times w_spliced w_piece w_balances w_prices w_hands w_hand w_dealing v_hasImage v_rows v_lettered v_stepsMany v_splicedMany v_most v_together v_z v_now v_refusals v_left v_steps).set 3 (q_left, .inl (D.1 100, 1536, .inl v_left')) = (w_X10_step D q_this q_now q_refusals q_left q_steps w_kept w_trial w_row w_letters w_dists w_partners w_times w_spliced w_piece w_balances w_prices w_hands w_hand w_dealing v_hasImage v_rows v_lettered v_stepsMany v_splicedMany v_most v_together v_z v_now v_refusals v_left' v_steps) := rfl
theorem w_X10_step_g4 {D : va_G} {q_this : Nat} {q_now : Nat} {q_refusals : Nat} {q_left : Nat} {q_steps : Nat} {w_kept : Value} {w_trial : Value} {w_row : Value} {w_letters : Value} {w_dists : Value} {w_partners : Value} {w_times : Value} {w_spliced : Value} {w_piece : Value} {w_balances : Value} {w_prices : Value} {w_hands : Value} {w_hand : Value} {w_dealing : Value} {v_hasImage : Int32} {v_rows : Int32} {v_lettered : Int32} {v_stepsMany : Int32} {v_splicedMany : Int32} {v_most : Int32} {v_together : Int32} {v_z : Int32} {v_now : (Nat → Int32)} {v_refusals : (Nat → Int32)} {v_left : (Nat → Int32)} {v_steps : (Nat → Int32)} : (w_X10_step D q_this q_now q_refusals q_left q_steps w_kept w_trial w_row w_letters w_dists w_partners w_times w_spliced w_piece w_balances w_prices w_hands w_hand w_dealing v_hasImage v_rows v_lettered v_stepsMany v_splicedMany v_most v_together v_z v_now v_refusals v_left v_steps)[4]? = some (q_steps, .inl (D.1 100, 64, .inl v_steps)) := rfl
theorem w_X10_step_s4 {D : va_G} {q_this : Nat} {q_now : Nat} {q_refusals : Nat} {q_left : Nat} {q_steps : Nat} {w_kept : Value} {w_trial : Value} {w_row : Value} {w_letters : Value} {w_dists : Value} {w_partners : Value} {w_times : Value} {w_spliced : Value} {w_piece : Value} {w_balances : Value} {w_prices : Value} {w_hands : Value} {w_hand : Value} {w_dealing : Value} {v_hasImage : Int32} {v_rows : Int32} {v_lettered : Int32} {v_stepsMany : Int32} {v_splicedMany : Int32} {v_most : Int32} {v_together : Int32} {v_z : Int32} {v_now : (Nat → Int32)} {v_refusals : (Nat → Int32)} {v_left : (Nat → Int32)} {v_steps : (Nat → Int32)} {v_steps' : (Nat → Int32)} : (w_X10_step D q_this q_now q_refusals q_left q_steps w_kept w_trial w_row w_letters w_dists w_partners w_times w_spliced w_piece w_balances w_prices w_hands w_hand w_dealing v_hasImage v_rows v_lettered v_stepsMany v_splicedMany v_most v_together v_z v_now v_refusals v_left v_steps).set 4 (q_steps, .inl (D.1 100, 64, .inl v_steps')) = (w_X10_step D q_this q_now q_refusals q_left q_steps w_kept w_trial w_row w_letters w_dists w_partners w_times w_spliced w_piece w_balances w_prices w_hands w_hand w_dealing v_hasImage v_rows v_lettered v_stepsMany v_splicedMany v_most v_together v_z v_now v_refusals v_left v_steps') := rfl
theorem w_X10_step_a {D : va_G} {q_this : Nat} {q_now : Nat} {q_refusals : Nat} {q_left : Nat} {q_steps : Nat} {w_kept : Value} {w_trial : Value} {w_row : Value} {w_letters : Value} {w_dists : Value} {w_partners : Value} {w_times : Value} {w_spliced : Value} {w_piece : Value} {w_balances : Value} {w_prices : Value} {w_hands : Value} {w_hand : Value} {w_dealing : Value} {v_hasImage : Int32} {v_rows : Int32} {v_lettered : Int32} {v_stepsMany : Int32} {v_splicedMany : Int32} {v_most : Int32} {v_together : Int32} {v_z : Int32} {v_now : (Nat → Int32)} {v_refusals : (Nat → Int32)} {v_left : (Nat → Int32)} {v_steps : (Nat → Int32)} : (w_X10_step D q_this q_now q_refusals q_left q_steps w_kept w_trial w_row w_letters w_dists w_partners w_times w_spliced w_piece w_balances w_prices w_hands w_hand w_dealing v_hasImage v_rows v_lettered v_stepsMany v_splicedMany v_most v_together v_z v_now v_refusals v_left v_steps).map (fun q => q.1) = [q_this, q_now, q_refusals, q_left, q_steps] := rfl
def f_X10_step (N : Nat) (x1 : Int32) (x2 : Int32) (v_stepsMany : Int32) (v_now : (Nat → Int32)) (v_refusals : (Nat → Int32)) (v_left : (Nat → Int32)) (v_steps : (Nat → Int32)) : Option (Int32 × Int32 × (Nat → Int32) × (Nat → Int32) × (Nat → Int32)) :=
  (f_X10_walks N v_stepsMany v_left v_steps v_now).bind (fun r_walks_1 => (f_X10_in (Int32.toInt64 x1) (0 : Int64) (Int32.toInt64 (r_walks_1.2.1 - (1 : Int32)))).bind (fun r_in_2 => (if r_in_2 = 0 then (f_X10_refused (-1 : Int32) v_refusals).bind (fun r_refused_8 => some (r_refused_8.1, r_walks_1.2.1, r_refused_8.2, r_walks_1.2.2.1, r_walks_1.2.2.2)) else (if x2 = 0 then ga x1 64 (some ((r_walks_1.2.2.2 (Int32.toNatClampNeg x1)) / (2 : Int32), r_walks_1.2.1, v_refusals, r_walks_1.2.2.1, r_walks_1.2.2.2)) else (if x2 = 1 then ga x1 64 (some ((r_walks_1.2.2.2 (Int32.toNatClampNeg x1)) - (r_walks_1.2.2.2 (Int32.toNatClampNeg x1)) / (2 : Int32) * (2 : Int32), r_walks_1.2.1, v_refusals, r_walks_1.2.2.1, r_walks_1.2.2.2)) else (if x2 = 2 then ga x1 64 ((f_X10_ends (r_walks_1.2.2.2 (Int32.toNatClampNeg x1)) v_now).bind (fun r_ends_3 => some (r_ends_3, r_walks_1.2.1, v_refusals, r_walks_1.2.2.1, r_walks_1.2.2.2))) else (if x2 = 3 then (f_X10_isAgain N x1 r_walks_1.2.2.2 v_now).bind (fun r_isAgain_4 => some (if r_isAgain_4 = 0 then (0 : Int32) else (1 : Int32), r_walks_1.2.1, v_refusals, r_walks_1.2.2.1, r_walks_1.2.2.2)) else (if x2 = 4 then ga x1 64 ((f_X10_cost (r_walks_1.2.2.2 (Int32.toNatClampNeg x1)) v_now).bind (fun r_cost_6 => some (r_cost_6, r_walks_1.2.1, v_refusals, r_walks_1.2.2.1, r_walks_1.2.2.2))) else (f_X10_refused (-2 : Int32) v_refusals).bind (fun r_refused_7 => some (r_refused_7.1, r_walks_1.2.1, r_refused_7.2, r_walks_1.2.2.1, r_walks_1.2.2.2))))))))))
set_option maxRecDepth 100000 in
set_option maxHeartbeats 4000000 in
theorem c_X10_step (l : Launch) (D : va_G) (N : Nat) {q_this q_now q_refusals q_left q_steps : Nat} {w_kept w_trial w_row w_letters w_dists w_partners w_times w_spliced w_piece w_balances w_prices w_hands w_hand w_dealing : Value} {v_hasImage : Int32} {v_rows : Int32} {v_lettered : Int32} {v_stepsMany : Int32} {v_splicedMany : Int32} {v_most : Int32} {v_together : Int32} {v_z : Int32} {v_now : (Nat → Int32)} {v_refusals : (Nat → Int32)} {v_left : (Nat → Int32)} {v_steps : (Nat → Int32)} {x1 : Int32} {x2 : Int32} {o : (Int32 × Int32 × (Nat → Int32) × (Nat → Int32) × (Nat → Int32))} (h : f_X10_step N x1 x2 v_stepsMany v_now v_refusals v_left v_steps = some o) : CT l D yX10_step cX10_step 4 (Option.some FieldType.int) 6 [.ref q_this, .int x1, .int x2] (w_X10_step D q_this q_now q_refusals q_left q_steps w_kept w_trial w_row w_letters w_dists w_partners w_times w_spliced w_piece w_balances w_prices w_hands w_hand w_dealing v_hasImage v_rows v_lettered v_stepsMany v_splicedMany v_most v_together v_z v_now v_refusals v_left v_steps) (w_X10_step D q_this q_now q_refusals q_left q_steps w_kept w_trial w_row w_letters w_dists w_partners w_times w_spliced w_piece w_balances w_prices w_hands w_hand w_dealing v_hasImage v_rows v_lettered o.2.1 v_splicedMany v_most v_together v_z v_now o.2.2.1 o.2.2.2.1 o.2.2.2.2) (some (.int o.1)) := by
  refine CT.of mk_X10_step (Nat.le_of_ble_eq_true rfl) (fun g hl hD C E => ?_)
  subst hl
  subst hD
  unfold f_X10_step at h
  refine j_aload_n C dX10_step_0 rfl ?_
  refine j_aload_n C dX10_step_1 rfl ?_
  refine j_get C 0 w_X10_step_g0 rfl inX10 0 (by decide) kw_981 rfl rfl dX10_step_2 ?_
  obtain ⟨r_walks_1, h_1, h⟩ := of_bind h
  refine j_callV1 C mk_X10_walks ms_X10_walks kw_1192 (c_X10_walks (gl g) (gD g) N h_1) (by decide) 0 w_X10_step_g0 rfl [0, 3, 4, 1] (hC_cons w_X10_step_g0 (hC_cons w_X10_step_g3 (hC_cons w_X10_step_g4 (hC_cons w_X10_step_g1 hC_nil)))) rfl (w_X10_walks_a.trans w_X10_walks_a.symm) rfl rfl (Nat.le_of_ble_eq_true rfl) dX10_step_5 (wput_cons w_X10_step_s0 (wput_cons w_X10_step_s3 (wput_cons w_X10_step_s4 (wput_cons w_X10_step_s1 wput_nil)))) ?_
  refine j_istore_n C dX10_step_8 (by decide) ?_
  refine j_iload_n C dX10_step_9 rfl ?_
  refine j_i2l C dX10_step_10 ?_
  refine j_lconst C 0 dX10_step_11 rfl ?_
  refine j_aload_n C dX10_step_12 rfl ?_
  refine j_get C 0 w_X10_step_g0 rfl inX10 12 (by decide) kw_993 rfl rfl dX10_step_13 ?_
  refine j_iconst C (1) dX10_step_16 ki_1 ?_
  refine j_isub C dX10_step_17 ?_
  refine j_i2l C dX10_step_18 ?_
  obtain ⟨r_in_2, h_2, h⟩ := of_bind h
  refine j_callS1 C mk_X10_in ms_X10_in kw_1085 (c_X10_in (gl g) (gD g) h_2) (by decide) [] hC_nil rfl (w_X10_in_a.trans w_X10_in_a.symm) rfl rfl (Nat.le_of_ble_eq_true rfl) dX10_step_19 wput_nil ?_
  refine j_if_ne C h 31 dX10_step_22 (by decide) (fun hc h => ?_) (fun hc h => ?_)
  · refine j_aload_n C dX10_step_25 rfl ?_
    refine j_iconst C (-1) dX10_step_26 ki_m1 ?_
    obtain ⟨r_refused_8, h_8, h⟩ := of_bind h
    refine j_callV1 C mk_X10_refused ms_X10_refused kw_1064 (c_X10_refused (gl g) (gD g) h_8) (by decide) 0 w_X10_step_g0 rfl [0, 2] (hC_cons w_X10_step_g0 (hC_cons w_X10_step_g2 hC_nil)) rfl (w_X10_refused_a.trans w_X10_refused_a.symm) rfl rfl (Nat.le_of_ble_eq_true rfl) dX10_step_27 (wput_cons w_X10_step_s0 (wput_cons w_X10_step_s2 wput_nil)) ?_
    have h := Option.some.inj h
    subst h
    exact j_iret C E dX10_step_30
  · refine j_iload_n C dX10_step_31 rfl ?_
    refine j_case h (fun hc h => ?_) (fun hn_0 h => ?_)
    · refine j_tableIn C 68 (v := 0) (by rw [hc] <;> decide) dX10_step_32 (by decide) (by decide) rfl (by decide) ?_
      refine j_aload_n C dX10_step_68 rfl ?_
      refine j_get C 0 w_X10_step_g0 rfl inX10 11 (by decide) kw_992 rfl rfl dX10_step_69 ?_
      refine j_iload_n C dX10_step_72 rfl ?_
      refine j_iaload 4 C h w_X10_step_g4 rfl dX10_step_73 (fun h => ?_)
      refine j_iconst C (2) dX10_step_74 ki_2 ?_
      refine j_idivc C (by decide) dX10_step_75 ?_
      have h := Option.some.inj h
      subst h
      exact j_iret C E dX10_step_76
    · refine j_case h (fun hc h => ?_) (fun hn_1 h => ?_)
      · refine j_tableIn C 77 (v := 1) (by rw [hc] <;> decide) dX10_step_32 (by decide) (by decide) rfl (by decide) ?_
        refine j_aload_n C dX10_step_77 rfl ?_
        refine j_get C 0 w_X10_step_g0 rfl inX10 11 (by decide) kw_992 rfl rfl dX10_step_78 ?_
        refine j_iload_n C dX10_step_81 rfl ?_
        refine j_iaload 4 C h w_X10_step_g4 rfl dX10_step_82 (fun h => ?_)
        refine j_iconst C (2) dX10_step_83 ki_2 ?_
        refine j_iremc C (by decide) dX10_step_84 ?_
        have h := Option.some.inj h
        subst h
        exact j_iret C E dX10_step_85
      · refine j_case h (fun hc h => ?_) (fun hn_2 h => ?_)
        · refine j_tableIn C 86 (v := 2) (by rw [hc] <;> decide) dX10_step_32 (by decide) (by decide) rfl (by decide) ?_
          refine j_aload_n C dX10_step_86 rfl ?_
          refine j_get C 0 w_X10_step_g0 rfl inX10 0 (by decide) kw_981 rfl rfl dX10_step_87 ?_
          refine j_aload_n C dX10_step_90 rfl ?_
          refine j_get C 0 w_X10_step_g0 rfl inX10 11 (by decide) kw_992 rfl rfl dX10_step_91 ?_
          refine j_iload_n C dX10_step_94 rfl ?_
          refine j_iaload 4 C h w_X10_step_g4 rfl dX10_step_95 (fun h => ?_)
          obtain ⟨r_ends_3, h_3, h⟩ := of_bind h
          refine j_callS1 C mk_X10_ends ms_X10_ends kw_1164 (c_X10_ends (gl g) (gD g) h_3) (by decide) [1] (hC_cons w_X10_step_g1 hC_nil) rfl (w_X10_ends_a.trans w_X10_ends_a.symm) rfl rfl (Nat.le_of_ble_eq_true rfl) dX10_step_96 (wput_cons w_X10_step_s1 wput_nil) ?_
          have h := Option.some.inj h
          subst h
          exact j_iret C E dX10_step_99
        · refine j_case h (fun hc h => ?_) (fun hn_3 h => ?_)
          · refine j_tableIn C 100 (v := 3) (by rw [hc] <;> decide) dX10_step_32 (by decide) (by decide) rfl (by decide) ?_
            refine j_aload_n C dX10_step_100 rfl ?_
            refine j_aload_n C dX10_step_101 rfl ?_
            refine j_get C 0 w_X10_step_g0 rfl inX10 0 (by decide) kw_981 rfl rfl dX10_step_102 ?_
            refine j_iload_n C dX10_step_105 rfl ?_
            obtain ⟨r_isAgain_4, h_4, h⟩ := of_bind h
            refine j_callV1 C mk_X10_isAgain ms_X10_isAgain kw_1215 (c_X10_isAgain (gl g) (gD g) N h_4) (by decide) 0 w_X10_step_g0 rfl [0, 4, 1] (hC_cons w_X10_step_g0 (hC_cons w_X10_step_g4 (hC_cons w_X10_step_g1 hC_nil))) rfl (w_X10_isAgain_a.trans w_X10_isAgain_a.symm) rfl rfl (Nat.le_of_ble_eq_true rfl) dX10_step_106 (wput_cons w_X10_step_s0 (wput_cons w_X10_step_s4 (wput_cons w_X10_step_s1 wput_nil))) ?_
            have hj_5 : J g (w_X10_step (gD g) q_this q_now q_refusals q_left q_steps w_kept w_trial w_row w_letters w_dists w_partners w_times w_spliced w_piece w_balances w_prices w_hands w_hand w_dealing v_hasImage v_rows v_lettered r_walks_1.2.1 v_splicedMany v_most v_together v_z v_now v_refusals r_walks_1.2.2.1 r_walks_1.2.2.2) [] 117 [.int (if r_isAgain_4 = 0 then (0 : Int32) else (1 : Int32))] := by
              have h := Option.some.inj h
              subst h
              exact j_iret C E dX10_step_117
            refine jv_if_eq C 116 dX10_step_109 (by decide) (fun hc => ?_) (fun hc => ?_)
            · try simp only [if_pos hc] at hj_5
              refine j_iconst C (0) dX10_step_116 ki_0 ?_
              exact j_lw hj_5 rfl
            · try simp only [if_neg hc] at hj_5
              refine j_iconst C (1) dX10_step_112 ki_1 ?_
              refine j_goto C 117 dX10_step_113 (by decide) ?_
              exact j_lw hj_5 rfl
          · refine j_case h (fun hc h => ?_) (fun hn_4 h => ?_)
            · refine j_tableIn C 118 (v := 4) (by rw [hc] <;> decide) dX10_step_32 (by decide) (by decide) rfl (by decide) ?_
              refine j_aload_n C dX10_step_118 rfl ?_
              refine j_get C 0 w_X10_step_g0 rfl inX10 0 (by decide) kw_981 rfl rfl dX10_step_119 ?_
              refine j_aload_n C dX10_step_122 rfl ?_
              refine j_get C 0 w_X10_step_g0 rfl inX10 11 (by decide) kw_992 rfl rfl dX10_step_123 ?_
              refine j_iload_n C dX10_step_126 rfl ?_
              refine j_iaload 4 C h w_X10_step_g4 rfl dX10_step_127 (fun h => ?_)
              obtain ⟨r_cost_6, h_6, h⟩ := of_bind h
              refine j_callS1 C mk_X10_cost ms_X10_cost kw_1142 (c_X10_cost (gl g) (gD g) h_6) (by decide) [1] (hC_cons w_X10_step_g1 hC_nil) rfl (w_X10_cost_a.trans w_X10_cost_a.symm) rfl rfl (Nat.le_of_ble_eq_true rfl) dX10_step_128 (wput_cons w_X10_step_s1 wput_nil) ?_
              have h := Option.some.inj h
              subst h
              exact j_iret C E dX10_step_131
            · refine j_tableOut C 132 dX10_step_32 (by have := i32ne hn_0 (v := 0) (by decide); have := i32ne hn_1 (v := 1) (by decide); have := i32ne hn_2 (v := 2) (by decide); have := i32ne hn_3 (v := 3) (by decide); have := i32ne hn_4 (v := 4) (by decide); omega) (by decide) ?_
              refine j_aload_n C dX10_step_132 rfl ?_
              refine j_bipush C (-2) dX10_step_133 kb_m2 ?_
              obtain ⟨r_refused_7, h_7, h⟩ := of_bind h
              refine j_callV1 C mk_X10_refused ms_X10_refused kw_1064 (c_X10_refused (gl g) (gD g) h_7) (by decide) 0 w_X10_step_g0 rfl [0, 2] (hC_cons w_X10_step_g0 (hC_cons w_X10_step_g2 hC_nil)) rfl (w_X10_refused_a.trans w_X10_refused_a.symm) rfl rfl (Nat.le_of_ble_eq_true rfl) dX10_step_135 (wput_cons w_X10_step_s0 (wput_cons w_X10_step_s2 wput_nil)) ?_
              have h := Option.some.inj h
              subst h
              exact j_iret C E dX10_step_138

def w_X10_oddSet (D : va_G) (q_p1 : Nat) (v_p1 : (Nat → Int32)) : va_W := [(q_p1, .inl (D.1 100, 50, .inl v_p1))]
theorem w_X10_oddSet_g0 {D : va_G} {q_p1 : Nat} {v_p1 : (Nat → Int32)} : (w_X10_oddSet D q_p1 v_p1)[0]? = some (q_p1, .inl (D.1 100, 50, .inl v_p1)) := rfl
theorem w_X10_oddSet_s0 {D : va_G} {q_p1 : Nat} {v_p1 : (Nat → Int32)} {v_p1' : (Nat → Int32)} : (w_X10_oddSet D q_p1 v_p1).set 0 (q_p1, .inl (D.1 100, 50, .inl v_p1')) = (w_X10_oddSet D q_p1 v_p1') := rfl
theorem w_X10_oddSet_a {D : va_G} {q_p1 : Nat} {v_p1 : (Nat → Int32)} : (w_X10_oddSet D q_p1 v_p1).map (fun q => q.1) = [q_p1] := rfl
def f_X10_oddSet_b4 (N : Nat) (x2_4 : Int32) (x1_4 : Int32) (v_p1 : (Nat → Int32)) : Option ((Int32 × Int32) ⊕ Int32) :=
  (if (6 : Int32) ≤ x2_4 then some (.inr x1_4) else (f_X10_degree N x2_4 v_p1).bind (fun r_degree_1 => some (.inl (x1_4 ||| ((r_degree_1 - r_degree_1 / (2 : Int32) * (2 : Int32)) <<< (x2_4 &&& 31)), x2_4 + (1 : Int32)))))
def f_X10_oddSet (N : Nat) (v_p1 : (Nat → Int32)) : Option Int32 :=
  (lp (fun s_4 => f_X10_oddSet_b4 N s_4.2 s_4.1 v_p1) N ((0 : Int32), (0 : Int32))).bind (fun e_4 => some e_4)
set_option maxRecDepth 100000 in
set_option maxHeartbeats 4000000 in
theorem c_X10_oddSet (l : Launch) (D : va_G) (N : Nat) {q_p1 : Nat} {v_p1 : (Nat → Int32)} {o : Int32} (h : f_X10_oddSet N v_p1 = some o) : CT l D yX10_oddSet cX10_oddSet 3 (Option.some FieldType.int) 2 [.ref q_p1] (w_X10_oddSet D q_p1 v_p1) (w_X10_oddSet D q_p1 v_p1) (some (.int o)) := by
  refine CT.of mk_X10_oddSet (Nat.le_of_ble_eq_true rfl) (fun g hl hD C E => ?_)
  subst hl
  subst hD
  unfold f_X10_oddSet at h
  refine j_iconst C (0) dX10_oddSet_0 ki_0 ?_
  refine j_istore_n C dX10_oddSet_1 (by decide) ?_
  refine j_iconst C (0) dX10_oddSet_2 ki_0 ?_
  refine j_istore_n C dX10_oddSet_3 (by decide) ?_
  obtain ⟨e_4, hl_4, h⟩ := of_bind h
  have ha_4 : J g (w_X10_oddSet (gD g) q_p1 v_p1) [(1, .int (e_4))] 28 [] := by
    refine j_iload_n C dX10_oddSet_28 rfl ?_
    have h := Option.some.inj h
    subst h
    exact j_iret C E dX10_oddSet_29
  refine j_lv (lv' := [(0, .ref q_p1), (1, .int ((0 : Int32))), (2, .int ((0 : Int32)))]) rfl ?_
  refine lp_ind hl_4 (fun s_4 => J g (w_X10_oddSet (gD g) q_p1 v_p1) [(0, .ref q_p1), (1, .int (s_4.1)), (2, .int (s_4.2))] 4 []) (fun s_4 r_4 h hc_4 hx_4 => ?_)
  unfold f_X10_oddSet_b4 at h
  refine j_iload_n C dX10_oddSet_4 rfl ?_
  refine j_bipush C (6) dX10_oddSet_5 kb_6 ?_
  refine j_icmp_ge C h 28 dX10_oddSet_7 (by decide) (fun hc h => ?_) (fun hc h => ?_)
  · have h := Option.some.inj h
    subst h
    have h9 := hx_4 _ rfl
    subst h9
    exact j_lw ha_4 rfl
  · refine j_iload_n C dX10_oddSet_10 rfl ?_
    refine j_aload_n C dX10_oddSet_11 rfl ?_
    refine j_iload_n C dX10_oddSet_12 rfl ?_
    obtain ⟨r_degree_1, h_1, h⟩ := of_bind h
    refine j_callS1 C mk_X10_degree ms_X10_degree kw_1150 (c_X10_degree (gl g) (gD g) N h_1) (by decide) [0] (hC_cons w_X10_oddSet_g0 hC_nil) rfl (w_X10_degree_a.trans w_X10_degree_a.symm) rfl rfl (Nat.le_of_ble_eq_true rfl) dX10_oddSet_13 (wput_cons w_X10_oddSet_s0 wput_nil) ?_
    refine j_iconst C (2) dX10_oddSet_16 ki_2 ?_
    refine j_iremc C (by decide) dX10_oddSet_17 ?_
    refine j_iload_n C dX10_oddSet_18 rfl ?_
    refine j_ishl C dX10_oddSet_19 ?_
    refine j_ior C dX10_oddSet_20 ?_
    refine j_istore_n C dX10_oddSet_21 (by decide) ?_
    refine j_inc C (1) dX10_oddSet_22 rfl ki_1 (by decide) ?_
    refine j_goto C 4 dX10_oddSet_25 (by decide) ?_
    have h := Option.some.inj h
    subst h
    have hc9 := hc_4 _ rfl
    exact j_lw hc9 rfl

def w_X10_odd (D : va_G) (q_this q_now : Nat) (w_kept w_trial w_refusals w_row w_letters w_dists w_left w_steps w_partners w_times w_spliced w_piece w_balances w_prices w_hands w_hand w_dealing : Value) (v_hasImage : Int32) (v_rows : Int32) (v_lettered : Int32) (v_stepsMany : Int32) (v_splicedMany : Int32) (v_most : Int32) (v_together : Int32) (v_z : Int32) (v_now : (Nat → Int32)) : va_W := [(q_this, .inr (9, [.ref q_now, w_kept, w_trial, .int v_hasImage, w_refusals, w_row, .int v_rows, w_letters, .int v_lettered, w_dists, w_left, w_steps, .int v_stepsMany, w_partners, w_times, w_spliced, .int v_splicedMany, w_piece, w_balances, w_prices, w_hands, w_hand, w_dealing, .int v_most, .int v_together, .int v_z])), (q_now, .inl (D.1 100, 50, .inl v_now))]
theorem w_X10_odd_g0 {D : va_G} {q_this : Nat} {q_now : Nat} {w_kept : Value} {w_trial : Value} {w_refusals : Value} {w_row : Value} {w_letters : Value} {w_dists : Value} {w_left : Value} {w_steps : Value} {w_partners : Value} {w_times : Value} {w_spliced : Value} {w_piece : Value} {w_balances : Value} {w_prices : Value} {w_hands : Value} {w_hand : Value} {w_dealing : Value} {v_hasImage : Int32} {v_rows : Int32} {v_lettered : Int32} {v_stepsMany : Int32} {v_splicedMany : Int32} {v_most : Int32} {v_together : Int32} {v_z : Int32} {v_now : (Nat → Int32)} : (w_X10_odd D q_this q_now w_kept w_trial w_refusals w_row w_letters w_dists w_left w_steps w_partners w_times w_spliced w_piece w_balances w_prices w_hands w_hand w_dealing v_hasImage v_rows v_lettered v_stepsMany v_splicedMany v_most v_together v_z v_now)[0]? = some (q_this, .inr (9, [.ref q_now, w_kept, w_trial, .int v_hasImage, w_refusals, w_row, .int v_rows, w_letters, .int v_lettered, w_dists, w_left, w_steps, .int v_stepsMany, w_partners, w_times, w_spliced, .int v_splicedMany, w_piece, w_balances, w_prices, w_hands, w_hand, w_dealing, .int v_most, .int v_together, .int v_z])) := rfl
theorem w_X10_odd_s0 {D : va_G} {q_this : Nat} {q_now : Nat} {w_kept : Value} {w_trial : Value} {w_refusals : Value} {w_row : Value} {w_letters : Value} {w_dists : Value} {w_left : Value} {w_steps : Value} {w_partners : Value} {w_times : Value} {w_spliced : Value} {w_piece : Value} {w_balances : Value} {w_prices : Value} {w_hands : Value} {w_hand : Value} {w_dealing : Value} {v_hasImage : Int32} {v_rows : Int32} {v_lettered : Int32} {v_stepsMany : Int32} {v_splicedMany : Int32} {v_most : Int32} {v_together : Int32} {v_z : Int32} {v_now : (Nat → Int32)} {v_hasImage' : Int32} {v_rows' : Int32} {v_lettered' : Int32} {v_stepsMany' : Int32} {v_splicedMany' : Int32} {v_most' : Int32} {v_together' : Int32} {v_z' : Int32} : (w_X10_odd D q_this q_now w_kept w_trial w_refusals w_row w_letters w_dists w_left w_steps w_partners w_times w_spliced w_piece w_balances w_prices w_hands w_hand w_dealing v_hasImage v_rows v_lettered v_stepsMany v_splicedMany v_most v_together v_z v_now).set 0 (q_this, .inr (9, [.ref q_now, w_kept, w_trial, .int v_hasImage', w_refusals, w_row, .int v_rows', w_letters, .int v_lettered', w_dists, w_left, w_steps, .int v_stepsMany', w_partners, w_times, w_spliced, .int v_splicedMany', w_piece, w_balances, w_prices, w_hands, w_hand, w_dealing, .int v_most', .int v_together', .int v_z'])) = (w_X10_odd D q_this q_now w_kept w_trial w_refusals w_row w_letters w_dists w_left w_steps w_partners w_times w_spliced w_piece w_balances w_prices w_hands w_hand w_dealing v_hasImage' v_rows' v_lettered' v_stepsMany' v_splicedMany' v_most' v_together' v_z' v_now) := rfl
theorem w_X10_odd_g1 {D : va_G} {q_this : Nat} {q_now : Nat} {w_kept : Value} {w_trial : Value} {w_refusals : Value} {w_row : Value} {w_letters : Value} {w_dists : Value} {w_left : Value} {w_steps : Value} {w_partners : Value} {w_times : Value} {w_spliced : Value} {w_piece : Value} {w_balances : Value} {w_prices : Value} {w_hands : Value} {w_hand : Value} {w_dealing : Value} {v_hasImage : Int32} {v_rows : Int32} {v_lettered : Int32} {v_stepsMany : Int32} {v_splicedMany : Int32} {v_most : Int32} {v_together : Int32} {v_z : Int32} {v_now : (Nat → Int32)} : (w_X10_odd D q_this q_now w_kept w_trial w_refusals w_row w_letters w_dists w_left w_steps w_partners w_times w_spliced w_piece w_balances w_prices w_hands w_hand w_dealing v_hasImage v_rows v_lettered v_stepsMany v_splicedMany v_most v_together v_z v_now)[1]? = some (q_now, .inl (D.1 100, 50, .inl v_now)) := rfl
theorem w_X10_odd_s1 {D : va_G} {q_this : Nat} {q_now : Nat} {w_kept : Value} {w_trial : Value} {w_refusals : Value} {w_row : Value} {w_letters : Value} {w_dists : Value} {w_left : Value} {w_steps : Value} {w_partners : Value} {w_times : Value} {w_spliced : Value} {w_piece : Value} {w_balances : Value} {w_prices : Value} {w_hands : Value} {w_hand : Value} {w_dealing : Value} {v_hasImage : Int32} {v_rows : Int32} {v_lettered : Int32} {v_stepsMany : Int32} {v_splicedMany : Int32} {v_most : Int32} {v_together : Int32} {v_z : Int32} {v_now : (Nat → Int32)} {v_now' : (Nat → Int32)} : (w_X10_odd D q_this q_now w_kept w_trial w_refusals w_row w_letters w_dists w_left w_steps w_partners w_times w_spliced w_piece w_balances w_prices w_hands w_hand w_dealing v_hasImage v_rows v_lettered v_stepsMany v_splicedMany v_most v_together v_z v_now).set 1 (q_now, .inl (D.1 100, 50, .inl v_now')) = (w_X10_odd D q_this q_now w_kept w_trial w_refusals w_row w_letters w_dists w_left w_steps w_partners w_times w_spliced w_piece w_balances w_prices w_hands w_hand w_dealing v_hasImage v_rows v_lettered v_stepsMany v_splicedMany v_most v_together v_z v_now') := rfl
theorem w_X10_odd_a {D : va_G} {q_this : Nat} {q_now : Nat} {w_kept : Value} {w_trial : Value} {w_refusals : Value} {w_row : Value} {w_letters : Value} {w_dists : Value} {w_left : Value} {w_steps : Value} {w_partners : Value} {w_times : Value} {w_spliced : Value} {w_piece : Value} {w_balances : Value} {w_prices : Value} {w_hands : Value} {w_hand : Value} {w_dealing : Value} {v_hasImage : Int32} {v_rows : Int32} {v_lettered : Int32} {v_stepsMany : Int32} {v_splicedMany : Int32} {v_most : Int32} {v_together : Int32} {v_z : Int32} {v_now : (Nat → Int32)} : (w_X10_odd D q_this q_now w_kept w_trial w_refusals w_row w_letters w_dists w_left w_steps w_partners w_times w_spliced w_piece w_balances w_prices w_hands w_hand w_dealing v_hasImage v_rows v_lettered v_stepsMany v_splicedMany v_most v_together v_z v_now).map (fun q => q.1) = [q_this, q_now] := rfl
def f_X10_odd (N : Nat) (v_now : (Nat → Int32)) : Option Int32 :=
  (f_X10_oddSet N v_now).bind (fun r_oddSet_1 => some r_oddSet_1)
set_option maxRecDepth 100000 in
set_option maxHeartbeats 4000000 in
theorem c_X10_odd (l : Launch) (D : va_G) (N : Nat) {q_this q_now : Nat} {w_kept w_trial w_refusals w_row w_letters w_dists w_left w_steps w_partners w_times w_spliced w_piece w_balances w_prices w_hands w_hand w_dealing : Value} {v_hasImage : Int32} {v_rows : Int32} {v_lettered : Int32} {v_stepsMany : Int32} {v_splicedMany : Int32} {v_most : Int32} {v_together : Int32} {v_z : Int32} {v_now : (Nat → Int32)} {o : Int32} (h : f_X10_odd N v_now = some o) : CT l D yX10_odd cX10_odd 1 (Option.some FieldType.int) 3 [.ref q_this] (w_X10_odd D q_this q_now w_kept w_trial w_refusals w_row w_letters w_dists w_left w_steps w_partners w_times w_spliced w_piece w_balances w_prices w_hands w_hand w_dealing v_hasImage v_rows v_lettered v_stepsMany v_splicedMany v_most v_together v_z v_now) (w_X10_odd D q_this q_now w_kept w_trial w_refusals w_row w_letters w_dists w_left w_steps w_partners w_times w_spliced w_piece w_balances w_prices w_hands w_hand w_dealing v_hasImage v_rows v_lettered v_stepsMany v_splicedMany v_most v_together v_z v_now) (some (.int o)) := by
  refine CT.of mk_X10_odd (Nat.le_of_ble_eq_true rfl) (fun g hl hD C E => ?_)
  subst hl
  subst hD
  unfold f_X10_odd at h
  refine j_aload_n C dX10_odd_0 rfl ?_
  refine j_get C 0 w_X10_odd_g0 rfl inX10 0 (by decide) kw_981 rfl rfl dX10_odd_1 ?_
  obtain ⟨r_oddSet_1, h_1, h⟩ := of_bind h
  refine j_callS1 C mk_X10_oddSet ms_X10_oddSet kw_1273 (c_X10_oddSet (gl g) (gD g) N h_1) (by decide) [1] (hC_cons w_X10_odd_g1 hC_nil) rfl (w_X10_oddSet_a.trans w_X10_oddSet_a.symm) rfl rfl (Nat.le_of_ble_eq_true rfl) dX10_odd_4 (wput_cons w_X10_odd_s1 wput_nil) ?_
  have h := Option.some.inj h
  subst h
  exact j_iret C E dX10_odd_7

def w_X10_byTwos (D : va_G) (q_this q_dists : Nat) (w_now w_kept w_trial w_refusals w_row w_letters w_left w_steps w_partners w_times w_spliced w_piece w_balances w_prices w_hands w_hand w_dealing : Value) (v_hasImage : Int32) (v_rows : Int32) (v_lettered : Int32) (v_stepsMany : Int32) (v_splicedMany : Int32) (v_most : Int32) (v_together : Int32) (v_z : Int32) (v_dists : (Nat → Int32)) : va_W := [(q_this, .inr (9, [w_now, w_kept, w_trial, .int v_hasImage, w_refusals, w_row, .int v_rows, w_letters, .int v_lettered, .ref q_dists, w_left, w_steps, .int v_stepsMany, w_partners, w_times, w_spliced, .int v_splicedMany, w_piece, w_balances, w_prices, w_hands, w_hand, w_dealing, .int v_most, .int v_together, .int v_z])), (q_dists, .inl (D.1 100, 36, .inl v_dists))]
theorem w_X10_byTwos_g0 {D : va_G} {q_this : Nat} {q_dists : Nat} {w_now : Value} {w_kept : Value} {w_trial : Value} {w_refusals : Value} {w_row : Value} {w_letters : Value} {w_left : Value} {w_steps : Value} {w_partners : Value} {w_times : Value} {w_spliced : Value} {w_piece : Value} {w_balances : Value} {w_prices : Value} {w_hands : Value} {w_hand : Value} {w_dealing : Value} {v_hasImage : Int32} {v_rows : Int32} {v_lettered : Int32} {v_stepsMany : Int32} {v_splicedMany : Int32} {v_most : Int32} {v_together : Int32} {v_z : Int32} {v_dists : (Nat → Int32)} : (w_X10_byTwos D q_this q_dists w_now w_kept w_trial w_refusals w_row w_letters w_left w_steps w_partners w_times w_spliced w_piece w_balances w_prices w_hands w_hand w_dealing v_hasImage v_rows v_lettered v_stepsMany v_splicedMany v_most v_together v_z v_dists)[0]? = some (q_this, .inr (9, [w_now, w_kept, w_trial, .int v_hasImage, w_refusals, w_row, .int v_rows, w_letters, .int v_lettered, .ref q_dists, w_left, w_steps, .int v_stepsMany, w_partners, w_times, w_spliced, .int v_splicedMany, w_piece, w_balances, w_prices, w_hands, w_hand, w_dealing, .int v_most, .int v_together, .int v_z])) := rfl
theorem w_X10_byTwos_s0 {D : va_G} {q_this : Nat} {q_dists : Nat} {w_now : Value} {w_kept : Value} {w_trial : Value} {w_refusals : Value} {w_row : Value} {w_letters : Value} {w_left : Value} {w_steps : Value} {w_partners : Value} {w_times : Value} {w_spliced : Value} {w_piece : Value} {w_balances : Value} {w_prices : Value} {w_hands : Value} {w_hand : Value} {w_dealing : Value} {v_hasImage : Int32} {v_rows : Int32} {v_lettered : Int32} {v_stepsMany : Int32} {v_splicedMany : Int32} {v_most : Int32} {v_together : Int32} {v_z : Int32} {v_dists : (Nat → Int32)} {v_hasImage' : Int32} {v_rows' : Int32} {v_lettered' : Int32} {v_stepsMany' : Int32} {v_splicedMany' : Int32} {v_most' : Int32} {v_together' : Int32} {v_z' : Int32} : (w_X10_byTwos D q_this q_dists w_now w_kept w_trial w_refusals w_row w_letters w_left w_steps w_partners w_times w_spliced w_piece w_balances w_prices w_hands w_hand w_dealing v_hasImage v_rows v_lettered v_stepsMany v_splicedMany v_most v_together v_z v_dists).set 0 (q_this, .inr (9, [w_now, w_kept, w_trial, .int v_hasImage', w_refusals, w_row, .int v_rows', w_letters, .int v_lettered', .ref q_dists, w_left, w_steps, .int v_stepsMany', w_partners, w_times, w_spliced, .int v_splicedMany', w_piece, w_balances, w_prices, w_hands, w_hand, w_dealing, .int v_most', .int v_together', .int v_z'])) = (w_X10_byTwos D q_this q_dists w_now w_kept w_trial w_refusals w_row w_letters w_left w_steps w_partners w_times w_spliced w_piece w_balances w_prices w_hands w_hand w_dealing v_hasImage' v_rows' v_lettered' v_stepsMany' v_splicedMany' v_most' v_together' v_z' v_dists) := rfl
theorem w_X10_byTwos_g1 {D : va_G} {q_this : Nat} {q_dists : Nat} {w_now : Value} {w_kept : Value} {w_trial : Value} {w_refusals : Value} {w_row : Value} {w_letters : Value} {w_left : Value} {w_steps : Value} {w_partners : Value} {w_times : Value} {w_spliced : Value} {w_piece : Value} {w_balances : Value} {w_prices : Value} {w_hands : Value} {w_hand : Value} {w_dealing : Value} {v_hasImage : Int32} {v_rows : Int32} {v_lettered : Int32} {v_stepsMany : Int32} {v_splicedMany : Int32} {v_most : Int32} {v_together : Int32} {v_z : Int32} {v_dists : (Nat → Int32)} : (w_X10_byTwos D q_this q_dists w_now w_kept w_trial w_refusals w_row w_letters w_left w_steps w_partners w_times w_spliced w_piece w_balances w_prices w_hands w_hand w_dealing v_hasImage v_rows v_lettered v_stepsMany v_splicedMany v_most v_together v_z v_dists)[1]? = some (q_dists, .inl (D.1 100, 36, .inl v_dists)) := rfl
theorem w_X10_byTwos_s1 {D : va_G} {q_this : Nat} {q_dists : Nat} {w_now : Value} {w_kept : Value} {w_trial : Value} {w_refusals : Value} {w_row : Value} {w_letters : Value} {w_left : Value} {w_steps : Value} {w_partners : Value} {w_times : Value} {w_spliced : Value} {w_piece : Value} {w_balances : Value} {w_prices : Value} {w_hands : Value} {w_hand : Value} {w_dealing : Value} {v_hasImage : Int32} {v_rows : Int32} {v_lettered : Int32} {v_stepsMany : Int32} {v_splicedMany : Int32} {v_most : Int32} {v_together : Int32} {v_z : Int32} {v_dists : (Nat → Int32)} {v_dists' : (Nat → Int32)} : (w_X10_byTwos D q_this q_dists w_now w_kept w_trial w_refusals w_row w_letters w_left w_steps w_partners w_times w_spliced w_piece w_balances w_prices w_hands w_hand w_dealing v_hasImage v_rows v_lettered v_stepsMany v_splicedMany v_most v_together v_z v_dists).set 1 (q_dists, .inl (D.1 100, 36, .inl v_dists')) = (w_X10_byTwos D q_this q_dists w_now w_kept w_trial w_refusals w_row w_letters w_left w_steps w_partners w_times w_spliced w_piece w_balances w_prices w_hands w_hand w_dealing v_hasImage v_rows v_lettered v_stepsMany v_splicedMany v_most v_together v_z v_dists') := rfl
theorem w_X10_byTwos_a {D : va_G} {q_this : Nat} {q_dists : Nat} {w_now : Value} {w_kept : Value} {w_trial : Value} {w_refusals : Value} {w_row : Value} {w_letters : Value} {w_left : Value} {w_steps : Value} {w_partners : Value} {w_times : Value} {w_spliced : Value} {w_piece : Value} {w_balances : Value} {w_prices : Value} {w_hands : Value} {w_hand : Value} {w_dealing : Value} {v_hasImage : Int32} {v_rows : Int32} {v_lettered : Int32} {v_stepsMany : Int32} {v_splicedMany : Int32} {v_most : Int32} {v_together : Int32} {v_z : Int32} {v_dists : (Nat → Int32)} : (w_X10_byTwos D q_this q_dists w_now w_kept w_trial w_refusals w_row w_letters w_left w_steps w_partners w_times w_spliced w_piece w_balances w_prices w_hands w_hand w_dealing v_hasImage v_rows v_lettered v_stepsMany v_splicedMany v_most v_together v_z v_dists).map (fun q => q.1) = [q_this, q_dists] := rfl
def f_X10_byTwos_b19 (rc : Int32 → (Nat → Int32) → Option Int32) (x4_19 : Int32) (x3_19 : Int32) (x1 : Int32) (r_numberOfTrailingZeros_1_0 : Int32) (v_dists : (Nat → Int32)) : Option ((Int32 × Int32) ⊕ Int32) :=
  (if (6 : Int32) ≤ x4_19 then some (.inr x3_19) else (if ((x1 >>> (x4_19 &&& 31)) &&& (1 : Int32)) = (1 : Int32) then (f_X10_dist r_numberOfTrailingZeros_1_0 x4_19 v_dists).bind (fun r_dist_2 => (rc (x1 &&& ((((1 : Int32) <<< (r_numberOfTrailingZeros_1_0 &&& 31)) ||| ((1 : Int32) <<< (x4_19 &&& 31))) ^^^ (-1 : Int32))) v_dists).bind (fun r_byTwos_3 => some (.inl (if (r_dist_2 + r_byTwos_3) < x3_19 then (r_dist_2 + r_byTwos_3) else x3_19, x4_19 + (1 : Int32))))) else some (.inl (x3_19, x4_19 + (1 : Int32)))))
def f_X10_byTwos (N : Nat) : Nat → Int32 → (Nat → Int32) → Option Int32
  | 0, _, _ => none
  | d + 1, x1, v_dists =>
  (if x1 = 0 then some (0 : Int32) else (f_J6_numberOfTrailingZeros_0f7a4 x1).bind (fun r_numberOfTrailingZeros_1 => (lp (fun s_19 => f_X10_byTwos_b19 (f_X10_byTwos N d) s_19.2 s_19.1 x1 r_numberOfTrailingZeros_1 v_dists) N ((1000000 : Int32), r_numberOfTrailingZeros_1 + (1 : Int32))).bind (fun e_19 => some e_19)))
set_option maxRecDepth 100000 in
set_option maxHeartbeats 4000000 in
theorem c_X10_byTwos (l : Launch) (D : va_G) (N : Nat) (d : Nat) : ∀ {q_this q_dists : Nat} {w_now w_kept w_trial w_refusals w_row w_letters w_left w_steps w_partners w_times w_spliced w_piece w_balances w_prices w_hands w_hand w_dealing : Value} {v_hasImage : Int32} {v_rows : Int32} {v_lettered : Int32} {v_stepsMany : Int32} {v_splicedMany : Int32} {v_most : Int32} {v_together : Int32} {v_z : Int32} {v_dists : (Nat → Int32)} {x1 : Int32} {o : Int32} (h : f_X10_byTwos N d x1 v_dists = some o), CT l D yX10_byTwos cX10_byTwos 5 (Option.some FieldType.int) (1 + d) [.ref q_this, .int x1] (w_X10_byTwos D q_this q_dists w_now w_kept w_trial w_refusals w_row w_letters w_left w_steps w_partners w_times w_spliced w_piece w_balances w_prices w_hands w_hand w_dealing v_hasImage v_rows v_lettered v_stepsMany v_splicedMany v_most v_together v_z v_dists) (w_X10_byTwos D q_this q_dists w_now w_kept w_trial w_refusals w_row w_letters w_left w_steps w_partners w_times w_spliced w_piece w_balances w_prices w_hands w_hand w_dealing v_hasImage v_rows v_lettered v_stepsMany v_splicedMany v_most v_together v_z v_dists) (some (.int o)) := by
  induction d with
  | zero =>
    intro q_this q_dists w_now w_kept w_trial w_refusals w_row w_letters w_left w_steps w_partners w_times w_spliced w_piece w_balances w_prices w_hands w_hand w_dealing v_hasImage v_rows v_lettered v_stepsMany v_splicedMany v_most v_together v_z v_dists x1 o h
    unfold f_X10_byTwos at h
    cases h
  | succ d ih =>
    intro q_this q_dists w_now w_kept w_trial w_refusals w_row w_letters w_left w_steps w_partners w_times w_spliced w_piece w_balances w_prices w_hands w_hand w_dealing v_hasImage v_rows v_lettered v_stepsMany v_splicedMany v_most v_together v_z v_dists x1 o h
    refine CT.of mk_X10_byTwos (Nat.le_of_ble_eq_true rfl) (fun g hl hD C E => ?_)
    subst hl
    subst hD
    unfold f_X10_byTwos at h
    refine j_iload_n C dX10_byTwos_0 rfl ?_
    refine j_if_ne C h 6 dX10_byTwos_1 (by decide) (fun hc h => ?_) (fun hc h => ?_)
    · refine j_iconst C (0) dX10_byTwos_4 ki_0 ?_
      have h := Option.some.inj h
      subst h
      exact j_iret C E dX10_byTwos_5
    · refine j_iload_n C dX10_byTwos_6 rfl ?_
      obtain ⟨r_numberOfTrailingZeros_1, h_1, h⟩ := of_bind h
      refine j_callS1 C mk_J6_numberOfTrailingZeros_0f7a4 ms_J6_numberOfTrailingZeros_0f7a4 kw_1288 (c_J6_numberOfTrailingZeros_0f7a4 (gl g) (gD g) h_1) (by omega) [] hC_nil rfl (w_J6_numberOfTrailingZeros_0f7a4_a.trans w_J6_numberOfTrailingZeros_0f7a4_a.symm) rfl rfl (Nat.le_of_ble_eq_true rfl) dX10_byTwos_7 wput_nil ?_
      refine j_istore_n C dX10_byTwos_10 (by decide) ?_
      refine j_ldc C kw_1160 dX10_byTwos_11 ?_
      refine j_istore_n C dX10_byTwos_13 (by decide) ?_
      refine j_iload_n C dX10_byTwos_14 rfl ?_
      refine j_iconst C (1) dX10_byTwos_15 ki_1 ?_
      refine j_iadd C dX10_byTwos_16 ?_
      refine j_istore C dX10_byTwos_17 (by decide) ?_
      obtain ⟨e_19, hl_19, h⟩ := of_bind h
      have ha_19 : J g (w_X10_byTwos (gD g) q_this q_dists w_now w_kept w_trial w_refusals w_row w_letters w_left w_steps w_partners w_times w_spliced w_piece w_balances w_prices w_hands w_hand w_dealing v_hasImage v_rows v_lettered v_stepsMany v_splicedMany v_most v_together v_z v_dists) [(3, .int (e_19))] 71 [] := by
        refine j_iload_n C dX10_byTwos_71 rfl ?_
        have h := Option.some.inj h
        subst h
        exact j_iret C E dX10_byTwos_72
      refine j_lv (lv' := [(0, .ref q_this), (1, .int (x1)), (2, .int (r_numberOfTrailingZeros_1)), (3, .int ((1000000 : Int32))), (4, .int (r_numberOfTrailingZeros_1 + (1 : Int32)))]) rfl ?_
      refine lp_ind hl_19 (fun s_19 => J g (w_X10_byTwos (gD g) q_this q_dists w_now w_kept w_trial w_refusals w_row w_letters w_left w_steps w_partners w_times w_spliced w_piece w_balances w_prices w_hands w_hand w_dealing v_hasImage v_rows v_lettered v_stepsMany v_splicedMany v_most v_together v_z v_dists) [(0, .ref q_this), (1, .int (x1)), (2, .int (r_numberOfTrailingZeros_1)), (3, .int (s_19.1)), (4, .int (s_19.2))] 19 []) (fun s_19 r_19 h hc_19 hx_19 => ?_)
      unfold f_X10_byTwos_b19 at h
      refine j_iload C dX10_byTwos_19 rfl ?_
      refine j_bipush C (6) dX10_byTwos_21 kb_6 ?_
      refine j_icmp_ge C h 71 dX10_byTwos_23 (by decide) (fun hc h => ?_) (fun hc h => ?_)
      · have h := Option.some.inj h
        subst h
        have h9 := hx_19 _ rfl
        subst h9
        exact j_lw ha_19 rfl
      · refine j_iload_n C dX10_byTwos_26 rfl ?_
        refine j_iload C dX10_byTwos_27 rfl ?_
        refine j_ishr C dX10_byTwos_29 ?_
        refine j_iconst C (1) dX10_byTwos_30 ki_1 ?_
        refine j_iand C dX10_byTwos_31 ?_
        refine j_iconst C (1) dX10_byTwos_32 ki_1 ?_
        refine j_icmp_ne C h 65 dX10_byTwos_33 (by decide) (fun hc h => ?_) (fun hc h => ?_)
        · refine j_iload_n C dX10_byTwos_36 rfl ?_
          refine j_aload_n C dX10_byTwos_37 rfl ?_
          refine j_iload_n C dX10_byTwos_38 rfl ?_
          refine j_iload C dX10_byTwos_39 rfl ?_
          obtain ⟨r_dist_2, h_2, h⟩ := of_bind h
          refine j_callV1 C mk_X10_dist ms_X10_dist kw_1168 (c_X10_dist (gl g) (gD g) h_2) (by omega) 0 w_X10_byTwos_g0 rfl [0, 1] (hC_cons w_X10_byTwos_g0 (hC_cons w_X10_byTwos_g1 hC_nil)) rfl (w_X10_dist_a.trans w_X10_dist_a.symm) rfl rfl (Nat.le_of_ble_eq_true rfl) dX10_byTwos_41 (wput_cons w_X10_byTwos_s0 (wput_cons w_X10_byTwos_s1 wput_nil)) ?_
          refine j_aload_n C dX10_byTwos_44 rfl ?_
          refine j_iload_n C dX10_byTwos_45 rfl ?_
          refine j_iconst C (1) dX10_byTwos_46 ki_1 ?_
          refine j_iload_n C dX10_byTwos_47 rfl ?_
          refine j_ishl C dX10_byTwos_48 ?_
          refine j_iconst C (1) dX10_byTwos_49 ki_1 ?_
          refine j_iload C dX10_byTwos_50 rfl ?_
          refine j_ishl C dX10_byTwos_52 ?_
          refine j_ior C dX10_byTwos_53 ?_
          refine j_iconst C (-1) dX10_byTwos_54 ki_m1 ?_
          refine j_ixor C dX10_byTwos_55 ?_
          refine j_iand C dX10_byTwos_56 ?_
          obtain ⟨r_byTwos_3, h_3, h⟩ := of_bind h
          refine j_callV1 C mk_X10_byTwos ms_X10_byTwos kw_1284 (ih h_3) (by omega) 0 w_X10_byTwos_g0 rfl [0, 1] (hC_cons w_X10_byTwos_g0 (hC_cons w_X10_byTwos_g1 hC_nil)) rfl (w_X10_byTwos_a.trans w_X10_byTwos_a.symm) rfl rfl (Nat.le_of_ble_eq_true rfl) dX10_byTwos_57 (wput_cons w_X10_byTwos_s0 (wput_cons w_X10_byTwos_s1 wput_nil)) ?_
          refine j_iadd C dX10_byTwos_60 ?_
          refine j_mmin C (by omega) kw_1167 kw_636 kw_19 kw_637 (Nat.le_of_ble_eq_true rfl) dX10_byTwos_61 ?_
          refine j_istore_n C dX10_byTwos_64 (by decide) ?_
          refine j_inc C (1) dX10_byTwos_65 rfl ki_1 (by decide) ?_
          refine j_goto C 19 dX10_byTwos_68 (by decide) ?_
          have h := Option.some.inj h
          subst h
          have hc9 := hc_19 _ rfl
          exact j_lw hc9 rfl
        · refine j_inc C (1) dX10_byTwos_65 rfl ki_1 (by decide) ?_
          refine j_goto C 19 dX10_byTwos_68 (by decide) ?_
          have h := Option.some.inj h
          subst h
          have hc9 := hc_19 _ rfl
          exact j_lw hc9 rfl

def w_X10_matches (D : va_G) (q_this q_dists q_partners q_p1 : Nat) (w_now w_kept w_trial w_refusals w_row w_letters w_left w_steps w_times w_spliced w_piece w_balances w_prices w_hands w_hand w_dealing : Value) (v_hasImage : Int32) (v_rows : Int32) (v_lettered : Int32) (v_stepsMany : Int32) (v_splicedMany : Int32) (v_most : Int32) (v_together : Int32) (v_z : Int32) (v_dists : (Nat → Int32)) (v_partners : (Nat → Int32)) (v_p1 : (Nat → Int32)) : va_W := [(q_this, .inr (9, [w_now, w_kept, w_trial, .int v_hasImage, w_refusals, w_row, .int v_rows, w_letters, .int v_lettered, .ref q_dists, w_left, w_steps, .int v_stepsMany, .ref q_partners, w_times, w_spliced, .int v_splicedMany, w_piece, w_balances, w_prices, w_hands, w_hand, w_dealing, .int v_most, .int v_together, .int v_z])), (q_dists, .inl (D.1 100, 36, .inl v_dists)), (q_partners, .inl (D.1 100, 6, .inl v_partners)), (q_p1, .inl (D.1 100, 50, .inl v_p1))]
theorem w_X10_matches_g0 {D : va_G} {q_this : Nat} {q_dists : Nat} {q_partners : Nat} {q_p1 : Nat} {w_now : Value} {w_kept : Value} {w_trial : Value} {w_refusals : Value} {w_row : Value} {w_letters : Value} {w_left : Value} {w_steps : Value} {w_times : Value} {w_spliced : Value} {w_piece : Value} {w_balances : Value} {w_prices : Value} {w_hands : Value} {w_hand : Value} {w_dealing : Value} {v_hasImage : Int32} {v_rows : Int32} {v_lettered : Int32} {v_stepsMany : Int32} {v_splicedMany : Int32} {v_most : Int32} {v_together : Int32} {v_z : Int32} {v_dists : (Nat → Int32)} {v_partners : (Nat → Int32)} {v_p1 : (Nat → Int32)} : (w_X10_matches D q_this q_dists q_partners q_p1 w_now w_kept w_trial w_refusals w_row w_letters w_left w_steps w_times w_spliced w_piece w_balances w_prices w_hands w_hand w_dealing v_hasImage v_rows v_lettered v_stepsMany v_splicedMany v_most v_together v_z v_dists v_partners v_p1)[0]? = some (q_this, .inr (9, [w_now, w_kept, w_trial, .int v_hasImage, w_refusals, w_row, .int v_rows, w_letters, .int v_lettered, .ref q_dists, w_left, w_steps, .int v_stepsMany, .ref q_partners, w_times, w_spliced, .int v_splicedMany, w_piece, w_balances, w_prices, w_hands, w_hand, w_dealing, .int v_most, .int v_together, .int v_z])) := rfl
theorem w_X10_matches_s0 {D : va_G} {q_this : Nat} {q_dists : Nat} {q_partners : Nat} {q_p1 : Nat} {w_now : Value} {w_kept : Value} {w_trial : Value} {w_refusals : Value} {w_row : Value} {w_letters : Value} {w_left : Value} {w_steps : Value} {w_times : Value} {w_spliced : Value} {w_piece : Value} {w_balances : Value} {w_prices : Value} {w_hands : Value} {w_hand : Value} {w_dealing : Value} {v_hasImage : Int32} {v_rows : Int32} {v_lettered : Int32} {v_stepsMany : Int32} {v_splicedMany : Int32} {v_most : Int32} {v_together : Int32} {v_z : Int32} {v_dists : (Nat → Int32)} {v_partners : (Nat → Int32)} {v_p1 : (Nat → Int32)} {v_hasImage' : Int32} {v_rows' : Int32} {v_lettered' : Int32} {v_stepsMany' : Int32} {v_splicedMany' : Int32} {v_most' : Int32} {v_together' : Int32} {v_z' : Int32} : (w_X10_matches D q_this q_dists q_partners q_p1 w_now w_kept w_trial w_refusals w_row w_letters w_left w_steps w_times w_spliced w_piece w_balances w_prices w_hands w_hand w_dealing v_hasImage v_rows v_lettered v_stepsMany v_splicedMany v_most v_together v_z v_dists v_partners v_p1).set 0 (q_this, .inr (9, [w_now, w_kept, w_trial, .int v_hasImage', w_refusals, w_row, .int v_rows', w_letters, .int v_lettered', .ref q_dists, w_left, w_steps, .int v_stepsMany', .ref q_partners, w_times, w_spliced, .int v_splicedMany', w_piece, w_balances, w_prices, w_hands, w_hand, w_dealing, .int v_most', .int v_together', .int v_z'])) = (w_X10_matches D q_this q_dists q_partners q_p1 w_now w_kept w_trial w_refusals w_row w_letters w_left w_steps w_times w_spliced w_piece w_balances w_prices w_hands w_hand w_dealing v_hasImage' v_rows' v_lettered' v_stepsMany' v_splicedMany' v_most' v_together' v_z' v_dists v_partners v_p1) := rfl
theorem w_X10_matches_g1 {D : va_G} {q_this : Nat} {q_dists : Nat} {q_partners : Nat} {q_p1 : Nat} {w_now : Value} {w_kept : Value} {w_trial : Value} {w_refusals : Value} {w_row : Value} {w_letters : Value} {w_left : Value} {w_steps : Value} {w_times : Value} {w_spliced : Value} {w_piece : Value} {w_balances : Value} {w_prices : Value} {w_hands : Value} {w_hand : Value} {w_dealing : Value} {v_hasImage : Int32} {v_rows : Int32} {v_lettered : Int32} {v_stepsMany : Int32} {v_splicedMany : Int32} {v_most : Int32} {v_together : Int32} {v_z : Int32} {v_dists : (Nat → Int32)} {v_partners : (Nat → Int32)} {v_p1 : (Nat → Int32)} : (w_X10_matches D q_this q_dists q_partners q_p1 w_now w_kept w_trial w_refusals w_row w_letters w_left w_steps w_times w_spliced w_piece w_balances w_prices w_hands w_hand w_dealing v_hasImage v_rows v_lettered v_stepsMany v_splicedMany v_most v_together v_z v_dists v_partners v_p1)[1]? = some (q_dists, .inl (D.1 100, 36, .inl v_dists)) := rfl
theorem w_X10_matches_s1 {D : va_G} {q_this : Nat} {q_dists : Nat} {q_partners : Nat} {q_p1 : Nat} {w_now : Value} {w_kept : Value} {w_trial : Value} {w_refusals : Value} {w_row : Value} {w_letters : Value} {w_left : Value} {w_steps : Value} {w_times : Value} {w_spliced : Value} {w_piece : Value} {w_balances : Value} {w_prices : Value} {w_hands : Value} {w_hand : Value} {w_dealing : Value} {v_hasImage : Int32} {v_rows : Int32} {v_lettered : Int32} {v_stepsMany : Int32} {v_splicedMany : Int32} {v_most : Int32} {v_together : Int32} {v_z : Int32} {v_dists : (Nat → Int32)} {v_partners : (Nat → Int32)} {v_p1 : (Nat → Int32)} {v_dists' : (Nat → Int32)} : (w_X10_matches D q_this q_dists q_partners q_p1 w_now w_kept w_trial w_refusals w_row w_letters w_left w_steps w_times w_spliced w_piece w_balances w_prices w_hands w_hand w_dealing v_hasImage v_rows v_lettered v_stepsMany v_splicedMany v_most v_together v_z v_dists v_partners v_p1).set 1 (q_dists, .inl (D.1 100, 36, .inl v_dists')) = (w_X10_matches D q_this q_dists q_partners q_p1 w_now w_kept w_trial w_refusals w_row w_letters w_left w_steps w_times w_spliced w_piece w_balances w_prices w_hands w_hand w_dealing v_hasImage v_rows v_lettered v_stepsMany v_splicedMany v_most v_together v_z v_dists' v_partners v_p1) := rfl
theorem w_X10_matches_g2 {D : va_G} {q_this : Nat} {q_dists : Nat} {q_partners : Nat} {q_p1 : Nat} {w_now : Value} {w_kept : Value} {w_trial : Value} {w_refusals : Value} {w_row : Value} {w_letters : Value} {w_left : Value} {w_steps : Value} {w_times : Value} {w_spliced : Value} {w_piece : Value} {w_balances : Value} {w_prices : Value} {w_hands : Value} {w_hand : Value} {w_dealing : Value} {v_hasImage : Int32} {v_rows : Int32} {v_lettered : Int32} {v_stepsMany : Int32} {v_splicedMany : Int32} {v_most : Int32} {v_together : Int32} {v_z : Int32} {v_dists : (Nat → Int32)} {v_partners : (Nat → Int32)} {v_p1 : (Nat → Int32)} : (w_X10_matches D q_this q_dists q_partners q_p1 w_now w_kept w_trial w_refusals w_row w_letters w_left w_steps w_times w_spliced w_piece w_balances w_prices w_hands w_hand w_dealing v_hasImage v_rows v_lettered v_stepsMany v_splicedMany v_most v_together v_z v_dists v_partners v_p1)[2]? = some (q_partners, .inl (D.1 100, 6, .inl v_partners)) := rfl
theorem w_X10_matches_s2 {D : va_G} {q_this : Nat} {q_dists : Nat} {q_partners : Nat} {q_p1 : Nat} {w_now : Value} {w_kept : Value} {w_trial : Value} {w_refusals : Value} {w_row : Value} {w_letters : Value} {w_left : Value} {w_steps : Value} {w_times : Value} {w_spliced : Value} {w_piece : Value} {w_balances : Value} {w_prices : Value} {w_hands : Value} {w_hand : Value} {w_dealing : Value} {v_hasImage : Int32} {v_rows : Int32} {v_lettered : Int32} {v_stepsMany : Int32} {v_splicedMany : Int32} {v_most : Int32} {v_together : Int32} {v_z : Int32} {v_dists : (Nat → Int32)} {v_partners : (Nat → Int32)} {v_p1 : (Nat → Int32)} {v_partners' : (Nat → Int32)} : (w_X10_matches D q_this q_dists q_partners q_p1 w_now w_kept w_trial w_refusals w_row w_letters w_left w_steps w_times w_spliced w_piece w_balances w_prices w_hands w_hand w_dealing v_hasImage v_rows v_lettered v_stepsMany v_splicedMany v_most v_together v_z v_dists v_partners v_p1).set 2 (q_partners, .inl (D.1 100, 6, .inl v_partners')) = (w_X10_matches D q_this q_dists q_partners q_p1 w_now w_kept w_trial w_refusals w_row w_letters w_left w_steps w_times w_spliced w_piece w_balances w_prices w_hands w_hand w_dealing v_hasImage v_rows v_lettered v_stepsMany v_splicedMany v_most v_together v_z v_dists v_partners' v_p1) := rfl
theorem w_X10_matches_g3 {D : va_G} {q_this : Nat} {q_dists : Nat} {q_partners : Nat} {q_p1 : Nat} {w_now : Value} {w_kept : Value} {w_trial : Value} {w_refusals : Value} {w_row : Value} {w_letters : Value} {w_left : Value} {w_steps : Value} {w_times : Value} {w_spliced : Value} {w_piece : Value} {w_balances : Value} {w_prices : Value} {w_hands : Value} {w_hand : Value} {w_dealing : Value} {v_hasImage : Int32} {v_rows : Int32} {v_lettered : Int32} {v_stepsMany : Int32} {v_splicedMany : Int32} {v_most : Int32} {v_together : Int32} {v_z : Int32} {v_dists : (Nat → Int32)} {v_partners : (Nat → Int32)} {v_p1 : (Nat → Int32)} : (w_X10_matches D q_this q_dists q_partners q_p1 w_now w_kept w_trial w_refusals w_row w_letters w_left w_steps w_times w_spliced w_piece w_balances w_prices w_hands w_hand w_dealing v_hasImage v_rows v_lettered v_stepsMany v_splicedMany v_most v_together v_z v_dists v_partners v_p1)[3]? = some (q_p1, .inl (D.1 100, 50, .inl v_p1)) := rfl
theorem w_X10_matches_s3 {D : va_G} {q_this : Nat} {q_dists : Nat} {q_partners : Nat} {q_p1 : Nat} {w_now : Value} {w_kept : Value} {w_trial : Value} {w_refusals : Value} {w_row : Value} {w_letters : Value} {w_left : Value} {w_steps : Value} {w_times : Value} {w_spliced : Value} {w_piece : Value} {w_balances : Value} {w_prices : Value} {w_hands : Value} {w_hand : Value} {w_dealing : Value} {v_hasImage : Int32} {v_rows : Int32} {v_lettered : Int32} {v_stepsMany : Int32} {v_splicedMany : Int32} {v_most : Int32} {v_together : Int32} {v_z : Int32} {v_dists : (Nat → Int32)} {v_partners : (Nat → Int32)} {v_p1 : (Nat → Int32)} {v_p1' : (Nat → Int32)} : (w_X10_matches D q_this q_dists q_partners q_p1 w_now w_kept w_trial w_refusals w_row w_letters w_left w_steps w_times w_spliced w_piece w_balances w_prices w_hands w_hand w_dealing v_hasImage v_rows v_lettered v_stepsMany v_splicedMany v_most v_together v_z v_dists v_partners v_p1).set 3 (q_p1, .inl (D.1 100, 50, .inl v_p1')) = (w_X10_matches D q_this q_dists q_partners q_p1 w_now w_kept w_trial w_refusals w_row w_letters w_left w_steps w_times w_spliced w_piece w_balances w_prices w_hands w_hand w_dealing v_hasImage v_rows v_lettered v_stepsMany v_splicedMany v_most v_together v_z v_dists v_partners v_p1') := rfl
theorem w_X10_matches_a {D : va_G} {q_this : Nat} {q_dists : Nat} {q_partners : Nat} {q_p1 : Nat} {w_now : Value} {w_kept : Value} {w_trial : Value} {w_refusals : Value} {w_row : Value} {w_letters : Value} {w_left : Value} {w_steps : Value} {w_times : Value} {w_spliced : Value} {w_piece : Value} {w_balances : Value} {w_prices : Value} {w_hands : Value} {w_hand : Value} {w_dealing : Value} {v_hasImage : Int32} {v_rows : Int32} {v_lettered : Int32} {v_stepsMany : Int32} {v_splicedMany : Int32} {v_most : Int32} {v_together : Int32} {v_z : Int32} {v_dists : (Nat → Int32)} {v_partners : (Nat → Int32)} {v_p1 : (Nat → Int32)} : (w_X10_matches D q_this q_dists q_partners q_p1 w_now w_kept w_trial w_refusals w_row w_letters w_left w_steps w_times w_spliced w_piece w_balances w_prices w_hands w_hand w_dealing v_hasImage v_rows v_lettered v_stepsMany v_splicedMany v_most v_together v_z v_dists v_partners v_p1).map (fun q => q.1) = [q_this, q_dists, q_partners, q_p1] := rfl
def f_X10_matches_b7 (x2_7 : Int32) (v_partners_7 : (Nat → Int32)) : Option ((Int32 × (Nat → Int32)) ⊕ (Nat → Int32)) :=
  (if (6 : Int32) ≤ x2_7 then some (.inr v_partners_7) else ga x2_7 6 (some (.inl (x2_7 + (1 : Int32), upd v_partners_7 (Int32.toNatClampNeg x2_7) (-9 : Int32)))))
def f_X10_matches_b70 (N : Nat) (x2_47 : Int32) (x5_70 : Int32) (r_numberOfTrailingZeros_4_0 : Int32) (r_measures_1_0 : (Nat → Int32)) (r_byTwos_5_0 : Int32) : Option (Int32 ⊕ Int32) :=
  (if ((x2_47 >>> (x5_70 &&& 31)) &&& (1 : Int32)) = 0 then some (.inl (x5_70 + (1 : Int32))) else (f_X10_dist r_numberOfTrailingZeros_4_0 x5_70 r_measures_1_0).bind (fun r_dist_6 => (f_X10_byTwos N 8 (x2_47 &&& ((((1 : Int32) <<< (r_numberOfTrailingZeros_4_0 &&& 31)) ||| ((1 : Int32) <<< (x5_70 &&& 31))) ^^^ (-1 : Int32))) r_measures_1_0).bind (fun r_byTwos_7 => (if (r_dist_6 + r_byTwos_7) = r_byTwos_5_0 then some (.inr x5_70) else some (.inl (x5_70 + (1 : Int32)))))))
def f_X10_matches_b47 (N : Nat) (x2_47 : Int32) (v_partners_47 : (Nat → Int32)) (r_measures_1_0 : (Nat → Int32)) : Option ((Int32 × (Nat → Int32)) ⊕ (Nat → Int32)) :=
  (if x2_47 = 0 then some (.inr v_partners_47) else (f_J6_numberOfTrailingZeros_0f7a4 x2_47).bind (fun r_numberOfTrailingZeros_4 => (f_X10_byTwos N 8 x2_47 r_measures_1_0).bind (fun r_byTwos_5 => (lp (fun s_70 => f_X10_matches_b70 N x2_47 s_70 r_numberOfTrailingZeros_4 r_measures_1_0 r_byTwos_5) N (r_numberOfTrailingZeros_4 + (1 : Int32))).bind (fun e_70 => ga r_numberOfTrailingZeros_4 6 (ga e_70 6 (some (.inl (x2_47 &&& ((((1 : Int32) <<< (r_numberOfTrailingZeros_4 &&& 31)) ||| ((1 : Int32) <<< (e_70 &&& 31))) ^^^ (-1 : Int32)), upd (upd v_partners_47 (Int32.toNatClampNeg r_numberOfTrailingZeros_4) e_70) (Int32.toNatClampNeg e_70) r_numberOfTrailingZeros_4))))))))
def f_X10_matches (N : Nat) (v_dists : (Nat → Int32)) (v_partners : (Nat → Int32)) (v_p1 : (Nat → Int32)) : Option (Int32 × (Nat → Int32) × (Nat → Int32)) :=
  (f_X10_measures N v_dists v_p1).bind (fun r_measures_1 => (lp (fun s_7 => f_X10_matches_b7 s_7.1 s_7.2) N ((0 : Int32), v_partners)).bind (fun e_7 => (f_X10_oddSet N v_p1).bind (fun r_oddSet_2 => (f_X10_byTwos N 8 r_oddSet_2 r_measures_1).bind (fun r_byTwos_3 => (if r_byTwos_3 < (1000000 : Int32) then (lp (fun s_47 => f_X10_matches_b47 N s_47.1 s_47.2 r_measures_1) N (r_oddSet_2, e_7)).bind (fun e_47 => some (r_byTwos_3, r_measures_1, e_47)) else some ((-9 : Int32), r_measures_1, e_7))))))
set_option maxRecDepth 100000 in
set_option maxHeartbeats 4000000 in
theorem c_X10_matches (l : Launch) (D : va_G) (N : Nat) {q_this q_dists q_partners q_p1 : Nat} {w_now w_kept w_trial w_refusals w_row w_letters w_left w_steps w_times w_spliced w_piece w_balances w_prices w_hands w_hand w_dealing : Value} {v_hasImage : Int32} {v_rows : Int32} {v_lettered : Int32} {v_stepsMany : Int32} {v_splicedMany : Int32} {v_most : Int32} {v_together : Int32} {v_z : Int32} {v_dists : (Nat → Int32)} {v_partners : (Nat → Int32)} {v_p1 : (Nat → Int32)} {o : (Int32 × (Nat → Int32) × (Nat → Int32))} (h : f_X10_matches N v_dists v_partners v_p1 = some o) : CT l D yX10_matches cX10_matches 7 (Option.some FieldType.int) 10 [.ref q_this, .ref q_p1] (w_X10_matches D q_this q_dists q_partners q_p1 w_now w_kept w_trial w_refusals w_row w_letters w_left w_steps w_times w_spliced w_piece w_balances w_prices w_hands w_hand w_dealing v_hasImage v_rows v_lettered v_stepsMany v_splicedMany v_most v_together v_z v_dists v_partners v_p1) (w_X10_matches D q_this q_dists q_partners q_p1 w_now w_kept w_trial w_refusals w_row w_letters w_left w_steps w_times w_spliced w_piece w_balances w_prices w_hands w_hand w_dealing v_hasImage v_rows v_lettered v_stepsMany v_splicedMany v_most v_together v_z o.2.1 o.2.2 v_p1) (some (.int o.1)) := by
  refine CT.of mk_X10_matches (Nat.le_of_ble_eq_true rfl) (fun g hl hD C E => ?_)
  subst hl
  subst hD
  unfold f_X10_matches at h
  refine j_aload_n C dX10_matches_0 rfl ?_
  refine j_aload_n C dX10_matches_1 rfl ?_
  obtain ⟨r_measures_1, h_1, h⟩ := of_bind h
  refine j_callV0 C mk_X10_measures ms_X10_measures kw_1156 (c_X10_measures (gl g) (gD g) N h_1) (by decide) 0 w_X10_matches_g0 rfl [0, 1, 3] (hC_cons w_X10_matches_g0 (hC_cons w_X10_matches_g1 (hC_cons w_X10_matches_g3 hC_nil))) rfl (w_X10_measures_a.trans w_X10_measures_a.symm) rfl rfl (Nat.le_of_ble_eq_true rfl) dX10_matches_2 (wput_cons w_X10_matches_s0 (wput_cons w_X10_matches_s1 (wput_cons w_X10_matches_s3 wput_nil))) ?_
  refine j_iconst C (0) dX10_matches_5 ki_0 ?_
  refine j_istore_n C dX10_matches_6 (by decide) ?_
  obtain ⟨e_7, hl_7, h⟩ := of_bind h
  have ha_7 : J g (w_X10_matches (gD g) q_this q_dists q_partners q_p1 w_now w_kept w_trial w_refusals w_row w_letters w_left w_steps w_times w_spliced w_piece w_balances w_prices w_hands w_hand w_dealing v_hasImage v_rows v_lettered v_stepsMany v_splicedMany v_most v_together v_z r_measures_1 e_7 v_p1) [(0, .ref q_this), (1, .ref q_p1)] 27 [] := by
    refine j_aload_n C dX10_matches_27 rfl ?_
    obtain ⟨r_oddSet_2, h_2, h⟩ := of_bind h
    refine j_callS1 C mk_X10_oddSet ms_X10_oddSet kw_1273 (c_X10_oddSet (gl g) (gD g) N h_2) (by decide) [3] (hC_cons w_X10_matches_g3 hC_nil) rfl (w_X10_oddSet_a.trans w_X10_oddSet_a.symm) rfl rfl (Nat.le_of_ble_eq_true rfl) dX10_matches_28 (wput_cons w_X10_matches_s3 wput_nil) ?_
    refine j_istore_n C dX10_matches_31 (by decide) ?_
    refine j_aload_n C dX10_matches_32 rfl ?_
    refine j_iload_n C dX10_matches_33 rfl ?_
    obtain ⟨r_byTwos_3, h_3, h⟩ := of_bind h
    refine j_callV1 C mk_X10_byTwos ms_X10_byTwos kw_1284 (c_X10_byTwos (gl g) (gD g) N 8 h_3) (by decide) 0 w_X10_matches_g0 rfl [0, 1] (hC_cons w_X10_matches_g0 (hC_cons w_X10_matches_g1 hC_nil)) rfl (w_X10_byTwos_a.trans w_X10_byTwos_a.symm) rfl rfl (Nat.le_of_ble_eq_true rfl) dX10_matches_34 (wput_cons w_X10_matches_s0 (wput_cons w_X10_matches_s1 wput_nil)) ?_
    refine j_istore_n C dX10_matches_37 (by decide) ?_
    refine j_iload_n C dX10_matches_38 rfl ?_
    refine j_ldc C kw_1160 dX10_matches_39 ?_
    refine j_icmp_lt C h 47 dX10_matches_41 (by decide) (fun hc h => ?_) (fun hc h => ?_)
    · obtain ⟨e_47, hl_47, h⟩ := of_bind h
      have ha_47 : J g (w_X10_matches (gD g) q_this q_dists q_partners q_p1 w_now w_kept w_trial w_refusals w_row w_letters w_left w_steps w_times w_spliced w_piece w_balances w_prices w_hands w_hand w_dealing v_hasImage v_rows v_lettered v_stepsMany v_splicedMany v_most v_together v_z r_measures_1 e_47 v_p1) [(3, .int (r_byTwos_3))] 151 [] := by
        refine j_iload_n C dX10_matches_151 rfl ?_
        have h := Option.some.inj h
        subst h
        exact j_iret C E dX10_matches_152
      refine j_lv (lv' := [(0, .ref q_this), (2, .int (r_oddSet_2)), (3, .int (r_byTwos_3))]) rfl ?_
      refine lp_ind hl_47 (fun s_47 => J g (w_X10_matches (gD g) q_this q_dists q_partners q_p1 w_now w_kept w_trial w_refusals w_row w_letters w_left w_steps w_times w_spliced w_piece w_balances w_prices w_hands w_hand w_dealing v_hasImage v_rows v_lettered v_stepsMany v_splicedMany v_most v_together v_z r_measures_1 s_47.2 v_p1) [(0, .ref q_this), (2, .int (s_47.1)), (3, .int (r_byTwos_3))] 47 []) (fun s_47 r_47 h hc_47 hx_47 => ?_)
      unfold f_X10_matches_b47 at h
      refine j_iload_n C dX10_matches_47 rfl ?_
      refine j_if_eq C h 151 dX10_matches_48 (by decide) (fun hc h => ?_) (fun hc h => ?_)
      · have h := Option.some.inj h
        subst h
        have h9 := hx_47 _ rfl
        subst h9
        exact j_lw ha_47 rfl
      · refine j_iload_n C dX10_matches_51 rfl ?_
        obtain ⟨r_numberOfTrailingZeros_4, h_4, h⟩ := of_bind h
        refine j_callS1 C mk_J6_numberOfTrailingZeros_0f7a4 ms_J6_numberOfTrailingZeros_0f7a4 kw_1288 (c_J6_numberOfTrailingZeros_0f7a4 (gl g) (gD g) h_4) (by decide) [] hC_nil rfl (w_J6_numberOfTrailingZeros_0f7a4_a.trans w_J6_numberOfTrailingZeros_0f7a4_a.symm) rfl rfl (Nat.le_of_ble_eq_true rfl) dX10_matches_52 wput_nil ?_
        refine j_istore C dX10_matches_55 (by decide) ?_
        refine j_iload C dX10_matches_57 rfl ?_
        refine j_iconst C (1) dX10_matches_59 ki_1 ?_
        refine j_iadd C dX10_matches_60 ?_
        refine j_istore C dX10_matches_61 (by decide) ?_
        refine j_aload_n C dX10_matches_63 rfl ?_
        refine j_iload_n C dX10_matches_64 rfl ?_
        obtain ⟨r_byTwos_5, h_5, h⟩ := of_bind h
        refine j_callV1 C mk_X10_byTwos ms_X10_byTwos kw_1284 (c_X10_byTwos (gl g) (gD g) N 8 h_5) (by decide) 0 w_X10_matches_g0 rfl [0, 1] (hC_cons w_X10_matches_g0 (hC_cons w_X10_matches_g1 hC_nil)) rfl (w_X10_byTwos_a.trans w_X10_byTwos_a.symm) rfl rfl (Nat.le_of_ble_eq_true rfl) dX10_matches_65 (wput_cons w_X10_matches_s0 (wput_cons w_X10_matches_s1 wput_nil)) ?_
        refine j_istore C dX10_matches_68 (by decide) ?_
        obtain ⟨e_70, hl_70, h⟩ := of_bind h
        have ha_70 : J g (w_X10_matches (gD g) q_this q_dists q_partners q_p1 w_now w_kept w_trial w_refusals w_row w_letters w_left w_steps w_times w_spliced w_piece w_balances w_prices w_hands w_hand w_dealing v_hasImage v_rows v_lettered v_stepsMany v_splicedMany v_most v_together v_z r_measures_1 s_47.2 v_p1) [(0, .ref q_this), (2, .int (s_47.1)), (3, .int (r_byTwos_3)), (4, .int (r_numberOfTrailingZeros_4)), (5, .int (e_70))] 116 [] := by
          refine j_aload_n C dX10_matches_116 rfl ?_
          refine j_get C 0 w_X10_matches_g0 rfl inX10 13 (by decide) kw_994 rfl rfl dX10_matches_117 ?_
          refine j_iload C dX10_matches_120 rfl ?_
          refine j_iload C dX10_matches_122 rfl ?_
          refine j_iastore 2 C h w_X10_matches_g2 rfl dX10_matches_124 (fun h => ?_)
          refine j_ws w_X10_matches_s2 ?_
          refine j_aload_n C dX10_matches_125 rfl ?_
          refine j_get C 0 w_X10_matches_g0 rfl inX10 13 (by decide) kw_994 rfl rfl dX10_matches_126 ?_
          refine j_iload C dX10_matches_129 rfl ?_
          refine j_iload C dX10_matches_131 rfl ?_
          refine j_iastore 2 C h w_X10_matches_g2 rfl dX10_matches_133 (fun h => ?_)
          refine j_ws w_X10_matches_s2 ?_
          refine j_iload_n C dX10_matches_134 rfl ?_
          refine j_iconst C (1) dX10_matches_135 ki_1 ?_
          refine j_iload C dX10_matches_136 rfl ?_
          refine j_ishl C dX10_matches_138 ?_
          refine j_iconst C (1) dX10_matches_139 ki_1 ?_
          refine j_iload C dX10_matches_140 rfl ?_
          refine j_ishl C dX10_matches_142 ?_
          refine j_ior C dX10_matches_143 ?_
          refine j_iconst C (-1) dX10_matches_144 ki_m1 ?_
          refine j_ixor C dX10_matches_145 ?_
          refine j_iand C dX10_matches_146 ?_
          refine j_istore_n C dX10_matches_147 (by decide) ?_
          refine j_goto C 47 dX10_matches_148 (by decide) ?_
          have h := Option.some.inj h
          subst h
          have hc9 := hc_47 _ rfl
          exact j_lw hc9 rfl
        refine j_lv (lv' := [(0, .ref q_this), (2, .int (s_47.1)), (3, .int (r_byTwos_3)), (4, .int (r_numberOfTrailingZeros_4)), (5, .int (r_numberOfTrailingZeros_4 + (1 : Int32))), (6, .int (r_byTwos_5))]) rfl ?_
        refine lp_ind hl_70 (fun s_70 => J g (w_X10_matches (gD g) q_this q_dists q_partners q_p1 w_now w_kept w_trial w_refusals w_row w_letters w_left w_steps w_times w_spliced w_piece w_balances w_prices w_hands w_hand w_dealing v_hasImage v_rows v_lettered v_stepsMany v_splicedMany v_most v_together v_z r_measures_1 s_47.2 v_p1) [(0, .ref q_this), (2, .int (s_47.1)), (3, .int (r_byTwos_3)), (4, .int (r_numberOfTrailingZeros_4)), (5, .int (s_70)), (6, .int (r_byTwos_5))] 70 []) (fun s_70 r_70 h hc_70 hx_70 => ?_)
        unfold f_X10_matches_b70 at h
        refine j_iload_n C dX10_matches_70 rfl ?_
        refine j_iload C dX10_matches_71 rfl ?_
        refine j_ishr C dX10_matches_73 ?_
        refine j_iconst C (1) dX10_matches_74 ki_1 ?_
        refine j_iand C dX10_matches_75 ?_
        refine j_if_eq C h 110 dX10_matches_76 (by decide) (fun hc h => ?_) (fun hc h => ?_)
        · refine j_inc C (1) dX10_matches_110 rfl ki_1 (by decide) ?_
          refine j_goto C 70 dX10_matches_113 (by decide) ?_
          have h := Option.some.inj h
          subst h
          have hc9 := hc_70 _ rfl
          exact j_lw hc9 rfl
        · refine j_aload_n C dX10_matches_79 rfl ?_
          refine j_iload C dX10_matches_80 rfl ?_
          refine j_iload C dX10_matches_82 rfl ?_
          obtain ⟨r_dist_6, h_6, h⟩ := of_bind h
          refine j_callV1 C mk_X10_dist ms_X10_dist kw_1168 (c_X10_dist (gl g) (gD g) h_6) (by decide) 0 w_X10_matches_g0 rfl [0, 1] (hC_cons w_X10_matches_g0 (hC_cons w_X10_matches_g1 hC_nil)) rfl (w_X10_dist_a.trans w_X10_dist_a.symm) rfl rfl (Nat.le_of_ble_eq_true rfl) dX10_matches_84 (wput_cons w_X10_matches_s0 (wput_cons w_X10_matches_s1 wput_nil)) ?_
          refine j_aload_n C dX10_matches_87 rfl ?_
          refine j_iload_n C dX10_matches_88 rfl ?_
          refine j_iconst C (1) dX10_matches_89 ki_1 ?_
          refine j_iload C dX10_matches_90 rfl ?_
          refine j_ishl C dX10_matches_92 ?_
          refine j_iconst C (1) dX10_matches_93 ki_1 ?_
          refine j_iload C dX10_matches_94 rfl ?_
          refine j_ishl C dX10_matches_96 ?_
          refine j_ior C dX10_matches_97 ?_
          refine j_iconst C (-1) dX10_matches_98 ki_m1 ?_
          refine j_ixor C dX10_matches_99 ?_
          refine j_iand C dX10_matches_100 ?_
          obtain ⟨r_byTwos_7, h_7, h⟩ := of_bind h
          refine j_callV1 C mk_X10_byTwos ms_X10_byTwos kw_1284 (c_X10_byTwos (gl g) (gD g) N 8 h_7) (by decide) 0 w_X10_matches_g0 rfl [0, 1] (hC_cons w_X10_matches_g0 (hC_cons w_X10_matches_g1 hC_nil)) rfl (w_X10_byTwos_a.trans w_X10_byTwos_a.symm) rfl rfl (Nat.le_of_ble_eq_true rfl) dX10_matches_101 (wput_cons w_X10_matches_s0 (wput_cons w_X10_matches_s1 wput_nil)) ?_
          refine j_iadd C dX10_matches_104 ?_
          refine j_iload C dX10_matches_105 rfl ?_
          refine j_icmp_eq C h 116 dX10_matches_107 (by decide) (fun hc h => ?_) (fun hc h => ?_)
          · have h := Option.some.inj h
            subst h
            have h9 := hx_70 _ rfl
            subst h9
            exact j_lw ha_70 rfl
          · refine j_inc C (1) dX10_matches_110 rfl ki_1 (by decide) ?_
            refine j_goto C 70 dX10_matches_113 (by decide) ?_
            have h := Option.some.inj h
            subst h
            have hc9 := hc_70 _ rfl
            exact j_lw hc9 rfl
    · refine j_bipush C (-9) dX10_matches_44 kb_m9 ?_
      have h := Option.some.inj h
      subst h
      exact j_iret C E dX10_matches_46
  refine j_lv (lv' := [(0, .ref q_this), (1, .ref q_p1), (2, .int ((0 : Int32)))]) rfl ?_
  refine lp_ind hl_7 (fun s_7 => J g (w_X10_matches (gD g) q_this q_dists q_partners q_p1 w_now w_kept w_trial w_refusals w_row w_letters w_left w_steps w_times w_spliced w_piece w_balances w_prices w_hands w_hand w_dealing v_hasImage v_rows v_lettered v_stepsMany v_splicedMany v_most v_together v_z r_measures_1 s_7.2 v_p1) [(0, .ref q_this), (1, .ref q_p1), (2, .int (s_7.1))] 7 []) (fun s_7 r_7 h hc_7 hx_7 => ?_)
  unfold f_X10_matches_b7 at h
  refine j_iload_n C dX10_matches_7 rfl ?_
  refine j_bipush C (6) dX10_matches_8 kb_6 ?_
  refine j_icmp_ge C h 27 dX10_matches_10 (by decide) (fun hc h => ?_) (fun hc h => ?_)
  · have h := Option.some.inj h
    subst h
    have h9 := hx_7 _ rfl
    subst h9
    exact j_lw ha_7 rfl
  · refine j_aload_n C dX10_matches_13 rfl ?_
    refine j_get C 0 w_X10_matches_g0 rfl inX10 13 (by decide) kw_994 rfl rfl dX10_matches_14 ?_
    refine j_iload_n C dX10_matches_17 rfl ?_
    refine j_bipush C (-9) dX10_matches_18 kb_m9 ?_
    refine j_iastore 2 C h w_X10_matches_g2 rfl dX10_matches_20 (fun h => ?_)
    refine j_ws w_X10_matches_s2 ?_
    refine j_inc C (1) dX10_matches_21 rfl ki_1 (by decide) ?_
    refine j_goto C 7 dX10_matches_24 (by decide) ?_
    have h := Option.some.inj h
    subst h
    have hc9 := hc_7 _ rfl
    exact j_lw hc9 rfl

def w_X10_matched (D : va_G) (q_this q_now q_refusals q_dists q_partners : Nat) (w_kept w_trial w_row w_letters w_left w_steps w_times w_spliced w_piece w_balances w_prices w_hands w_hand w_dealing : Value) (v_hasImage : Int32) (v_rows : Int32) (v_lettered : Int32) (v_stepsMany : Int32) (v_splicedMany : Int32) (v_most : Int32) (v_together : Int32) (v_z : Int32) (v_now : (Nat → Int32)) (v_refusals : (Nat → Int32)) (v_dists : (Nat → Int32)) (v_partners : (Nat → Int32)) : va_W := [(q_this, .inr (9, [.ref q_now, w_kept, w_trial, .int v_hasImage, .ref q_refusals, w_row, .int v_rows, w_letters, .int v_lettered, .ref q_dists, w_left, w_steps, .int v_stepsMany, .ref q_partners, w_times, w_spliced, .int v_splicedMany, w_piece, w_balances, w_prices, w_hands, w_hand, w_dealing, .int v_most, .int v_together, .int v_z])), (q_now, .inl (D.1 100, 50, .inl v_now)), (q_refusals, .inl (D.1 100, 7, .inl v_refusals)), (q_dists, .inl (D.1 100, 36, .inl v_dists)), (q_partners, .inl (D.1 100, 6, .inl v_partners))]
theorem w_X10_matched_g0 {D : va_G} {q_this : Nat} {q_now : Nat} {q_refusals : Nat} {q_dists : Nat} {q_partners : Nat} {w_kept : Value} {w_trial : Value} {w_row : Value} {w_letters : Value} {w_left : Value} {w_steps : Value} {w_times : Value} {w_spliced : Value} {w_piece : Value} {w_balances : Value} {w_prices : Value} {w_hands : Value} {w_hand : Value} {w_dealing : Value} {v_hasImage : Int32} {v_rows : Int32} {v_lettered : Int32} {v_stepsMany : Int32} {v_splicedMany : Int32} {v_most : Int32} {v_together : Int32} {v_z : Int32} {v_now : (Nat → Int32)} {v_refusals : (Nat → Int32)} {v_dists : (Nat → Int32)} {v_partners : (Nat → Int32)} : (w_X10_matched D q_this q_now q_refusals q_dists q_partners w_kept w_trial w_row w_letters w_left w_steps w_times w_spliced w_piece w_balances w_prices w_hands w_hand w_dealing v_hasImage v_rows v_lettered v_stepsMany v_splicedMany v_most v_together v_z v_now v_refusals v_dists v_partners)[0]? = some (q_this, .inr (9, [.ref q_now, w_kept, w_trial, .int v_hasImage, .ref q_refusals, w_row, .int v_rows, w_letters, .int v_lettered, .ref q_dists, w_left, w_steps, .int v_stepsMany, .ref q_partners, w_times, w_spliced, .int v_splicedMany, w_piece, w_balances, w_prices, w_hands, w_hand, w_dealing, .int v_most, .int v_together, .int v_z])) := rfl
theorem w_X10_matched_s0 {D : va_G} {q_this : Nat} {q_now : Nat} {q_refusals : Nat} {q_dists : Nat} {q_partners : Nat} {w_kept : Value} {w_trial : Value} {w_row : Value} {w_letters : Value} {w_left : Value} {w_steps : Value} {w_times : Value} {w_spliced : Value} {w_piece : Value} {w_balances : Value} {w_prices : Value} {w_hands : Value} {w_hand : Value} {w_dealing : Value} {v_hasImage : Int32} {v_rows : Int32} {v_lettered : Int32} {v_stepsMany : Int32} {v_splicedMany : Int32} {v_most : Int32} {v_together : Int32} {v_z : Int32} {v_now : (Nat → Int32)} {v_refusals : (Nat → Int32)} {v_dists : (Nat → Int32)} {v_partners : (Nat → Int32)} {v_hasImage' : Int32} {v_rows' : Int32} {v_lettered' : Int32} {v_stepsMany' : Int32} {v_splicedMany' : Int32} {v_most' : Int32} {v_together' : Int32} {v_z' : Int32} : (w_X10_matched D q_this q_now q_refusals q_dists q_partners w_kept w_trial w_row w_letters w_left w_steps w_times w_spliced w_piece w_balances w_prices w_hands w_hand w_dealing v_hasImage v_rows v_lettered v_stepsMany v_splicedMany v_most v_together v_z v_now v_refusals v_dists v_partners).set 0 (q_this, .inr (9, [.ref q_now, w_kept, w_trial, .int v_hasImage', .ref q_refusals, w_row, .int v_rows', w_letters, .int v_lettered', .ref q_dists, w_left, w_steps, .int v_stepsMany', .ref q_partners, w_times, w_spliced, .int v_splicedMany', w_piece, w_balances, w_prices, w_hands, w_hand, w_dealing, .int v_most', .int v_together', .int v_z'])) = (w_X10_matched D q_this q_now q_refusals q_dists q_partners w_kept w_trial w_row w_letters w_left w_steps w_times w_spliced w_piece w_balances w_prices w_hands w_hand w_dealing v_hasImage' v_rows' v_lettered' v_stepsMany' v_splicedMany' v_most' v_together' v_z' v_now v_refusals v_dists v_partners) := rfl
theorem w_X10_matched_g1 {D : va_G} {q_this : Nat} {q_now : Nat} {q_refusals : Nat} {q_dists : Nat} {q_partners : Nat} {w_kept : Value} {w_trial : Value} {w_row : Value} {w_letters : Value} {w_left : Value} {w_steps : Value} {w_times : Value} {w_spliced : Value} {w_piece : Value} {w_balances : Value} {w_prices : Value} {w_hands : Value} {w_hand : Value} {w_dealing : Value} {v_hasImage : Int32} {v_rows : Int32} {v_lettered : Int32} {v_stepsMany : Int32} {v_splicedMany : Int32} {v_most : Int32} {v_together : Int32} {v_z : Int32} {v_now : (Nat → Int32)} {v_refusals : (Nat → Int32)} {v_dists : (Nat → Int32)} {v_partners : (Nat → Int32)} : (w_X10_matched D q_this q_now q_refusals q_dists q_partners w_kept w_trial w_row w_letters w_left w_steps w_times w_spliced w_piece w_balances w_prices w_hands w_hand w_dealing v_hasImage v_rows v_lettered v_stepsMany v_splicedMany v_most v_together v_z v_now v_refusals v_dists v_partners)[1]? = some (q_now, .inl (D.1 100, 50, .inl v_now)) := rfl
theorem w_X10_matched_s1 {D : va_G} {q_this : Nat} {q_now : Nat} {q_refusals : Nat} {q_dists : Nat} {q_partners : Nat} {w_kept : Value} {w_trial : Value} {w_row : Value} {w_letters : Value} {w_left : Value} {w_steps : Value} {w_times : Value} {w_spliced : Value} {w_piece : Value} {w_balances : Value} {w_prices : Value} {w_hands : Value} {w_hand : Value} {w_dealing : Value} {v_hasImage : Int32} {v_rows : Int32} {v_lettered : Int32} {v_stepsMany : Int32} {v_splicedMany : Int32} {v_most : Int32} {v_together : Int32} {v_z : Int32} {v_now : (Nat → Int32)} {v_refusals : (Nat → Int32)} {v_dists : (Nat → Int32)} {v_partners : (Nat → Int32)} {v_now' : (Nat → Int32)} : (w_X10_matched D q_this q_now q_refusals q_dists q_partners w_kept w_trial w_row w_letters w_left w_steps w_times w_spliced w_piece w_balances w_prices w_hands w_hand w_dealing v_hasImage v_rows v_lettered v_stepsMany v_splicedMany v_most v_together v_z v_now v_refusals v_dists v_partners).set 1 (q_now, .inl (D.1 100, 50, .inl v_now')) = (w_X10_matched D q_this q_now q_refusals q_dists q_partners w_kept w_trial w_row w_letters w_left w_steps w_times w_spliced w_piece w_balances w_prices w_hands w_hand w_dealing v_hasImage v_rows v_lettered v_stepsMany v_splicedMany v_most v_together v_z v_now' v_refusals v_dists v_partners) := rfl
theorem w_X10_matched_g2 {D : va_G} {q_this : Nat} {q_now : Nat} {q_refusals : Nat} {q_dists : Nat} {q_partners : Nat} {w_kept : Value} {w_trial : Value} {w_row : Value} {w_letters : Value} {w_left : Value} {w_steps : Value} {w_times : Value} {w_spliced : Value} {w_piece : Value} {w_balances : Value} {w_prices : Value} {w_hands : Value} {w_hand : Value} {w_dealing : Value} {v_hasImage : Int32} {v_rows : Int32} {v_lettered : Int32} {v_stepsMany : Int32} {v_splicedMany : Int32} {v_most : Int32} {v_together : Int32} {v_z : Int32} {v_now : (Nat → Int32)} {v_refusals : (Nat → Int32)} {v_dists : (Nat → Int32)} {v_partners : (Nat → Int32)} : (w_X10_matched D q_this q_now q_refusals q_dists q_partners w_kept w_trial w_row w_letters w_left w_steps w_times w_spliced w_piece w_balances w_prices w_hands w_hand w_dealing v_hasImage v_rows v_lettered v_stepsMany v_splicedMany v_most v_together v_z v_now v_refusals v_dists v_partners)[2]? = some (q_refusals, .inl (D.1 100, 7, .inl v_refusals)) := rfl
theorem w_X10_matched_s2 {D : va_G} {q_this : Nat} {q_now : Nat} {q_refusals : Nat} {q_dists : Nat} {q_partners : Nat} {w_kept : Value} {w_trial : Value} {w_row : Value} {w_letters : Value} {w_left : Value} {w_steps : Value} {w_times : Value} {w_spliced : Value} {w_piece : Value} {w_balances : Value} {w_prices : Value} {w_hands : Value} {w_hand : Value} {w_dealing : Value} {v_hasImage : Int32} {v_rows : Int32} {v_lettered : Int32} {v_stepsMany : Int32} {v_splicedMany : Int32} {v_most : Int32} {v_together : Int32} {v_z : Int32} {v_now : (Nat → Int32)} {v_refusals : (Nat → Int32)} {v_dists : (Nat → Int32)} {v_partners : (Nat → Int32)} {v_refusals' : (Nat → Int32)} : (w_X10_matched D q_this q_now q_refusals q_dists q_partners w_kept w_trial w_row w_letters w_left w_steps w_times w_spliced w_piece w_balances w_prices w_hands w_hand w_dealing v_hasImage v_rows v_lettered v_stepsMany v_splicedMany v_most v_together v_z v_now v_refusals v_dists v_partners).set 2 (q_refusals, .inl (D.1 100, 7, .inl v_refusals')) = (w_X10_matched D q_this q_now q_refusals q_dists q_partners w_kept w_trial w_row w_letters w_left w_steps w_times w_spliced w_piece w_balances w_prices w_hands w_hand w_dealing v_hasImage v_rows v_lettered v_stepsMany v_splicedMany v_most v_together v_z v_now v_refusals' v_dists v_partners) := rfl
theorem w_X10_matched_g3 {D : va_G} {q_this : Nat} {q_now : Nat} {q_refusals : Nat} {q_dists : Nat} {q_partners : Nat} {w_kept : Value} {w_trial : Value} {w_row : Value} {w_letters : Value} {w_left : Value} {w_steps : Value} {w_times : Value} {w_spliced : Value} {w_piece : Value} {w_balances : Value} {w_prices : Value} {w_hands : Value} {w_hand : Value} {w_dealing : Value} {v_hasImage : Int32} {v_rows : Int32} {v_lettered : Int32} {v_stepsMany : Int32} {v_splicedMany : Int32} {v_most : Int32} {v_together : Int32} {v_z : Int32} {v_now : (Nat → Int32)} {v_refusals : (Nat → Int32)} {v_dists : (Nat → Int32)} {v_partners : (Nat → Int32)} : (w_X10_matched D q_this q_now q_refusals q_dists q_partners w_kept w_trial w_row w_letters w_left w_steps w_times w_spliced w_piece w_balances w_prices w_hands w_hand w_dealing v_hasImage v_rows v_lettered v_stepsMany v_splicedMany v_most v_together v_z v_now v_refusals v_dists v_partners)[3]? = some (q_dists, .inl (D.1 100, 36, .inl v_dists)) := rfl
theorem w_X10_matched_s3 {D : va_G} {q_this : Nat} {q_now : Nat} {q_refusals : Nat} {q_dists : Nat} {q_partners : Nat} {w_kept : Value} {w_trial : Value} {w_row : Value} {w_letters : Value} {w_left : Value} {w_steps : Value} {w_times : Value} {w_spliced : Value} {w_piece : Value} {w_balances : Value} {w_prices : Value} {w_hands : Value} {w_hand : Value} {w_dealing : Value} {v_hasImage : Int32} {v_rows : Int32} {v_lettered : Int32} {v_stepsMany : Int32} {v_splicedMany : Int32} {v_most : Int32} {v_together : Int32} {v_z : Int32} {v_now : (Nat → Int32)} {v_refusals : (Nat → Int32)} {v_dists : (Nat → Int32)} {v_partners : (Nat → Int32)} {v_dists' : (Nat → Int32)} : (w_X10_matched D q_this q_now q_refusals q_dists q_partners w_kept w_trial w_row w_letters w_left w_steps w_times w_spliced w_piece w_balances w_prices w_hands w_hand w_dealing v_hasImage v_rows v_lettered v_stepsMany v_splicedMany v_most v_together v_z v_now v_refusals v_dists v_partners).set 3 (q_dists, .inl (D.1 100, 36, .inl v_dists')) = (w_X10_matched D q_this q_now q_refusals q_dists q_partners w_kept w_trial w_row w_letters w_left w_steps w_times w_spliced w_piece w_balances w_prices w_hands w_hand w_dealing v_hasImage v_rows v_lettered v_stepsMany v_splicedMany v_most v_together v_z v_now v_refusals v_dists' v_partners) := rfl
theorem w_X10_matched_g4 {D : va_G} {q_this : Nat} {q_now : Nat} {q_refusals : Nat} {q_dists : Nat} {q_partners : Nat} {w_kept : Value} {w_trial : Value} {w_row : Value} {w_letters : Value} {w_left : Value} {w_steps : Value} {w_times : Value} {w_spliced : Value} {w_piece : Value} {w_balances : Value} {w_prices : Value} {w_hands : Value} {w_hand : Value} {w_dealing : Value} {v_hasImage : Int32} {v_rows : Int32} {v_lettered : Int32} {v_stepsMany : Int32} {v_splicedMany : Int32} {v_most : Int32} {v_together : Int32} {v_z : Int32} {v_now : (Nat → Int32)} {v_refusals : (Nat → Int32)} {v_dists : (Nat → Int32)} {v_partners : (Nat → Int32)} : (w_X10_matched D q_this q_now q_refusals q_dists q_partners w_kept w_trial w_row w_letters w_left w_steps w_times w_spliced w_piece w_balances w_prices w_hands w_hand w_dealing v_hasImage v_rows v_lettered v_stepsMany v_splicedMany v_most v_together v_z v_now v_refusals v_dists v_partners)[4]? = some (q_partners, .inl (D.1 100, 6, .inl v_partners)) := rfl
theorem w_X10_matched_s4 {D : va_G} {q_this : Nat} {q_now : Nat} {q_refusals : Nat} {q_dists : Nat} {q_partners : Nat} {w_kept : Value} {w_trial : Value} {w_row : Value} {w_letters : Value} {w_left : Value} {w_steps : Value} {w_times : Value} {w_spliced : Value} {w_piece : Value} {w_balances : Value} {w_prices : Value} {w_hands : Value} {w_hand : Value} {w_dealing : Value} {v_hasImage : Int32} {v_rows : Int32} {v_lettered : Int32} {v_stepsMany : Int32} {v_splicedMany : Int32} {v_most : Int32} {v_together : Int32} {v_z : Int32} {v_now : (Nat → Int32)} {v_refusals : (Nat → Int32)} {v_dists : (Nat → Int32)} {v_partners : (Nat → Int32)} {v_partners' : (Nat → Int32)} : (w_X10_matched D q_this q_now q_refusals q_dists q_partners w_kept w_trial w_row w_letters w_left w_steps w_times w_spliced w_piece w_balances w_prices w_hands w_hand w_dealing v_hasImage v_rows v_lettered v_stepsMany v_splicedMany v_most v_together v_z v_now v_refusals v_dists v_partners).set 4 (q_partners, .inl (D.1 100, 6, .inl v_partners')) = (w_X10_matched D q_this q_now q_refusals q_dists q_partners w_kept w_trial w_row w_letters w_left w_steps w_times w_spliced w_piece w_balances w_prices w_hands w_hand w_dealing v_hasImage v_rows v_lettered v_stepsMany v_splicedMany v_most v_together v_z v_now v_refusals v_dists v_partners') := rfl
theorem w_X10_matched_a {D : va_G} {q_this : Nat} {q_now : Nat} {q_refusals : Nat} {q_dists : Nat} {q_partners : Nat} {w_kept : Value} {w_trial : Value} {w_row : Value} {w_letters : Value} {w_left : Value} {w_steps : Value} {w_times : Value} {w_spliced : Value} {w_piece : Value} {w_balances : Value} {w_prices : Value} {w_hands : Value} {w_hand : Value} {w_dealing : Value} {v_hasImage : Int32} {v_rows : Int32} {v_lettered : Int32} {v_stepsMany : Int32} {v_splicedMany : Int32} {v_most : Int32} {v_together : Int32} {v_z : Int32} {v_now : (Nat → Int32)} {v_refusals : (Nat → Int32)} {v_dists : (Nat → Int32)} {v_partners : (Nat → Int32)} : (w_X10_matched D q_this q_now q_refusals q_dists q_partners w_kept w_trial w_row w_letters w_left w_steps w_times w_spliced w_piece w_balances w_prices w_hands w_hand w_dealing v_hasImage v_rows v_lettered v_stepsMany v_splicedMany v_most v_together v_z v_now v_refusals v_dists v_partners).map (fun q => q.1) = [q_this, q_now, q_refusals, q_dists, q_partners] := rfl
def f_X10_matched (N : Nat) (x1 : Int32) (v_now : (Nat → Int32)) (v_refusals : (Nat → Int32)) (v_dists : (Nat → Int32)) (v_partners : (Nat → Int32)) : Option (Int32 × (Nat → Int32) × (Nat → Int32) × (Nat → Int32)) :=
  (f_X10_isCorner x1).bind (fun r_isCorner_1 => (if r_isCorner_1 = 0 then (f_X10_refused (-1 : Int32) v_refusals).bind (fun r_refused_3 => some (r_refused_3.1, r_refused_3.2, v_dists, v_partners)) else (f_X10_matches N v_dists v_partners v_now).bind (fun r_matches_2 => ga x1 6 (some (r_matches_2.2.2 (Int32.toNatClampNeg x1), v_refusals, r_matches_2.2.1, r_matches_2.2.2)))))
set_option maxRecDepth 100000 in
set_option maxHeartbeats 4000000 in
theorem c_X10_matched (l : Launch) (D : va_G) (N : Nat) {q_this q_now q_refusals q_dists q_partners : Nat} {w_kept w_trial w_row w_letters w_left w_steps w_times w_spliced w_piece w_balances w_prices w_hands w_hand w_dealing : Value} {v_hasImage : Int32} {v_rows : Int32} {v_lettered : Int32} {v_stepsMany : Int32} {v_splicedMany : Int32} {v_most : Int32} {v_together : Int32} {v_z : Int32} {v_now : (Nat → Int32)} {v_refusals : (Nat → Int32)} {v_dists : (Nat → Int32)} {v_partners : (Nat → Int32)} {x1 : Int32} {o : (Int32 × (Nat → Int32) × (Nat → Int32) × (Nat → Int32))} (h : f_X10_matched N x1 v_now v_refusals v_dists v_partners = some o) : CT l D yX10_matched cX10_matched 3 (Option.some FieldType.int) 11 [.ref q_this, .int x1] (w_X10_matched D q_this q_now q_refusals q_dists q_partners w_kept w_trial w_row w_letters w_left w_steps w_times w_spliced w_piece w_balances w_prices w_hands w_hand w_dealing v_hasImage v_rows v_lettered v_stepsMany v_splicedMany v_most v_together v_z v_now v_refusals v_dists v_partners) (w_X10_matched D q_this q_now q_refusals q_dists q_partners w_kept w_trial w_row w_letters w_left w_steps w_times w_spliced w_piece w_balances w_prices w_hands w_hand w_dealing v_hasImage v_rows v_lettered v_stepsMany v_splicedMany v_most v_together v_z v_now o.2.1 o.2.2.1 o.2.2.2) (some (.int o.1)) := by
  refine CT.of mk_X10_matched (Nat.le_of_ble_eq_true rfl) (fun g hl hD C E => ?_)
  subst hl
  subst hD
  unfold f_X10_matched at h
  refine j_iload_n C dX10_matched_0 rfl ?_
  obtain ⟨r_isCorner_1, h_1, h⟩ := of_bind h
  refine j_callS1 C mk_X10_isCorner ms_X10_isCorner kw_1108 (c_X10_isCorner (gl g) (gD g) h_1) (by decide) [] hC_nil rfl (w_X10_isCorner_a.trans w_X10_isCorner_a.symm) rfl rfl (Nat.le_of_ble_eq_true rfl) dX10_matched_1 wput_nil ?_
  refine j_if_ne C h 13 dX10_matched_4 (by decide) (fun hc h => ?_) (fun hc h => ?_)
  · refine j_aload_n C dX10_matched_7 rfl ?_
    refine j_iconst C (-1) dX10_matched_8 ki_m1 ?_
    obtain ⟨r_refused_3, h_3, h⟩ := of_bind h
    refine j_callV1 C mk_X10_refused ms_X10_refused kw_1064 (c_X10_refused (gl g) (gD g) h_3) (by decide) 0 w_X10_matched_g0 rfl [0, 2] (hC_cons w_X10_matched_g0 (hC_cons w_X10_matched_g2 hC_nil)) rfl (w_X10_refused_a.trans w_X10_refused_a.symm) rfl rfl (Nat.le_of_ble_eq_true rfl) dX10_matched_9 (wput_cons w_X10_matched_s0 (wput_cons w_X10_matched_s2 wput_nil)) ?_
    have h := Option.some.inj h
    subst h
    exact j_iret C E dX10_matched_12
  · refine j_aload_n C dX10_matched_13 rfl ?_
    refine j_aload_n C dX10_matched_14 rfl ?_
    refine j_get C 0 w_X10_matched_g0 rfl inX10 0 (by decide) kw_981 rfl rfl dX10_matched_15 ?_
    obtain ⟨r_matches_2, h_2, h⟩ := of_bind h
    refine j_callV1 C mk_X10_matches ms_X10_matches kw_1280 (c_X10_matches (gl g) (gD g) N h_2) (by decide) 0 w_X10_matched_g0 rfl [0, 3, 4, 1] (hC_cons w_X10_matched_g0 (hC_cons w_X10_matched_g3 (hC_cons w_X10_matched_g4 (hC_cons w_X10_matched_g1 hC_nil)))) rfl (w_X10_matches_a.trans w_X10_matches_a.symm) rfl rfl (Nat.le_of_ble_eq_true rfl) dX10_matched_18 (wput_cons w_X10_matched_s0 (wput_cons w_X10_matched_s3 (wput_cons w_X10_matched_s4 (wput_cons w_X10_matched_s1 wput_nil)))) ?_
    refine j_istore_n C dX10_matched_21 (by decide) ?_
    refine j_aload_n C dX10_matched_22 rfl ?_
    refine j_get C 0 w_X10_matched_g0 rfl inX10 13 (by decide) kw_994 rfl rfl dX10_matched_23 ?_
    refine j_iload_n C dX10_matched_26 rfl ?_
    refine j_iaload 4 C h w_X10_matched_g4 rfl dX10_matched_27 (fun h => ?_)
    have h := Option.some.inj h
    subst h
    exact j_iret C E dX10_matched_28

def w_X10_matching (D : va_G) (q_this q_now q_dists q_partners : Nat) (w_kept w_trial w_refusals w_row w_letters w_left w_steps w_times w_spliced w_piece w_balances w_prices w_hands w_hand w_dealing : Value) (v_hasImage : Int32) (v_rows : Int32) (v_lettered : Int32) (v_stepsMany : Int32) (v_splicedMany : Int32) (v_most : Int32) (v_together : Int32) (v_z : Int32) (v_now : (Nat → Int32)) (v_dists : (Nat → Int32)) (v_partners : (Nat → Int32)) : va_W := [(q_this, .inr (9, [.ref q_now, w_kept, w_trial, .int v_hasImage, w_refusals, w_row, .int v_rows, w_letters, .int v_lettered, .ref q_dists, w_left, w_steps, .int v_stepsMany, .ref q_partners, w_times, w_spliced, .int v_splicedMany, w_piece, w_balances, w_prices, w_hands, w_hand, w_dealing, .int v_most, .int v_together, .int v_z])), (q_now, .inl (D.1 100, 50, .inl v_now)), (q_dists, .inl (D.1 100, 36, .inl v_dists)), (q_partners, .inl (D.1 100, 6, .inl v_partners))]
theorem w_X10_matching_g0 {D : va_G} {q_this : Nat} {q_now : Nat} {q_dists : Nat} {q_partners : Nat} {w_kept : Value} {w_trial : Value} {w_refusals : Value} {w_row : Value} {w_letters : Value} {w_left : Value} {w_steps : Value} {w_times : Value} {w_spliced : Value} {w_piece : Value} {w_balances : Value} {w_prices : Value} {w_hands : Value} {w_hand : Value} {w_dealing : Value} {v_hasImage : Int32} {v_rows : Int32} {v_lettered : Int32} {v_stepsMany : Int32} {v_splicedMany : Int32} {v_most : Int32} {v_together : Int32} {v_z : Int32} {v_now : (Nat → Int32)} {v_dists : (Nat → Int32)} {v_partners : (Nat → Int32)} : (w_X10_matching D q_this q_now q_dists q_partners w_kept w_trial w_refusals w_row w_letters w_left w_steps w_times w_spliced w_piece w_balances w_prices w_hands w_hand w_dealing v_hasImage v_rows v_lettered v_stepsMany v_splicedMany v_most v_together v_z v_now v_dists v_partners)[0]? = some (q_this, .inr (9, [.ref q_now, w_kept, w_trial, .int v_hasImage, w_refusals, w_row, .int v_rows, w_letters, .int v_lettered, .ref q_dists, w_left, w_steps, .int v_stepsMany, .ref q_partners, w_times, w_spliced, .int v_splicedMany, w_piece, w_balances, w_prices, w_hands, w_hand, w_dealing, .int v_most, .int v_together, .int v_z])) := rfl
theorem w_X10_matching_s0 {D : va_G} {q_this : Nat} {q_now : Nat} {q_dists : Nat} {q_partners : Nat} {w_kept : Value} {w_trial : Value} {w_refusals : Value} {w_row : Value} {w_letters : Value} {w_left : Value} {w_steps : Value} {w_times : Value} {w_spliced : Value} {w_piece : Value} {w_balances : Value} {w_prices : Value} {w_hands : Value} {w_hand : Value} {w_dealing : Value} {v_hasImage : Int32} {v_rows : Int32} {v_lettered : Int32} {v_stepsMany : Int32} {v_splicedMany : Int32} {v_most : Int32} {v_together : Int32} {v_z : Int32} {v_now : (Nat → Int32)} {v_dists : (Nat → Int32)} {v_partners : (Nat → Int32)} {v_hasImage' : Int32} {v_rows' : Int32} {v_lettered' : Int32} {v_stepsMany' : Int32} {v_splicedMany' : Int32} {v_most' : Int32} {v_together' : Int32} {v_z' : Int32} : (w_X10_matching D q_this q_now q_dists q_partners w_kept w_trial w_refusals w_row w_letters w_left w_steps w_times w_spliced w_piece w_balances w_prices w_hands w_hand w_dealing v_hasImage v_rows v_lettered v_stepsMany v_splicedMany v_most v_together v_z v_now v_dists v_partners).set 0 (q_this, .inr (9, [.ref q_now, w_kept, w_trial, .int v_hasImage', w_refusals, w_row, .int v_rows', w_letters, .int v_lettered', .ref q_dists, w_left, w_steps, .int v_stepsMany', .ref q_partners, w_times, w_spliced, .int v_splicedMany', w_piece, w_balances, w_prices, w_hands, w_hand, w_dealing, .int v_most', .int v_together', .int v_z'])) = (w_X10_matching D q_this q_now q_dists q_partners w_kept w_trial w_refusals w_row w_letters w_left w_steps w_times w_spliced w_piece w_balances w_prices w_hands w_hand w_dealing v_hasImage' v_rows' v_lettered' v_stepsMany' v_splicedMany' v_most' v_together' v_z' v_now v_dists v_partners) := rfl
theorem w_X10_matching_g1 {D : va_G} {q_this : Nat} {q_now : Nat} {q_dists : Nat} {q_partners : Nat} {w_kept : Value} {w_trial : Value} {w_refusals : Value} {w_row : Value} {w_letters : Value} {w_left : Value} {w_steps : Value} {w_times : Value} {w_spliced : Value} {w_piece : Value} {w_balances : Value} {w_prices : Value} {w_hands : Value} {w_hand : Value} {w_dealing : Value} {v_hasImage : Int32} {v_rows : Int32} {v_lettered : Int32} {v_stepsMany : Int32} {v_splicedMany : Int32} {v_most : Int32} {v_together : Int32} {v_z : Int32} {v_now : (Nat → Int32)} {v_dists : (Nat → Int32)} {v_partners : (Nat → Int32)} : (w_X10_matching D q_this q_now q_dists q_partners w_kept w_trial w_refusals w_row w_letters w_left w_steps w_times w_spliced w_piece w_balances w_prices w_hands w_hand w_dealing v_hasImage v_rows v_lettered v_stepsMany v_splicedMany v_most v_together v_z v_now v_dists v_partners)[1]? = some (q_now, .inl (D.1 100, 50, .inl v_now)) := rfl
theorem w_X10_matching_s1 {D : va_G} {q_this : Nat} {q_now : Nat} {q_dists : Nat} {q_partners : Nat} {w_kept : Value} {w_trial : Value} {w_refusals : Value} {w_row : Value} {w_letters : Value} {w_left : Value} {w_steps : Value} {w_times : Value} {w_spliced : Value} {w_piece : Value} {w_balances : Value} {w_prices : Value} {w_hands : Value} {w_hand : Value} {w_dealing : Value} {v_hasImage : Int32} {v_rows : Int32} {v_lettered : Int32} {v_stepsMany : Int32} {v_splicedMany : Int32} {v_most : Int32} {v_together : Int32} {v_z : Int32} {v_now : (Nat → Int32)} {v_dists : (Nat → Int32)} {v_partners : (Nat → Int32)} {v_now' : (Nat → Int32)} : (w_X10_matching D q_this q_now q_dists q_partners w_kept w_trial w_refusals w_row w_letters w_left w_steps w_times w_spliced w_piece w_balances w_prices w_hands w_hand w_dealing v_hasImage v_rows v_lettered v_stepsMany v_splicedMany v_most v_together v_z v_now v_dists v_partners).set 1 (q_now, .inl (D.1 100, 50, .inl v_now')) = (w_X10_matching D q_this q_now q_dists q_partners w_kept w_trial w_refusals w_row w_letters w_left w_steps w_times w_spliced w_piece w_balances w_prices w_hands w_hand w_dealing v_hasImage v_rows v_lettered v_stepsMany v_splicedMany v_most v_together v_z v_now' v_dists v_partners) := rfl
theorem w_X10_matching_g2 {D : va_G} {q_this : Nat} {q_now : Nat} {q_dists : Nat} {q_partners : Nat} {w_kept : Value} {w_trial : Value} {w_refusals : Value} {w_row : Value} {w_letters : Value} {w_left : Value} {w_steps : Value} {w_times : Value} {w_spliced : Value} {w_piece : Value} {w_balances : Value} {w_prices : Value} {w_hands : Value} {w_hand : Value} {w_dealing : Value} {v_hasImage : Int32} {v_rows : Int32} {v_lettered : Int32} {v_stepsMany : Int32} {v_splicedMany : Int32} {v_most : Int32} {v_together : Int32} {v_z : Int32} {v_now : (Nat → Int32)} {v_dists : (Nat → Int32)} {v_partners : (Nat → Int32)} : (w_X10_matching D q_this q_now q_dists q_partners w_kept w_trial w_refusals w_row w_letters w_left w_steps w_times w_spliced w_piece w_balances w_prices w_hands w_hand w_dealing v_hasImage v_rows v_lettered v_stepsMany v_splicedMany v_most v_together v_z v_now v_dists v_partners)[2]? = some (q_dists, .inl (D.1 100, 36, .inl v_dists)) := rfl
theorem w_X10_matching_s2 {D : va_G} {q_this : Nat} {q_now : Nat} {q_dists : Nat} {q_partners : Nat} {w_kept : Value} {w_trial : Value} {w_refusals : Value} {w_row : Value} {w_letters : Value} {w_left : Value} {w_steps : Value} {w_times : Value} {w_spliced : Value} {w_piece : Value} {w_balances : Value} {w_prices : Value} {w_hands : Value} {w_hand : Value} {w_dealing : Value} {v_hasImage : Int32} {v_rows : Int32} {v_lettered : Int32} {v_stepsMany : Int32} {v_splicedMany : Int32} {v_most : Int32} {v_together : Int32} {v_z : Int32} {v_now : (Nat → Int32)} {v_dists : (Nat → Int32)} {v_partners : (Nat → Int32)} {v_dists' : (Nat → Int32)} : (w_X10_matching D q_this q_now q_dists q_partners w_kept w_trial w_refusals w_row w_letters w_left w_steps w_times w_spliced w_piece w_balances w_prices w_hands w_hand w_dealing v_hasImage v_rows v_lettered v_stepsMany v_splicedMany v_most v_together v_z v_now v_dists v_partners).set 2 (q_dists, .inl (D.1 100, 36, .inl v_dists')) = (w_X10_matching D q_this q_now q_dists q_partners w_kept w_trial w_refusals w_row w_letters w_left w_steps w_times w_spliced w_piece w_balances w_prices w_hands w_hand w_dealing v_hasImage v_rows v_lettered v_stepsMany v_splicedMany v_most v_together v_z v_now v_dists' v_partners) := rfl
theorem w_X10_matching_g3 {D : va_G} {q_this : Nat} {q_now : Nat} {q_dists : Nat} {q_partners : Nat} {w_kept : Value} {w_trial : Value} {w_refusals : Value} {w_row : Value} {w_letters : Value} {w_left : Value} {w_steps : Value} {w_times : Value} {w_spliced : Value} {w_piece : Value} {w_balances : Value} {w_prices : Value} {w_hands : Value} {w_hand : Value} {w_dealing : Value} {v_hasImage : Int32} {v_rows : Int32} {v_lettered : Int32} {v_stepsMany : Int32} {v_splicedMany : Int32} {v_most : Int32} {v_together : Int32} {v_z : Int32} {v_now : (Nat → Int32)} {v_dists : (Nat → Int32)} {v_partners : (Nat → Int32)} : (w_X10_matching D q_this q_now q_dists q_partners w_kept w_trial w_refusals w_row w_letters w_left w_steps w_times w_spliced w_piece w_balances w_prices w_hands w_hand w_dealing v_hasImage v_rows v_lettered v_stepsMany v_splicedMany v_most v_together v_z v_now v_dists v_partners)[3]? = some (q_partners, .inl (D.1 100, 6, .inl v_partners)) := rfl
theorem w_X10_matching_s3 {D : va_G} {q_this : Nat} {q_now : Nat} {q_dists : Nat} {q_partners : Nat} {w_kept : Value} {w_trial : Value} {w_refusals : Value} {w_row : Value} {w_letters : Value} {w_left : Value} {w_steps : Value} {w_times : Value} {w_spliced : Value} {w_piece : Value} {w_balances : Value} {w_prices : Value} {w_hands : Value} {w_hand : Value} {w_dealing : Value} {v_hasImage : Int32} {v_rows : Int32} {v_lettered : Int32} {v_stepsMany : Int32} {v_splicedMany : Int32} {v_most : Int32} {v_together : Int32} {v_z : Int32} {v_now : (Nat → Int32)} {v_dists : (Nat → Int32)} {v_partners : (Nat → Int32)} {v_partners' : (Nat → Int32)} : (w_X10_matching D q_this q_now q_dists q_partners w_kept w_trial w_refusals w_row w_letters w_left w_steps w_times w_spliced w_piece w_balances w_prices w_hands w_hand w_dealing v_hasImage v_rows v_lettered v_stepsMany v_splicedMany v_most v_together v_z v_now v_dists v_partners).set 3 (q_partners, .inl (D.1 100, 6, .inl v_partners')) = (w_X10_matching D q_this q_now q_dists q_partners w_kept w_trial w_refusals w_row w_letters w_left w_steps w_times w_spliced w_piece w_balances w_prices w_hands w_hand w_dealing v_hasImage v_rows v_lettered v_stepsMany v_splicedMany v_most v_together v_z v_now v_dists v_partners') := rfl
theorem w_X10_matching_a {D : va_G} {q_this : Nat} {q_now : Nat} {q_dists : Nat} {q_partners : Nat} {w_kept : Value} {w_trial : Value} {w_refusals : Value} {w_row : Value} {w_letters : Value} {w_left : Value} {w_steps : Value} {w_times : Value} {w_spliced : Value} {w_piece : Value} {w_balances : Value} {w_prices : Value} {w_hands : Value} {w_hand : Value} {w_dealing : Value} {v_hasImage : Int32} {v_rows : Int32} {v_lettered : Int32} {v_stepsMany : Int32} {v_splicedMany : Int32} {v_most : Int32} {v_together : Int32} {v_z : Int32} {v_now : (Nat → Int32)} {v_dists : (Nat → Int32)} {v_partners : (Nat → Int32)} : (w_X10_matching D q_this q_now q_dists q_partners w_kept w_trial w_refusals w_row w_letters w_left w_steps w_times w_spliced w_piece w_balances w_prices w_hands w_hand w_dealing v_hasImage v_rows v_lettered v_stepsMany v_splicedMany v_most v_together v_z v_now v_dists v_partners).map (fun q => q.1) = [q_this, q_now, q_dists, q_partners] := rfl
def f_X10_matching (N : Nat) (v_now : (Nat → Int32)) (v_dists : (Nat → Int32)) (v_partners : (Nat → Int32)) : Option (Int32 × (Nat → Int32) × (Nat → Int32)) :=
  (f_X10_matches N v_dists v_partners v_now).bind (fun r_matches_1 => some (r_matches_1.1, r_matches_1.2.1, r_matches_1.2.2))
set_option maxRecDepth 100000 in
set_option maxHeartbeats 4000000 in
theorem c_X10_matching (l : Launch) (D : va_G) (N : Nat) {q_this q_now q_dists q_partners : Nat} {w_kept w_trial w_refusals w_row w_letters w_left w_steps w_times w_spliced w_piece w_balances w_prices w_hands w_hand w_dealing : Value} {v_hasImage : Int32} {v_rows : Int32} {v_lettered : Int32} {v_stepsMany : Int32} {v_splicedMany : Int32} {v_most : Int32} {v_together : Int32} {v_z : Int32} {v_now : (Nat → Int32)} {v_dists : (Nat → Int32)} {v_partners : (Nat → Int32)} {o : (Int32 × (Nat → Int32) × (Nat → Int32))} (h : f_X10_matching N v_now v_dists v_partners = some o) : CT l D yX10_matching cX10_matching 1 (Option.some FieldType.int) 11 [.ref q_this] (w_X10_matching D q_this q_now q_dists q_partners w_kept w_trial w_refusals w_row w_letters w_left w_steps w_times w_spliced w_piece w_balances w_prices w_hands w_hand w_dealing v_hasImage v_rows v_lettered v_stepsMany v_splicedMany v_most v_together v_z v_now v_dists v_partners) (w_X10_matching D q_this q_now q_dists q_partners w_kept w_trial w_refusals w_row w_letters w_left w_steps w_times w_spliced w_piece w_balances w_prices w_hands w_hand w_dealing v_hasImage v_rows v_lettered v_stepsMany v_splicedMany v_most v_together v_z v_now o.2.1 o.2.2) (some (.int o.1)) := by
  refine CT.of mk_X10_matching (Nat.le_of_ble_eq_true rfl) (fun g hl hD C E => ?_)
  subst hl
  subst hD
  unfold f_X10_matching at h
  refine j_aload_n C dX10_matching_0 rfl ?_
  refine j_aload_n C dX10_matching_1 rfl ?_
  refine j_get C 0 w_X10_matching_g0 rfl inX10 0 (by decide) kw_981 rfl rfl dX10_matching_2 ?_
  obtain ⟨r_matches_1, h_1, h⟩ := of_bind h
  refine j_callV1 C mk_X10_matches ms_X10_matches kw_1280 (c_X10_matches (gl g) (gD g) N h_1) (by decide) 0 w_X10_matching_g0 rfl [0, 2, 3, 1] (hC_cons w_X10_matching_g0 (hC_cons w_X10_matching_g2 (hC_cons w_X10_matching_g3 (hC_cons w_X10_matching_g1 hC_nil)))) rfl (w_X10_matches_a.trans w_X10_matches_a.symm) rfl rfl (Nat.le_of_ble_eq_true rfl) dX10_matching_5 (wput_cons w_X10_matching_s0 (wput_cons w_X10_matching_s2 (wput_cons w_X10_matching_s3 (wput_cons w_X10_matching_s1 wput_nil)))) ?_
  have h := Option.some.inj h
  subst h
  exact j_iret C E dX10_matching_8

def w_X10_leftAt (D : va_G) (q_this q_times q_p1 : Nat) (w_now w_kept w_trial w_refusals w_row w_letters w_dists w_left w_steps w_partners w_spliced w_piece w_balances w_prices w_hands w_hand w_dealing : Value) (v_hasImage : Int32) (v_rows : Int32) (v_lettered : Int32) (v_stepsMany : Int32) (v_splicedMany : Int32) (v_most : Int32) (v_together : Int32) (v_z : Int32) (v_times : (Nat → Int32)) (v_p1 : (Nat → Int32)) : va_W := [(q_this, .inr (9, [w_now, w_kept, w_trial, .int v_hasImage, w_refusals, w_row, .int v_rows, w_letters, .int v_lettered, w_dists, w_left, w_steps, .int v_stepsMany, w_partners, .ref q_times, w_spliced, .int v_splicedMany, w_piece, w_balances, w_prices, w_hands, w_hand, w_dealing, .int v_most, .int v_together, .int v_z])), (q_times, .inl (D.1 100, 8, .inl v_times)), (q_p1, .inl (D.1 100, 50, .inl v_p1))]
theorem w_X10_leftAt_g0 {D : va_G} {q_this : Nat} {q_times : Nat} {q_p1 : Nat} {w_now : Value} {w_kept : Value} {w_trial : Value} {w_refusals : Value} {w_row : Value} {w_letters : Value} {w_dists : Value} {w_left : Value} {w_steps : Value} {w_partners : Value} {w_spliced : Value} {w_piece : Value} {w_balances : Value} {w_prices : Value} {w_hands : Value} {w_hand : Value} {w_dealing : Value} {v_hasImage : Int32} {v_rows : Int32} {v_lettered : Int32} {v_stepsMany : Int32} {v_splicedMany : Int32} {v_most : Int32} {v_together : Int32} {v_z : Int32} {v_times : (Nat → Int32)} {v_p1 : (Nat → Int32)} : (w_X10_leftAt D q_this q_times q_p1 w_now w_kept w_trial w_refusals w_row w_letters w_dists w_left w_steps w_partners w_spliced w_piece w_balances w_prices w_hands w_hand w_dealing v_hasImage v_rows v_lettered v_stepsMany v_splicedMany v_most v_together v_z v_times v_p1)[0]? = some (q_this, .inr (9, [w_now, w_kept, w_trial, .int v_hasImage, w_refusals, w_row, .int v_rows, w_letters, .int v_lettered, w_dists, w_left, w_steps, .int v_stepsMany, w_partners, .ref q_times, w_spliced, .int v_splicedMany, w_piece, w_balances, w_prices, w_hands, w_hand, w_dealing, .int v_most, .int v_together, .int v_z])) := rfl
theorem w_X10_leftAt_s0 {D : va_G} {q_this : Nat} {q_times : Nat} {q_p1 : Nat} {w_now : Value} {w_kept : Value} {w_trial : Value} {w_refusals : Value} {w_row : Value} {w_letters : Value} {w_dists : Value} {w_left : Value} {w_steps : Value} {w_partners : Value} {w_spliced : Value} {w_piece : Value} {w_balances : Value} {w_prices : Value} {w_hands : Value} {w_hand : Value} {w_dealing : Value} {v_hasImage : Int32} {v_rows : Int32} {v_lettered : Int32} {v_stepsMany : Int32} {v_splicedMany : Int32} {v_most : Int32} {v_together : Int32} {v_z : Int32} {v_times : (Nat → Int32)} {v_p1 : (Nat → Int32)} {v_hasImage' : Int32} {v_rows' : Int32} {v_lettered' : Int32} {v_stepsMany' : Int32} {v_splicedMany' : Int32} {v_most' : Int32} {v_together' : Int32} {v_z' : Int32} : (w_X10_leftAt D q_this q_times q_p1 w_now w_kept w_trial w_refusals w_row w_letters w_dists w_left w_steps w_partners w_spliced w_piece w_balances w_prices w_hands w_hand w_dealing v_hasImage v_rows v_lettered v_stepsMany v_splicedMany v_most v_together v_z v_times v_p1).set 0 (q_this, .inr (9, [w_now, w_kept, w_trial, .int v_hasImage', w_refusals, w_row, .int v_rows', w_letters, .int v_lettered', w_dists, w_left, w_steps, .int v_stepsMany', w_partners, .ref q_times, w_spliced, .int v_splicedMany', w_piece, w_balances, w_prices, w_hands, w_hand, w_dealing, .int v_most', .int v_together', .int v_z'])) = (w_X10_leftAt D q_this q_times q_p1 w_now w_kept w_trial w_refusals w_row w_letters w_dists w_left w_steps w_partners w_spliced w_piece w_balances w_prices w_hands w_hand w_dealing v_hasImage' v_rows' v_lettered' v_stepsMany' v_splicedMany' v_most' v_together' v_z' v_times v_p1) := rfl
theorem w_X10_leftAt_g1 {D : va_G} {q_this : Nat} {q_times : Nat} {q_p1 : Nat} {w_now : Value} {w_kept : Value} {w_trial : Value} {w_refusals : Value} {w_row : Value} {w_letters : Value} {w_dists : Value} {w_left : Value} {w_steps : Value} {w_partners : Value} {w_spliced : Value} {w_piece : Value} {w_balances : Value} {w_prices : Value} {w_hands : Value} {w_hand : Value} {w_dealing : Value} {v_hasImage : Int32} {v_rows : Int32} {v_lettered : Int32} {v_stepsMany : Int32} {v_splicedMany : Int32} {v_most : Int32} {v_together : Int32} {v_z : Int32} {v_times : (Nat → Int32)} {v_p1 : (Nat → Int32)} : (w_X10_leftAt D q_this q_times q_p1 w_now w_kept w_trial w_refusals w_row w_letters w_dists w_left w_steps w_partners w_spliced w_piece w_balances w_prices w_hands w_hand w_dealing v_hasImage v_rows v_lettered v_stepsMany v_splicedMany v_most v_together v_z v_times v_p1)[1]? = some (q_times, .inl (D.1 100, 8, .inl v_times)) := rfl
theorem w_X10_leftAt_s1 {D : va_G} {q_this : Nat} {q_times : Nat} {q_p1 : Nat} {w_now : Value} {w_kept : Value} {w_trial : Value} {w_refusals : Value} {w_row : Value} {w_letters : Value} {w_dists : Value} {w_left : Value} {w_steps : Value} {w_partners : Value} {w_spliced : Value} {w_piece : Value} {w_balances : Value} {w_prices : Value} {w_hands : Value} {w_hand : Value} {w_dealing : Value} {v_hasImage : Int32} {v_rows : Int32} {v_lettered : Int32} {v_stepsMany : Int32} {v_splicedMany : Int32} {v_most : Int32} {v_together : Int32} {v_z : Int32} {v_times : (Nat → Int32)} {v_p1 : (Nat → Int32)} {v_times' : (Nat → Int32)} : (w_X10_leftAt D q_this q_times q_p1 w_now w_kept w_trial w_refusals w_row w_letters w_dists w_left w_steps w_partners w_spliced w_piece w_balances w_prices w_hands w_hand w_dealing v_hasImage v_rows v_lettered v_stepsMany v_splicedMany v_most v_together v_z v_times v_p1).set 1 (q_times, .inl (D.1 100, 8, .inl v_times')) = (w_X10_leftAt D q_this q_times q_p1 w_now w_kept w_trial w_refusals w_row w_letters w_dists w_left w_steps w_partners w_spliced w_piece w_balances w_prices w_hands w_hand w_dealing v_hasImage v_rows v_lettered v_stepsMany v_splicedMany v_most v_together v_z v_times' v_p1) := rfl
theorem w_X10_leftAt_g2 {D : va_G} {q_this : Nat} {q_times : Nat} {q_p1 : Nat} {w_now : Value} {w_kept : Value} {w_trial : Value} {w_refusals : Value} {w_row : Value} {w_letters : Value} {w_dists : Value} {w_left : Value} {w_steps : Value} {w_partners : Value} {w_spliced : Value} {w_piece : Value} {w_balances : Value} {w_prices : Value} {w_hands : Value} {w_hand : Value} {w_dealing : Value} {v_hasImage : Int32} {v_rows : Int32} {v_lettered : Int32} {v_stepsMany : Int32} {v_splicedMany : Int32} {v_most : Int32} {v_together : Int32} {v_z : Int32} {v_times : (Nat → Int32)} {v_p1 : (Nat → Int32)} : (w_X10_leftAt D q_this q_times q_p1 w_now w_kept w_trial w_refusals w_row w_letters w_dists w_left w_steps w_partners w_spliced w_piece w_balances w_prices w_hands w_hand w_dealing v_hasImage v_rows v_lettered v_stepsMany v_splicedMany v_most v_together v_z v_times v_p1)[2]? = some (q_p1, .inl (D.1 100, 50, .inl v_p1)) := rfl
theorem w_X10_leftAt_s2 {D : va_G} {q_this : Nat} {q_times : Nat} {q_p1 : Nat} {w_now : Value} {w_kept : Value} {w_trial : Value} {w_refusals : Value} {w_row : Value} {w_letters : Value} {w_dists : Value} {w_left : Value} {w_steps : Value} {w_partners : Value} {w_spliced : Value} {w_piece : Value} {w_balances : Value} {w_prices : Value} {w_hands : Value} {w_hand : Value} {w_dealing : Value} {v_hasImage : Int32} {v_rows : Int32} {v_lettered : Int32} {v_stepsMany : Int32} {v_splicedMany : Int32} {v_most : Int32} {v_together : Int32} {v_z : Int32} {v_times : (Nat → Int32)} {v_p1 : (Nat → Int32)} {v_p1' : (Nat → Int32)} : (w_X10_leftAt D q_this q_times q_p1 w_now w_kept w_trial w_refusals w_row w_letters w_dists w_left w_steps w_partners w_spliced w_piece w_balances w_prices w_hands w_hand w_dealing v_hasImage v_rows v_lettered v_stepsMany v_splicedMany v_most v_together v_z v_times v_p1).set 2 (q_p1, .inl (D.1 100, 50, .inl v_p1')) = (w_X10_leftAt D q_this q_times q_p1 w_now w_kept w_trial w_refusals w_row w_letters w_dists w_left w_steps w_partners w_spliced w_piece w_balances w_prices w_hands w_hand w_dealing v_hasImage v_rows v_lettered v_stepsMany v_splicedMany v_most v_together v_z v_times v_p1') := rfl
theorem w_X10_leftAt_a {D : va_G} {q_this : Nat} {q_times : Nat} {q_p1 : Nat} {w_now : Value} {w_kept : Value} {w_trial : Value} {w_refusals : Value} {w_row : Value} {w_letters : Value} {w_dists : Value} {w_left : Value} {w_steps : Value} {w_partners : Value} {w_spliced : Value} {w_piece : Value} {w_balances : Value} {w_prices : Value} {w_hands : Value} {w_hand : Value} {w_dealing : Value} {v_hasImage : Int32} {v_rows : Int32} {v_lettered : Int32} {v_stepsMany : Int32} {v_splicedMany : Int32} {v_most : Int32} {v_together : Int32} {v_z : Int32} {v_times : (Nat → Int32)} {v_p1 : (Nat → Int32)} : (w_X10_leftAt D q_this q_times q_p1 w_now w_kept w_trial w_refusals w_row w_letters w_dists w_left w_steps w_partners w_spliced w_piece w_balances w_prices w_hands w_hand w_dealing v_hasImage v_rows v_lettered v_stepsMany v_splicedMany v_most v_together v_z v_times v_p1).map (fun q => q.1) = [q_this, q_times, q_p1] := rfl
def f_X10_leftAt_b2 (v_p1 : (Nat → Int32)) (x3_2 : Int32) (v_times : (Nat → Int32)) (x2 : Int32) : Option (Int32 ⊕ (Unit ⊕ Int32)) :=
  ga (49 : Int32) 50 ((if (v_p1 (Int32.toNatClampNeg (49 : Int32))) ≤ x3_2 then some (.inr (.inl ())) else ga x3_2 8 ((if (v_times (Int32.toNatClampNeg x3_2)) ≤ 0 then some (.inl (x3_2 + (1 : Int32))) else ga ((0 : Int32) + x3_2) 50 ((if (v_p1 (Int32.toNatClampNeg ((0 : Int32) + x3_2))) = x2 then some (.inr (.inr x3_2)) else ga ((8 : Int32) + x3_2) 50 ((if (v_p1 (Int32.toNatClampNeg ((8 : Int32) + x3_2))) = x2 then some (.inr (.inr x3_2)) else some (.inl (x3_2 + (1 : Int32)))))))))))
def f_X10_leftAt (N : Nat) (x2 : Int32) (v_times : (Nat → Int32)) (v_p1 : (Nat → Int32)) : Option Int32 :=
  (lp (fun s_2 => f_X10_leftAt_b2 v_p1 s_2 v_times x2) N ((0 : Int32))).bind (fun e_2 => match e_2 with | .inl x_2 => some (-9 : Int32) | .inr o_2 => some o_2)
set_option maxRecDepth 100000 in
set_option maxHeartbeats 4000000 in
theorem c_X10_leftAt (l : Launch) (D : va_G) (N : Nat) {q_this q_times q_p1 : Nat} {w_now w_kept w_trial w_refusals w_row w_letters w_dists w_left w_steps w_partners w_spliced w_piece w_balances w_prices w_hands w_hand w_dealing : Value} {v_hasImage : Int32} {v_rows : Int32} {v_lettered : Int32} {v_stepsMany : Int32} {v_splicedMany : Int32} {v_most : Int32} {v_together : Int32} {v_z : Int32} {v_times : (Nat → Int32)} {v_p1 : (Nat → Int32)} {x2 : Int32} {o : Int32} (h : f_X10_leftAt N x2 v_times v_p1 = some o) : CT l D yX10_leftAt cX10_leftAt 4 (Option.some FieldType.int) 0 [.ref q_this, .ref q_p1, .int x2] (w_X10_leftAt D q_this q_times q_p1 w_now w_kept w_trial w_refusals w_row w_letters w_dists w_left w_steps w_partners w_spliced w_piece w_balances w_prices w_hands w_hand w_dealing v_hasImage v_rows v_lettered v_stepsMany v_splicedMany v_most v_together v_z v_times v_p1) (w_X10_leftAt D q_this q_times q_p1 w_now w_kept w_trial w_refusals w_row w_letters w_dists w_left w_steps w_partners w_spliced w_piece w_balances w_prices w_hands w_hand w_dealing v_hasImage v_rows v_lettered v_stepsMany v_splicedMany v_most v_together v_z v_times v_p1) (some (.int o)) := by
  refine CT.of mk_X10_leftAt (Nat.le_of_ble_eq_true rfl) (fun g hl hD C E => ?_)
  subst hl
  subst hD
  unfold f_X10_leftAt at h
  refine j_iconst C (0) dX10_leftAt_0 ki_0 ?_
  refine j_istore_n C dX10_leftAt_1 (by decide) ?_
  obtain ⟨e_2, hl_2, h⟩ := of_bind h
  have hR_2 : ∀ o9, Sum.inr o9 = e_2 → some o9 = some o := by
    intro o9 ho9
    rw [← ho9] at h
    exact h
  have ha_2 : ∀ x_2, Sum.inl x_2 = e_2 → J g (w_X10_leftAt (gD g) q_this q_times q_p1 w_now w_kept w_trial w_refusals w_row w_letters w_dists w_left w_steps w_partners w_spliced w_piece w_balances w_prices w_hands w_hand w_dealing v_hasImage v_rows v_lettered v_stepsMany v_splicedMany v_most v_together v_z v_times v_p1) [] 46 [] := by
    intro x_2 hx9
    rw [← hx9] at h
    dsimp only at h
    refine j_bipush C (-9) dX10_leftAt_46 kb_m9 ?_
    have h := Option.some.inj h
    subst h
    exact j_iret C E dX10_leftAt_48
  refine j_lv (lv' := [(0, .ref q_this), (1, .ref q_p1), (2, .int (x2)), (3, .int ((0 : Int32)))]) rfl ?_
  refine lp_ind hl_2 (fun s_2 => J g (w_X10_leftAt (gD g) q_this q_times q_p1 w_now w_kept w_trial w_refusals w_row w_letters w_dists w_left w_steps w_partners w_spliced w_piece w_balances w_prices w_hands w_hand w_dealing v_hasImage v_rows v_lettered v_stepsMany v_splicedMany v_most v_together v_z v_times v_p1) [(0, .ref q_this), (1, .ref q_p1), (2, .int (x2)), (3, .int (s_2))] 2 []) (fun s_2 r_2 h hc_2 hx_2 => ?_)
  unfold f_X10_leftAt_b2 at h
  refine j_iload_n C dX10_leftAt_2 rfl ?_
  refine j_aload_n C dX10_leftAt_3 rfl ?_
  refine j_bipush C (49) dX10_leftAt_4 kb_49 ?_
  refine j_iaload 2 C h w_X10_leftAt_g2 rfl dX10_leftAt_6 (fun h => ?_)
  refine j_icmp_ge C h 46 dX10_leftAt_7 (by decide) (fun hc h => ?_) (fun hc h => ?_)
  · have h := Option.some.inj h
    subst h
    have hx9 := hx_2 _ rfl
    have ha9 := ha_2 _ hx9
    exact j_lw ha9 rfl
  · refine j_aload_n C dX10_leftAt_10 rfl ?_
    refine j_get C 0 w_X10_leftAt_g0 rfl inX10 14 (by decide) kw_995 rfl rfl dX10_leftAt_11 ?_
    refine j_iload_n C dX10_leftAt_14 rfl ?_
    refine j_iaload 1 C h w_X10_leftAt_g1 rfl dX10_leftAt_15 (fun h => ?_)
    refine j_if_le C h 40 dX10_leftAt_16 (by decide) (fun hc h => ?_) (fun hc h => ?_)
    · refine j_inc C (1) dX10_leftAt_40 rfl ki_1 (by decide) ?_
      refine j_goto C 2 dX10_leftAt_43 (by decide) ?_
      have h := Option.some.inj h
      subst h
      have hc9 := hc_2 _ rfl
      exact j_lw hc9 rfl
    · refine j_aload_n C dX10_leftAt_19 rfl ?_
      refine j_iconst C (0) dX10_leftAt_20 ki_0 ?_
      refine j_iload_n C dX10_leftAt_21 rfl ?_
      refine j_iadd C dX10_leftAt_22 ?_
      refine j_iaload 2 C h w_X10_leftAt_g2 rfl dX10_leftAt_23 (fun h => ?_)
      refine j_iload_n C dX10_leftAt_24 rfl ?_
      refine j_icmp_eq C h 38 dX10_leftAt_25 (by decide) (fun hc h => ?_) (fun hc h => ?_)
      · refine j_iload_n C dX10_leftAt_38 rfl ?_
        have h := Option.some.inj h
        subst h
        have h := hR_2 _ (hx_2 _ rfl)
        have h := Option.some.inj h
        subst h
        exact j_iret C E dX10_leftAt_39
      · refine j_aload_n C dX10_leftAt_28 rfl ?_
        refine j_bipush C (8) dX10_leftAt_29 kb_8 ?_
        refine j_iload_n C dX10_leftAt_31 rfl ?_
        refine j_iadd C dX10_leftAt_32 ?_
        refine j_iaload 2 C h w_X10_leftAt_g2 rfl dX10_leftAt_33 (fun h => ?_)
        refine j_iload_n C dX10_leftAt_34 rfl ?_
        refine j_icmp_ne C h 40 dX10_leftAt_35 (by decide) (fun hc h => ?_) (fun hc h => ?_)
        · refine j_iload_n C dX10_leftAt_38 rfl ?_
          have h := Option.some.inj h
          subst h
          have h := hR_2 _ (hx_2 _ rfl)
          have h := Option.some.inj h
          subst h
          exact j_iret C E dX10_leftAt_39
        · refine j_inc C (1) dX10_leftAt_40 rfl ki_1 (by decide) ?_
          refine j_goto C 2 dX10_leftAt_43 (by decide) ?_
          have h := Option.some.inj h
          subst h
          have hc9 := hc_2 _ rfl
          exact j_lw hc9 rfl

def w_X10_putsIn (D : va_G) (q_this q_times q_spliced q_piece q_p1 : Nat) (w_now w_kept w_trial w_refusals w_row w_letters w_dists w_left w_steps w_partners w_balances w_prices w_hands w_hand w_dealing : Value) (v_hasImage : Int32) (v_rows : Int32) (v_lettered : Int32) (v_stepsMany : Int32) (v_splicedMany : Int32) (v_most : Int32) (v_together : Int32) (v_z : Int32) (v_times : (Nat → Int32)) (v_spliced : (Nat → Int32)) (v_piece : (Nat → Int32)) (v_p1 : (Nat → Int32)) : va_W := [(q_this, .inr (9, [w_now, w_kept, w_trial, .int v_hasImage, w_refusals, w_row, .int v_rows, w_letters, .int v_lettered, w_dists, w_left, w_steps, .int v_stepsMany, w_partners, .ref q_times, .ref q_spliced, .int v_splicedMany, .ref q_piece, w_balances, w_prices, w_hands, w_hand, w_dealing, .int v_most, .int v_together, .int v_z])), (q_times, .inl (D.1 100, 8, .inl v_times)), (q_spliced, .inl (D.1 100, 26, .inl v_spliced)), (q_piece, .inl (D.1 100, 26, .inl v_piece)), (q_p1, .inl (D.1 100, 50, .inl v_p1))]
theorem w_X10_putsIn_g0 {D : va_G} {q_this : Nat} {q_times : Nat} {q_spliced : Nat} {q_piece : Nat} {q_p1 : Nat} {w_now : Value} {w_kept : Value} {w_trial : Value} {w_refusals : Value} {w_row : Value} {w_letters : Value} {w_dists : Value} {w_left : Value} {w_steps : Value} {w_partners : Value} {w_balances : Value} {w_prices : Value} {w_hands : Value} {w_hand : Value} {w_dealing : Value} {v_hasImage : Int32} {v_rows : Int32} {v_lettered : Int32} {v_stepsMany : Int32} {v_splicedMany : Int32} {v_most : Int32} {v_together : Int32} {v_z : Int32} {v_times : (Nat → Int32)} {v_spliced : (Nat → Int32)} {v_piece : (Nat → Int32)} {v_p1 : (Nat → Int32)} : (w_X10_putsIn D q_this q_times q_spliced q_piece q_p1 w_now w_kept w_trial w_refusals w_row w_letters w_dists w_left w_steps w_partners w_balances w_prices w_hands w_hand w_dealing v_hasImage v_rows v_lettered v_stepsMany v_splicedMany v_most v_together v_z v_times v_spliced v_piece v_p1)[0]? = some (q_this, .inr (9, [w_now, w_kept, w_trial, .int v_hasImage, w_refusals, w_row, .int v_rows, w_letters, .int v_lettered, w_dists, w_left, w_steps, .int v_stepsMany, w_partners, .ref q_times, .ref q_spliced, .int v_splicedMany, .ref q_piece, w_balances, w_prices, w_hands, w_hand, w_dealing, .int v_most, .int v_together, .int v_z])) := rfl
theorem w_X10_putsIn_s0 {D : va_G} {q_this : Nat} {q_times : Nat} {q_spliced : Nat} {q_piece : Nat} {q_p1 : Nat} {w_now : Value} {w_kept : Value} {w_trial : Value} {w_refusals : Value} {w_row : Value} {w_letters : Value} {w_dists : Value} {w_left : Value} {w_steps : Value} {w_partners : Value} {w_balances : Value} {w_prices : Value} {w_hands : Value} {w_hand : Value} {w_dealing : Value} {v_hasImage : Int32} {v_rows : Int32} {v_lettered : Int32} {v_stepsMany : Int32} {v_splicedMany : Int32} {v_most : Int32} {v_together : Int32} {v_z : Int32} {v_times : (Nat → Int32)} {v_spliced : (Nat → Int32)} {v_piece : (Nat → Int32)} {v_p1 : (Nat → Int32)} {v_hasImage' : Int32} {v_rows' : Int32} {v_lettered' : Int32} {v_stepsMany' : Int32} {v_splicedMany' : Int32} {v_most' : Int32} {v_together' : Int32} {v_z' : Int32} : (w_X10_putsIn D q_this q_times q_spliced q_piece q_p1 w_now w_kept w_trial w_refusals w_row w_letters w_dists w_left w_steps w_partners w_balances w_prices w_hands w_hand w_dealing v_hasImage v_rows v_lettered v_stepsMany v_splicedMany v_most v_together v_z v_times v_spliced v_piece v_p1).set 0 (q_this, .inr (9, [w_now, w_kept, w_trial, .int v_hasImage', w_refusals, w_row, .int v_rows', w_letters, .int v_lettered', w_dists, w_left, w_steps, .int v_stepsMany', w_partners, .ref q_times, .ref q_spliced, .int v_splicedMany', .ref q_piece, w_balances, w_prices, w_hands, w_hand, w_dealing, .int v_most', .int v_together', .int v_z'])) = (w_X10_putsIn D q_this q_times q_spliced q_piece q_p1 w_now w_kept w_trial w_refusals w_row w_letters w_dists w_left w_steps w_partners w_balances w_prices w_hands w_hand w_dealing v_hasImage' v_rows' v_lettered' v_stepsMany' v_splicedMany' v_most' v_together' v_z' v_times v_spliced v_piece v_p1) := rfl
theorem w_X10_putsIn_g1 {D : va_G} {q_this : Nat} {q_times : Nat} {q_spliced : Nat} {q_piece : Nat} {q_p1 : Nat} {w_now : Value} {w_kept : Value} {w_trial : Value} {w_refusals : Value} {w_row : Value} {w_letters : Value} {w_dists : Value} {w_left : Value} {w_steps : Value} {w_partners : Value} {w_balances : Value} {w_prices : Value} {w_hands : Value} {w_hand : Value} {w_dealing : Value} {v_hasImage : Int32} {v_rows : Int32} {v_lettered : Int32} {v_stepsMany : Int32} {v_splicedMany : Int32} {v_most : Int32} {v_together : Int32} {v_z : Int32} {v_times : (Nat → Int32)} {v_spliced : (Nat → Int32)} {v_piece : (Nat → Int32)} {v_p1 : (Nat → Int32)} : (w_X10_putsIn D q_this q_times q_spliced q_piece q_p1 w_now w_kept w_trial w_refusals w_row w_letters w_dists w_left w_steps w_partners w_balances w_prices w_hands w_hand w_dealing v_hasImage v_rows v_lettered v_stepsMany v_splicedMany v_most v_together v_z v_times v_spliced v_piece v_p1)[1]? = some (q_times, .inl (D.1 100, 8, .inl v_times)) := rfl
theorem w_X10_putsIn_s1 {D : va_G} {q_this : Nat} {q_times : Nat} {q_spliced : Nat} {q_piece : Nat} {q_p1 : Nat} {w_now : Value} {w_kept : Value} {w_trial : Value} {w_refusals : Value} {w_row : Value} {w_letters : Value} {w_dists : Value} {w_left : Value} {w_steps : Value} {w_partners : Value} {w_balances : Value} {w_prices : Value} {w_hands : Value} {w_hand : Value} {w_dealing : Value} {v_hasImage : Int32} {v_rows : Int32} {v_lettered : Int32} {v_stepsMany : Int32} {v_splicedMany : Int32} {v_most : Int32} {v_together : Int32} {v_z : Int32} {v_times : (Nat → Int32)} {v_spliced : (Nat → Int32)} {v_piece : (Nat → Int32)} {v_p1 : (Nat → Int32)} {v_times' : (Nat → Int32)} : (w_X10_putsIn D q_this q_times q_spliced q_piece q_p1 w_now w_kept w_trial w_refusals w_row w_letters w_dists w_left w_steps w_partners w_balances w_prices w_hands w_hand w_dealing v_hasImage v_rows v_lettered v_stepsMany v_splicedMany v_most v_together v_z v_times v_spliced v_piece v_p1).set 1 (q_times, .inl (D.1 100, 8, .inl v_times')) = (w_X10_putsIn D q_this q_times q_spliced q_piece q_p1 w_now w_kept w_trial w_refusals w_row w_letters w_dists w_left w_steps w_partners w_balances w_prices w_hands w_hand w_dealing v_hasImage v_rows v_lettered v_stepsMany v_splicedMany v_most v_together v_z v_times' v_spliced v_piece v_p1) := rfl
theorem w_X10_putsIn_g2 {D : va_G} {q_this : Nat} {q_times : Nat} {q_spliced : Nat} {q_piece : Nat} {q_p1 : Nat} {w_now : Value} {w_kept : Value} {w_trial : Value} {w_refusals : Value} {w_row : Value} {w_letters : Value} {w_dists : Value} {w_left : Value} {w_steps : Value} {w_partners : Value} {w_balances : Value} {w_prices : Value} {w_hands : Value} {w_hand : Value} {w_dealing : Value} {v_hasImage : Int32} {v_rows : Int32} {v_lettered : Int32} {v_stepsMany : Int32} {v_splicedMany : Int32} {v_most : Int32} {v_together : Int32} {v_z : Int32} {v_times : (Nat → Int32)} {v_spliced : (Nat → Int32)} {v_piece : (Nat → Int32)} {v_p1 : (Nat → Int32)} : (w_X10_putsIn D q_this q_times q_spliced q_piece q_p1 w_now w_kept w_trial w_refusals w_row w_letters w_dists w_left w_steps w_partners w_balances w_prices w_hands w_hand w_dealing v_hasImage v_rows v_lettered v_stepsMany v_splicedMany v_most v_together v_z v_times v_spliced v_piece v_p1)[2]? = some (q_spliced, .inl (D.1 100, 26, .inl v_spliced)) := rfl
theorem w_X10_putsIn_s2 {D : va_G} {q_this : Nat} {q_times : Nat} {q_spliced : Nat} {q_piece : Nat} {q_p1 : Nat} {w_now : Value} {w_kept : Value} {w_trial : Value} {w_refusals : Value} {w_row : Value} {w_letters : Value} {w_dists : Value} {w_left : Value} {w_steps : Value} {w_partners : Value} {w_balances : Value} {w_prices : Value} {w_hands : Value} {w_hand : Value} {w_dealing : Value} {v_hasImage : Int32} {v_rows : Int32} {v_lettered : Int32} {v_stepsMany : Int32} {v_splicedMany : Int32} {v_most : Int32} {v_together : Int32} {v_z : Int32} {v_times : (Nat → Int32)} {v_spliced : (Nat → Int32)} {v_piece : (Nat → Int32)} {v_p1 : (Nat → Int32)} {v_spliced' : (Nat → Int32)} : (w_X10_putsIn D q_this q_times q_spliced q_piece q_p1 w_now w_kept w_trial w_refusals w_row w_letters w_dists w_left w_steps w_partners w_balances w_prices w_hands w_hand w_dealing v_hasImage v_rows v_lettered v_stepsMany v_splicedMany v_most v_together v_z v_times v_spliced v_piece v_p1).set 2 (q_spliced, .inl (D.1 100, 26, .inl v_spliced')) = (w_X10_putsIn D q_this q_times q_spliced q_piece q_p1 w_now w_kept w_trial w_refusals w_row w_letters w_dists w_left w_steps w_partners w_balances w_prices w_hands w_hand w_dealing v_hasImage v_rows v_lettered v_stepsMany v_splicedMany v_most v_together v_z v_times v_spliced' v_piece v_p1) := rfl
theorem w_X10_putsIn_g3 {D : va_G} {q_this : Nat} {q_times : Nat} {q_spliced : Nat} {q_piece : Nat} {q_p1 : Nat} {w_now : Value} {w_kept : Value} {w_trial : Value} {w_refusals : Value} {w_row : Value} {w_letters : Value} {w_dists : Value} {w_left : Value} {w_steps : Value} {w_partners : Value} {w_balances : Value} {w_prices : Value} {w_hands : Value} {w_hand : Value} {w_dealing : Value} {v_hasImage : Int32} {v_rows : Int32} {v_lettered : Int32} {v_stepsMany : Int32} {v_splicedMany : Int32} {v_most : Int32} {v_together : Int32} {v_z : Int32} {v_times : (Nat → Int32)} {v_spliced : (Nat → Int32)} {v_piece : (Nat → Int32)} {v_p1 : (Nat → Int32)} : (w_X10_putsIn D q_this q_times q_spliced q_piece q_p1 w_now w_kept w_trial w_refusals w_row w_letters w_dists w_left w_steps w_partners w_balances w_prices w_hands w_hand w_dealing v_hasImage v_rows v_lettered v_stepsMany v_splicedMany v_most v_together v_z v_times v_spliced v_piece v_p1)[3]? = some (q_piece, .inl (D.1 100, 26, .inl v_piece)) := rfl
theorem w_X10_putsIn_s3 {D : va_G} {q_this : Nat} {q_times : Nat} {q_spliced : Nat} {q_piece : Nat} {q_p1 : Nat} {w_now : Value} {w_kept : Value} {w_trial : Value} {w_refusals : Value} {w_row : Value} {w_letters : Value} {w_dists : Value} {w_left : Value} {w_steps : Value} {w_partners : Value} {w_balances : Value} {w_prices : Value} {w_hands : Value} {w_hand : Value} {w_dealing : Value} {v_hasImage : Int32} {v_rows : Int32} {v_lettered : Int32} {v_stepsMany : Int32} {v_splicedMany : Int32} {v_most : Int32} {v_together : Int32} {v_z : Int32} {v_times : (Nat → Int32)} {v_spliced : (Nat → Int32)} {v_piece : (Nat → Int32)} {v_p1 : (Nat → Int32)} {v_piece' : (Nat → Int32)} : (w_X10_putsIn D q_this q_times q_spliced q_piece q_p1 w_now w_kept w_trial w_refusals w_row w_letters w_dists w_left w_steps w_partners w_balances w_prices w_hands w_hand w_dealing v_hasImage v_rows v_lettered v_stepsMany v_splicedMany v_most v_together v_z v_times v_spliced v_piece v_p1).set 3 (q_piece, .inl (D.1 100, 26, .inl v_piece')) = (w_X10_putsIn D q_this q_times q_spliced q_piece q_p1 w_now w_kept w_trial w_refusals w_row w_letters w_dists w_left w_steps w_partners w_balances w_prices w_hands w_hand w_dealing v_hasImage v_rows v_lettered v_stepsMany v_splicedMany v_most v_together v_z v_times v_spliced v_piece' v_p1) := rfl
theorem w_X10_putsIn_g4 {D : va_G} {q_this : Nat} {q_times : Nat} {q_spliced : Nat} {q_piece : Nat} {q_p1 : Nat} {w_now : Value} {w_kept : Value} {w_trial : Value} {w_refusals : Value} {w_row : Value} {w_letters : Value} {w_dists : Value} {w_left : Value} {w_steps : Value} {w_partners : Value} {w_balances : Value} {w_prices : Value} {w_hands : Value} {w_hand : Value} {w_dealing : Value} {v_hasImage : Int32} {v_rows : Int32} {v_lettered : Int32} {v_stepsMany : Int32} {v_splicedMany : Int32} {v_most : Int32} {v_together : Int32} {v_z : Int32} {v_times : (Nat → Int32)} {v_spliced : (Nat → Int32)} {v_piece : (Nat → Int32)} {v_p1 : (Nat → Int32)} : (w_X10_putsIn D q_this q_times q_spliced q_piece q_p1 w_now w_kept w_trial w_refusals w_row w_letters w_dists w_left w_steps w_partners w_balances w_prices w_hands w_hand w_dealing v_hasImage v_rows v_lettered v_stepsMany v_splicedMany v_most v_together v_z v_times v_spliced v_piece v_p1)[4]? = some (q_p1, .inl (D.1 100, 50, .inl v_p1)) := rfl
theorem w_X10_putsIn_s4 {D : va_G} {q_this : Nat} {q_times : Nat} {q_spliced : Nat} {q_piece : Nat} {q_p1 : Nat} {w_now : Value} {w_kept : Value} {w_trial : Value} {w_refusals : Value} {w_row : Value} {w_letters : Value} {w_dists : Value} {w_left : Value} {w_steps : Value} {w_partners : Value} {w_balances : Value} {w_prices : Value} {w_hands : Value} {w_hand : Value} {w_dealing : Value} {v_hasImage : Int32} {v_rows : Int32} {v_lettered : Int32} {v_stepsMany : Int32} {v_splicedMany : Int32} {v_most : Int32} {v_together : Int32} {v_z : Int32} {v_times : (Nat → Int32)} {v_spliced : (Nat → Int32)} {v_piece : (Nat → Int32)} {v_p1 : (Nat → Int32)} {v_p1' : (Nat → Int32)} : (w_X10_putsIn D q_this q_times q_spliced q_piece q_p1 w_now w_kept w_trial w_refusals w_row w_letters w_dists w_left w_steps w_partners w_balances w_prices w_hands w_hand w_dealing v_hasImage v_rows v_lettered v_stepsMany v_splicedMany v_most v_together v_z v_times v_spliced v_piece v_p1).set 4 (q_p1, .inl (D.1 100, 50, .inl v_p1')) = (w_X10_putsIn D q_this q_times q_spliced q_piece q_p1 w_now w_kept w_trial w_refusals w_row w_letters w_dists w_left w_steps w_partners w_balances w_prices w_hands w_hand w_dealing v_hasImage v_rows v_lettered v_stepsMany v_splicedMany v_most v_together v_z v_times v_spliced v_piece v_p1') := rfl
theorem w_X10_putsIn_a {D : va_G} {q_this : Nat} {q_times : Nat} {q_spliced : Nat} {q_piece : Nat} {q_p1 : Nat} {w_now : Value} {w_kept : Value} {w_trial : Value} {w_refusals : Value} {w_row : Value} {w_letters : Value} {w_dists : Value} {w_left : Value} {w_steps : Value} {w_partners : Value} {w_balances : Value} {w_prices : Value} {w_hands : Value} {w_hand : Value} {w_dealing : Value} {v_hasImage : Int32} {v_rows : Int32} {v_lettered : Int32} {v_stepsMany : Int32} {v_splicedMany : Int32} {v_most : Int32} {v_together : Int32} {v_z : Int32} {v_times : (Nat → Int32)} {v_spliced : (Nat → Int32)} {v_piece : (Nat → Int32)} {v_p1 : (Nat → Int32)} : (w_X10_putsIn D q_this q_times q_spliced q_piece q_p1 w_now w_kept w_trial w_refusals w_row w_letters w_dists w_left w_steps w_partners w_balances w_prices w_hands w_hand w_dealing v_hasImage v_rows v_lettered v_stepsMany v_splicedMany v_most v_together v_z v_times v_spliced v_piece v_p1).map (fun q => q.1) = [q_this, q_times, q_spliced, q_piece, q_p1] := rfl
def f_X10_putsIn_b19 (N : Nat) (x5_19 : Int32) (x3_19 : Int32) (v_times_19 : (Nat → Int32)) (v_piece_19 : (Nat → Int32)) (v_p1 : (Nat → Int32)) (x4_19 : Int32) : Option ((Int32 × Int32 × Int32 × (Nat → Int32) × (Nat → Int32)) ⊕ (Int32 × (Nat → Int32) × (Nat → Int32))) :=
  (if x5_19 < 0 then some (.inr (x3_19, v_times_19, v_piece_19)) else ga x5_19 8 (ga x5_19 8 (ga ((0 : Int32) + x5_19) 50 (ga ((8 : Int32) + x5_19) 50 (ga x3_19 26 ((f_X10_leftAt N (((v_p1 (Int32.toNatClampNeg ((0 : Int32) + x5_19))) + (v_p1 (Int32.toNatClampNeg ((8 : Int32) + x5_19)))) - x4_19) (upd v_times_19 (Int32.toNatClampNeg x5_19) ((v_times_19 (Int32.toNatClampNeg x5_19)) - (1 : Int32))) v_p1).bind (fun r_leftAt_2 => some (.inl (x3_19 + (1 : Int32), ((v_p1 (Int32.toNatClampNeg ((0 : Int32) + x5_19))) + (v_p1 (Int32.toNatClampNeg ((8 : Int32) + x5_19)))) - x4_19, r_leftAt_2, upd v_times_19 (Int32.toNatClampNeg x5_19) ((v_times_19 (Int32.toNatClampNeg x5_19)) - (1 : Int32)), upd v_piece_19 (Int32.toNatClampNeg x3_19) (((v_p1 (Int32.toNatClampNeg ((0 : Int32) + x5_19))) + (v_p1 (Int32.toNatClampNeg ((8 : Int32) + x5_19)))) - x4_19))))))))))
def f_X10_putsIn_b85 (x6_85 : Int32) (x2 : Int32) (v_spliced_85 : (Nat → Int32)) (e_19_0 : Int32) : Option ((Int32 × (Nat → Int32)) ⊕ (Nat → Int32)) :=
  (if x6_85 ≤ x2 then some (.inr v_spliced_85) else ga x6_85 26 (ga (x6_85 + e_19_0) 26 (some (.inl (x6_85 + (-1 : Int32), upd v_spliced_85 (Int32.toNatClampNeg (x6_85 + e_19_0)) (v_spliced_85 (Int32.toNatClampNeg x6_85)))))))
def f_X10_putsIn_b116 (e_19_0 : Int32) (x6_116 : Int32) (v_spliced_116 : (Nat → Int32)) (x2 : Int32) (e_19_2 : (Nat → Int32)) : Option ((Int32 × (Nat → Int32)) ⊕ (Nat → Int32)) :=
  (if e_19_0 ≤ x6_116 then some (.inr v_spliced_116) else ga x6_116 26 (ga ((x2 + (1 : Int32)) + x6_116) 26 (some (.inl (x6_116 + (1 : Int32), upd v_spliced_116 (Int32.toNatClampNeg ((x2 + (1 : Int32)) + x6_116)) (e_19_2 (Int32.toNatClampNeg x6_116)))))))
def f_X10_putsIn (N : Nat) (x2 : Int32) (v_splicedMany : Int32) (v_times : (Nat → Int32)) (v_spliced : (Nat → Int32)) (v_piece : (Nat → Int32)) (v_p1 : (Nat → Int32)) : Option (Int32 × (Nat → Int32) × (Nat → Int32) × (Nat → Int32)) :=
  ga x2 26 ((f_X10_leftAt N (v_spliced (Int32.toNatClampNeg x2)) v_times v_p1).bind (fun r_leftAt_1 => (lp (fun s_19 => f_X10_putsIn_b19 N s_19.2.2.1 s_19.1 s_19.2.2.2.1 s_19.2.2.2.2 v_p1 s_19.2.1) N ((0 : Int32), v_spliced (Int32.toNatClampNeg x2), r_leftAt_1, v_times, v_piece)).bind (fun e_19 => (lp (fun s_85 => f_X10_putsIn_b85 s_85.1 x2 s_85.2 e_19.1) N (v_splicedMany - (1 : Int32), v_spliced)).bind (fun e_85 => (lp (fun s_116 => f_X10_putsIn_b116 e_19.1 s_116.1 s_116.2 x2 e_19.2.2) N ((0 : Int32), e_85)).bind (fun e_116 => some (v_splicedMany + e_19.1, e_19.2.1, e_116, e_19.2.2))))))
set_option maxRecDepth 100000 in
set_option maxHeartbeats 4000000 in
theorem c_X10_putsIn (l : Launch) (D : va_G) (N : Nat) {q_this q_times q_spliced q_piece q_p1 : Nat} {w_now w_kept w_trial w_refusals w_row w_letters w_dists w_left w_steps w_partners w_balances w_prices w_hands w_hand w_dealing : Value} {v_hasImage : Int32} {v_rows : Int32} {v_lettered : Int32} {v_stepsMany : Int32} {v_splicedMany : Int32} {v_most : Int32} {v_together : Int32} {v_z : Int32} {v_times : (Nat → Int32)} {v_spliced : (Nat → Int32)} {v_piece : (Nat → Int32)} {v_p1 : (Nat → Int32)} {x2 : Int32} {o : (Int32 × (Nat → Int32) × (Nat → Int32) × (Nat → Int32))} (h : f_X10_putsIn N x2 v_splicedMany v_times v_spliced v_piece v_p1 = some o) : CT l D yX10_putsIn cX10_putsIn 7 (Option.none : Option FieldType) 1 [.ref q_this, .ref q_p1, .int x2] (w_X10_putsIn D q_this q_times q_spliced q_piece q_p1 w_now w_kept w_trial w_refusals w_row w_letters w_dists w_left w_steps w_partners w_balances w_prices w_hands w_hand w_dealing v_hasImage v_rows v_lettered v_stepsMany v_splicedMany v_most v_together v_z v_times v_spliced v_piece v_p1) (w_X10_putsIn D q_this q_times q_spliced q_piece q_p1 w_now w_kept w_trial w_refusals w_row w_letters w_dists w_left w_steps w_partners w_balances w_prices w_hands w_hand w_dealing v_hasImage v_rows v_lettered v_stepsMany o.1 v_most v_together v_z o.2.1 o.2.2.1 o.2.2.2 v_p1) (none) := by
  refine CT.of mk_X10_putsIn (Nat.le_of_ble_eq_true rfl) (fun g hl hD C E => ?_)
  subst hl
  subst hD
  unfold f_X10_putsIn at h
  refine j_iconst C (0) dX10_putsIn_0 ki_0 ?_
  refine j_istore_n C dX10_putsIn_1 (by decide) ?_
  refine j_aload_n C dX10_putsIn_2 rfl ?_
  refine j_get C 0 w_X10_putsIn_g0 rfl inX10 15 (by decide) kw_996 rfl rfl dX10_putsIn_3 ?_
  refine j_iload_n C dX10_putsIn_6 rfl ?_
  refine j_iaload 2 C h w_X10_putsIn_g2 rfl dX10_putsIn_7 (fun h => ?_)
  refine j_istore C dX10_putsIn_8 (by decide) ?_
  refine j_aload_n C dX10_putsIn_10 rfl ?_
  refine j_aload_n C dX10_putsIn_11 rfl ?_
  refine j_iload C dX10_putsIn_12 rfl ?_
  obtain ⟨r_leftAt_1, h_1, h⟩ := of_bind h
  refine j_callV1 C mk_X10_leftAt ms_X10_leftAt kw_1304 (c_X10_leftAt (gl g) (gD g) N h_1) (by decide) 0 w_X10_putsIn_g0 rfl [0, 1, 4] (hC_cons w_X10_putsIn_g0 (hC_cons w_X10_putsIn_g1 (hC_cons w_X10_putsIn_g4 hC_nil))) rfl (w_X10_leftAt_a.trans w_X10_leftAt_a.symm) rfl rfl (Nat.le_of_ble_eq_true rfl) dX10_putsIn_14 (wput_cons w_X10_putsIn_s0 (wput_cons w_X10_putsIn_s1 (wput_cons w_X10_putsIn_s4 wput_nil))) ?_
  refine j_istore C dX10_putsIn_17 (by decide) ?_
  obtain ⟨e_19, hl_19, h⟩ := of_bind h
  have ha_19 : J g (w_X10_putsIn (gD g) q_this q_times q_spliced q_piece q_p1 w_now w_kept w_trial w_refusals w_row w_letters w_dists w_left w_steps w_partners w_balances w_prices w_hands w_hand w_dealing v_hasImage v_rows v_lettered v_stepsMany v_splicedMany v_most v_together v_z e_19.2.1 v_spliced e_19.2.2 v_p1) [(0, .ref q_this), (2, .int (x2)), (3, .int (e_19.1))] 77 [] := by
    refine j_aload_n C dX10_putsIn_77 rfl ?_
    refine j_get C 0 w_X10_putsIn_g0 rfl inX10 16 (by decide) kw_997 rfl rfl dX10_putsIn_78 ?_
    refine j_iconst C (1) dX10_putsIn_81 ki_1 ?_
    refine j_isub C dX10_putsIn_82 ?_
    refine j_istore C dX10_putsIn_83 (by decide) ?_
    obtain ⟨e_85, hl_85, h⟩ := of_bind h
    have ha_85 : J g (w_X10_putsIn (gD g) q_this q_times q_spliced q_piece q_p1 w_now w_kept w_trial w_refusals w_row w_letters w_dists w_left w_steps w_partners w_balances w_prices w_hands w_hand w_dealing v_hasImage v_rows v_lettered v_stepsMany v_splicedMany v_most v_together v_z e_19.2.1 e_85 e_19.2.2 v_p1) [(0, .ref q_this), (2, .int (x2)), (3, .int (e_19.1))] 113 [] := by
      refine j_iconst C (0) dX10_putsIn_113 ki_0 ?_
      refine j_istore C dX10_putsIn_114 (by decide) ?_
      obtain ⟨e_116, hl_116, h⟩ := of_bind h
      have ha_116 : J g (w_X10_putsIn (gD g) q_this q_times q_spliced q_piece q_p1 w_now w_kept w_trial w_refusals w_row w_letters w_dists w_left w_steps w_partners w_balances w_prices w_hands w_hand w_dealing v_hasImage v_rows v_lettered v_stepsMany v_splicedMany v_most v_together v_z e_19.2.1 e_116 e_19.2.2 v_p1) [(0, .ref q_this), (3, .int (e_19.1))] 146 [] := by
        refine j_aload_n C dX10_putsIn_146 rfl ?_
        refine j_dup C dX10_putsIn_147 rfl ?_
        refine j_get C 0 w_X10_putsIn_g0 rfl inX10 16 (by decide) kw_997 rfl rfl dX10_putsIn_148 ?_
        refine j_iload_n C dX10_putsIn_151 rfl ?_
        refine j_iadd C dX10_putsIn_152 ?_
        refine j_put C 0 w_X10_putsIn_g0 rfl inX10 tyX10_ok nmX10 16 (by decide) kw_997 rfl rfl rfl rfl (Nat.le_of_ble_eq_true rfl) dX10_putsIn_153 ?_
        refine j_ws w_X10_putsIn_s0 ?_
        have h := Option.some.inj h
        subst h
        exact j_vret C E dX10_putsIn_156
      refine j_lv (lv' := [(0, .ref q_this), (2, .int (x2)), (3, .int (e_19.1)), (6, .int ((0 : Int32)))]) rfl ?_
      refine lp_ind hl_116 (fun s_116 => J g (w_X10_putsIn (gD g) q_this q_times q_spliced q_piece q_p1 w_now w_kept w_trial w_refusals w_row w_letters w_dists w_left w_steps w_partners w_balances w_prices w_hands w_hand w_dealing v_hasImage v_rows v_lettered v_stepsMany v_splicedMany v_most v_together v_z e_19.2.1 s_116.2 e_19.2.2 v_p1) [(0, .ref q_this), (2, .int (x2)), (3, .int (e_19.1)), (6, .int (s_116.1))] 116 []) (fun s_116 r_116 h hc_116 hx_116 => ?_)
      unfold f_X10_putsIn_b116 at h
      refine j_iload C dX10_putsIn_116 rfl ?_
      refine j_iload_n C dX10_putsIn_118 rfl ?_
      refine j_icmp_ge C h 146 dX10_putsIn_119 (by decide) (fun hc h => ?_) (fun hc h => ?_)
      · have h := Option.some.inj h
        subst h
        have h9 := hx_116 _ rfl
        subst h9
        exact j_lw ha_116 rfl
      · refine j_aload_n C dX10_putsIn_122 rfl ?_
        refine j_get C 0 w_X10_putsIn_g0 rfl inX10 15 (by decide) kw_996 rfl rfl dX10_putsIn_123 ?_
        refine j_iload_n C dX10_putsIn_126 rfl ?_
        refine j_iconst C (1) dX10_putsIn_127 ki_1 ?_
        refine j_iadd C dX10_putsIn_128 ?_
        refine j_iload C dX10_putsIn_129 rfl ?_
        refine j_iadd C dX10_putsIn_131 ?_
        refine j_aload_n C dX10_putsIn_132 rfl ?_
        refine j_get C 0 w_X10_putsIn_g0 rfl inX10 17 (by decide) kw_998 rfl rfl dX10_putsIn_133 ?_
        refine j_iload C dX10_putsIn_136 rfl ?_
        refine j_iaload 3 C h w_X10_putsIn_g3 rfl dX10_putsIn_138 (fun h => ?_)
        refine j_iastore 2 C h w_X10_putsIn_g2 rfl dX10_putsIn_139 (fun h => ?_)
        refine j_ws w_X10_putsIn_s2 ?_
        refine j_inc C (1) dX10_putsIn_140 rfl ki_1 (by decide) ?_
        refine j_goto C 116 dX10_putsIn_143 (by decide) ?_
        have h := Option.some.inj h
        subst h
        have hc9 := hc_116 _ rfl
        exact j_lw hc9 rfl
    refine j_lv (lv' := [(0, .ref q_this), (2, .int (x2)), (3, .int (e_19.1)), (6, .int (v_splicedMany - (1 : Int32)))]) rfl ?_
    refine lp_ind hl_85 (fun s_85 => J g (w_X10_putsIn (gD g) q_this q_times q_spliced q_piece q_p1 w_now w_kept w_trial w_refusals w_row w_letters w_dists w_left w_steps w_partners w_balances w_prices w_hands w_hand w_dealing v_hasImage v_rows v_lettered v_stepsMany v_splicedMany v_most v_together v_z e_19.2.1 s_85.2 e_19.2.2 v_p1) [(0, .ref q_this), (2, .int (x2)), (3, .int (e_19.1)), (6, .int (s_85.1))] 85 []) (fun s_85 r_85 h hc_85 hx_85 => ?_)
    unfold f_X10_putsIn_b85 at h
    refine j_iload C dX10_putsIn_85 rfl ?_
    refine j_iload_n C dX10_putsIn_87 rfl ?_
    refine j_icmp_le C h 113 dX10_putsIn_88 (by decide) (fun hc h => ?_) (fun hc h => ?_)
    · have h := Option.some.inj h
      subst h
      have h9 := hx_85 _ rfl
      subst h9
      exact j_lw ha_85 rfl
    · refine j_aload_n C dX10_putsIn_91 rfl ?_
      refine j_get C 0 w_X10_putsIn_g0 rfl inX10 15 (by decide) kw_996 rfl rfl dX10_putsIn_92 ?_
      refine j_iload C dX10_putsIn_95 rfl ?_
      refine j_iload_n C dX10_putsIn_97 rfl ?_
      refine j_iadd C dX10_putsIn_98 ?_
      refine j_aload_n C dX10_putsIn_99 rfl ?_
      refine j_get C 0 w_X10_putsIn_g0 rfl inX10 15 (by decide) kw_996 rfl rfl dX10_putsIn_100 ?_
      refine j_iload C dX10_putsIn_103 rfl ?_
      refine j_iaload 2 C h w_X10_putsIn_g2 rfl dX10_putsIn_105 (fun h => ?_)
      refine j_iastore 2 C h w_X10_putsIn_g2 rfl dX10_putsIn_106 (fun h => ?_)
      refine j_ws w_X10_putsIn_s2 ?_
      refine j_inc C (-1) dX10_putsIn_107 rfl ki_m1 (by decide) ?_
      refine j_goto C 85 dX10_putsIn_110 (by decide) ?_
      have h := Option.some.inj h
      subst h
      have hc9 := hc_85 _ rfl
      exact j_lw hc9 rfl
  refine j_lv (lv' := [(0, .ref q_this), (1, .ref q_p1), (2, .int (x2)), (3, .int ((0 : Int32))), (4, .int (v_spliced (Int32.toNatClampNeg x2))), (5, .int (r_leftAt_1))]) rfl ?_
  refine lp_ind hl_19 (fun s_19 => J g (w_X10_putsIn (gD g) q_this q_times q_spliced q_piece q_p1 w_now w_kept w_trial w_refusals w_row w_letters w_dists w_left w_steps w_partners w_balances w_prices w_hands w_hand w_dealing v_hasImage v_rows v_lettered v_stepsMany v_splicedMany v_most v_together v_z s_19.2.2.2.1 v_spliced s_19.2.2.2.2 v_p1) [(0, .ref q_this), (1, .ref q_p1), (2, .int (x2)), (3, .int (s_19.1)), (4, .int (s_19.2.1)), (5, .int (s_19.2.2.1))] 19 []) (fun s_19 r_19 h hc_19 hx_19 => ?_)
  unfold f_X10_putsIn_b19 at h
  refine j_iload C dX10_putsIn_19 rfl ?_
  refine j_if_lt C h 77 dX10_putsIn_21 (by decide) (fun hc h => ?_) (fun hc h => ?_)
  · have h := Option.some.inj h
    subst h
    have h9 := hx_19 _ rfl
    subst h9
    exact j_lw ha_19 rfl
  · refine j_aload_n C dX10_putsIn_24 rfl ?_
    refine j_get C 0 w_X10_putsIn_g0 rfl inX10 14 (by decide) kw_995 rfl rfl dX10_putsIn_25 ?_
    refine j_iload C dX10_putsIn_28 rfl ?_
    refine j_dup2 C dX10_putsIn_30 rfl rfl ?_
    refine j_iaload 1 C h w_X10_putsIn_g1 rfl dX10_putsIn_31 (fun h => ?_)
    refine j_iconst C (1) dX10_putsIn_32 ki_1 ?_
    refine j_isub C dX10_putsIn_33 ?_
    refine j_iastore 1 C h w_X10_putsIn_g1 rfl dX10_putsIn_34 (fun h => ?_)
    refine j_ws w_X10_putsIn_s1 ?_
    refine j_aload_n C dX10_putsIn_35 rfl ?_
    refine j_iconst C (0) dX10_putsIn_36 ki_0 ?_
    refine j_iload C dX10_putsIn_37 rfl ?_
    refine j_iadd C dX10_putsIn_39 ?_
    refine j_iaload 4 C h w_X10_putsIn_g4 rfl dX10_putsIn_40 (fun h => ?_)
    refine j_aload_n C dX10_putsIn_41 rfl ?_
    refine j_bipush C (8) dX10_putsIn_42 kb_8 ?_
    refine j_iload C dX10_putsIn_44 rfl ?_
    refine j_iadd C dX10_putsIn_46 ?_
    refine j_iaload 4 C h w_X10_putsIn_g4 rfl dX10_putsIn_47 (fun h => ?_)
    refine j_iadd C dX10_putsIn_48 ?_
    refine j_iload C dX10_putsIn_49 rfl ?_
    refine j_isub C dX10_putsIn_51 ?_
    refine j_istore C dX10_putsIn_52 (by decide) ?_
    refine j_aload_n C dX10_putsIn_54 rfl ?_
    refine j_get C 0 w_X10_putsIn_g0 rfl inX10 17 (by decide) kw_998 rfl rfl dX10_putsIn_55 ?_
    refine j_iload_n C dX10_putsIn_58 rfl ?_
    refine j_iload C dX10_putsIn_59 rfl ?_
    refine j_iastore 3 C h w_X10_putsIn_g3 rfl dX10_putsIn_61 (fun h => ?_)
    refine j_ws w_X10_putsIn_s3 ?_
    refine j_inc C (1) dX10_putsIn_62 rfl ki_1 (by decide) ?_
    refine j_aload_n C dX10_putsIn_65 rfl ?_
    refine j_aload_n C dX10_putsIn_66 rfl ?_
    refine j_iload C dX10_putsIn_67 rfl ?_
    obtain ⟨r_leftAt_2, h_2, h⟩ := of_bind h
    refine j_callV1 C mk_X10_leftAt ms_X10_leftAt kw_1304 (c_X10_leftAt (gl g) (gD g) N h_2) (by decide) 0 w_X10_putsIn_g0 rfl [0, 1, 4] (hC_cons w_X10_putsIn_g0 (hC_cons w_X10_putsIn_g1 (hC_cons w_X10_putsIn_g4 hC_nil))) rfl (w_X10_leftAt_a.trans w_X10_leftAt_a.symm) rfl rfl (Nat.le_of_ble_eq_true rfl) dX10_putsIn_69 (wput_cons w_X10_putsIn_s0 (wput_cons w_X10_putsIn_s1 (wput_cons w_X10_putsIn_s4 wput_nil))) ?_
    refine j_istore C dX10_putsIn_72 (by decide) ?_
    refine j_goto C 19 dX10_putsIn_74 (by decide) ?_
    have h := Option.some.inj h
    subst h
    have hc9 := hc_19 _ rfl
    exact j_lw hc9 rfl

def w_X10_splices (D : va_G) (q_this q_dists q_partners q_times q_spliced q_piece q_p1 : Nat) (w_now w_kept w_trial w_refusals w_row w_letters w_left w_steps w_balances w_prices w_hands w_hand w_dealing : Value) (v_hasImage : Int32) (v_rows : Int32) (v_lettered : Int32) (v_stepsMany : Int32) (v_splicedMany : Int32) (v_most : Int32) (v_together : Int32) (v_z : Int32) (v_dists : (Nat → Int32)) (v_partners : (Nat → Int32)) (v_times : (Nat → Int32)) (v_spliced : (Nat → Int32)) (v_piece : (Nat → Int32)) (v_p1 : (Nat → Int32)) : va_W := [(q_this, .inr (9, [w_now, w_kept, w_trial, .int v_hasImage, w_refusals, w_row, .int v_rows, w_letters, .int v_lettered, .ref q_dists, w_left, w_steps, .int v_stepsMany, .ref q_partners, .ref q_times, .ref q_spliced, .int v_splicedMany, .ref q_piece, w_balances, w_prices, w_hands, w_hand, w_dealing, .int v_most, .int v_together, .int v_z])), (q_dists, .inl (D.1 100, 36, .inl v_dists)), (q_partners, .inl (D.1 100, 6, .inl v_partners)), (q_times, .inl (D.1 100, 8, .inl v_times)), (q_spliced, .inl (D.1 100, 26, .inl v_spliced)), (q_piece, .inl (D.1 100, 26, .inl v_piece)), (q_p1, .inl (D.1 100, 50, .inl v_p1))]
theorem w_X10_splices_g0 {D : va_G} {q_this : Nat} {q_dists : Nat} {q_partners : Nat} {q_times : Nat} {q_spliced : Nat} {q_piece : Nat} {q_p1 : Nat} {w_now : Value} {w_kept : Value} {w_trial : Value} {w_refusals : Value} {w_row : Value} {w_letters : Value} {w_left : Value} {w_steps : Value} {w_balances : Value} {w_prices : Value} {w_hands : Value} {w_hand : Value} {w_dealing : Value} {v_hasImage : Int32} {v_rows : Int32} {v_lettered : Int32} {v_stepsMany : Int32} {v_splicedMany : Int32} {v_most : Int32} {v_together : Int32} {v_z : Int32} {v_dists : (Nat → Int32)} {v_partners : (Nat → Int32)} {v_times : (Nat → Int32)} {v_spliced : (Nat → Int32)} {v_piece : (Nat → Int32)} {v_p1 : (Nat → Int32)} : (w_X10_splices D q_this q_dists q_partners q_times q_spliced q_piece q_p1 w_now w_kept w_trial w_refusals w_row w_letters w_left w_steps w_balances w_prices w_hands w_hand w_dealing v_hasImage v_rows v_lettered v_stepsMany v_splicedMany v_most v_together v_z v_dists v_partners v_times v_spliced v_piece v_p1)[0]? = some (q_this, .inr (9, [w_now, w_kept, w_trial, .int v_hasImage, w_refusals, w_row, .int v_rows, w_letters, .int v_lettered, .ref q_dists, w_left, w_steps, .int v_stepsMany, .ref q_partners, .ref q_times, .ref q_spliced, .int v_splicedMany, .ref q_piece, w_balances, w_prices, w_hands, w_hand, w_dealing, .int v_most, .int v_together, .int v_z])) := rfl
theorem w_X10_splices_s0 {D : va_G} {q_this : Nat} {q_dists : Nat} {q_partners : Nat} {q_times : Nat} {q_spliced : Nat} {q_piece : Nat} {q_p1 : Nat} {w_now : Value} {w_kept : Value} {w_trial : Value} {w_refusals : Value} {w_row : Value} {w_letters : Value} {w_left : Value} {w_steps : Value} {w_balances : Value} {w_prices : Value} {w_hands : Value} {w_hand : Value} {w_dealing : Value} {v_hasImage : Int32} {v_rows : Int32} {v_lettered : Int32} {v_stepsMany : Int32} {v_splicedMany : Int32} {v_most : Int32} {v_together : Int32} {v_z : Int32} {v_dists : (Nat → Int32)} {v_partners : (Nat → Int32)} {v_times : (Nat → Int32)} {v_spliced : (Nat → Int32)} {v_piece : (Nat → Int32)} {v_p1 : (Nat → Int32)} {v_hasImage' : Int32} {v_rows' : Int32} {v_lettered' : Int32} {v_stepsMany' : Int32} {v_splicedMany' : Int32} {v_most' : Int32} {v_together' : Int32} {v_z' : Int32} : (w_X10_splices D q_this q_dists q_partners q_times q_spliced q_piece q_p1 w_now w_kept w_trial w_refusals w_row w_letters w_left w_steps w_balances w_prices w_hands w_hand w_dealing v_hasImage v_rows v_lettered v_stepsMany v_splicedMany v_most v_together v_z v_dists v_partners v_times v_spliced v_piece v_p1).set 0 (q_this, .inr (9, [w_now, w_kept, w_trial, .int v_hasImage', w_refusals, w_row, .int v_rows', w_letters, .int v_lettered', .ref q_dists, w_left, w_steps, .int v_stepsMany', .ref q_partners, .ref q_times, .ref q_spliced, .int v_splicedMany', .ref q_piece, w_balances, w_prices, w_hands, w_hand, w_dealing, .int v_most', .int v_together', .int v_z'])) = (w_X10_splices D q_this q_dists q_partners q_times q_spliced q_piece q_p1 w_now w_kept w_trial w_refusals w_row w_letters w_left w_steps w_balances w_prices w_hands w_hand w_dealing v_hasImage' v_rows' v_lettered' v_stepsMany' v_splicedMany' v_most' v_together' v_z' v_dists v_partners v_times v_spliced v_piece v_p1) := rfl
theorem w_X10_splices_g1 {D : va_G} {q_this : Nat} {q_dists : Nat} {q_partners : Nat} {q_times : Nat} {q_spliced : Nat} {q_piece : Nat} {q_p1 : Nat} {w_now : Value} {w_kept : Value} {w_trial : Value} {w_refusals : Value} {w_row : Value} {w_letters : Value} {w_left : Value} {w_steps : Value} {w_balances : Value} {w_prices : Value} {w_hands : Value} {w_hand : Value} {w_dealing : Value} {v_hasImage : Int32} {v_rows : Int32} {v_lettered : Int32} {v_stepsMany : Int32} {v_splicedMany : Int32} {v_most : Int32} {v_together : Int32} {v_z : Int32} {v_dists : (Nat → Int32)} {v_partners : (Nat → Int32)} {v_times : (Nat → Int32)} {v_spliced : (Nat → Int32)} {v_piece : (Nat → Int32)} {v_p1 : (Nat → Int32)} : (w_X10_splices D q_this q_dists q_partners q_times q_spliced q_piece q_p1 w_now w_kept w_trial w_refusals w_row w_letters w_left w_steps w_balances w_prices w_hands w_hand w_dealing v_hasImage v_rows v_lettered v_stepsMany v_splicedMany v_most v_together v_z v_dists v_partners v_times v_spliced v_piece v_p1)[1]? = some (q_dists, .inl (D.1 100, 36, .inl v_dists)) := rfl
theorem w_X10_splices_s1 {D : va_G} {q_this : Nat} {q_dists : Nat} {q_partners : Nat} {q_times : Nat} {q_spliced : Nat} {q_piece : Nat} {q_p1 : Nat} {w_now : Value} {w_kept : Value} {w_trial : Value} {w_refusals : Value} {w_row : Value} {w_letters : Value} {w_left : Value} {w_steps : Value} {w_balances : Value} {w_prices : Value} {w_hands : Value} {w_hand : Value} {w_dealing : Value} {v_hasImage : Int32} {v_rows : Int32} {v_lettered : Int32} {v_stepsMany : Int32} {v_splicedMany : Int32} {v_most : Int32} {v_together : Int32} {v_z : Int32} {v_dists : (Nat → Int32)} {v_partners : (Nat → Int32)} {v_times : (Nat → Int32)} {v_spliced : (Nat → Int32)} {v_piece : (Nat → Int32)} {v_p1 : (Nat → Int32)} {v_dists' : (Nat → Int32)} : (w_X10_splices D q_this q_dists q_partners q_times q_spliced q_piece q_p1 w_now w_kept w_trial w_refusals w_row w_letters w_left w_steps w_balances w_prices w_hands w_hand w_dealing v_hasImage v_rows v_lettered v_stepsMany v_splicedMany v_most v_together v_z v_dists v_partners v_times v_spliced v_piece v_p1).set 1 (q_dists, .inl (D.1 100, 36, .inl v_dists')) = (w_X10_splices D q_this q_dists q_partners q_times q_spliced q_piece q_p1 w_now w_kept w_trial w_refusals w_row w_letters w_left w_steps w_balances w_prices w_hands w_hand w_dealing v_hasImage v_rows v_lettered v_stepsMany v_splicedMany v_most v_together v_z v_dists' v_partners v_times v_spliced v_piece v_p1) := rfl
theorem w_X10_splices_g2 {D : va_G} {q_this : Nat} {q_dists : Nat} {q_partners : Nat} {q_times : Nat} {q_spliced : Nat} {q_piece : Nat} {q_p1 : Nat} {w_now : Value} {w_kept : Value} {w_trial : Value} {w_refusals : Value} {w_row : Value} {w_letters : Value} {w_left : Value} {w_steps : Value} {w_balances : Value} {w_prices : Value} {w_hands : Value} {w_hand : Value} {w_dealing : Value} {v_hasImage : Int32} {v_rows : Int32} {v_lettered : Int32} {v_stepsMany : Int32} {v_splicedMany : Int32} {v_most : Int32} {v_together : Int32} {v_z : Int32} {v_dists : (Nat → Int32)} {v_partners : (Nat → Int32)} {v_times : (Nat → Int32)} {v_spliced : (Nat → Int32)} {v_piece : (Nat → Int32)} {v_p1 : (Nat → Int32)} : (w_X10_splices D q_this q_dists q_partners q_times q_spliced q_piece q_p1 w_now w_kept w_trial w_refusals w_row w_letters w_left w_steps w_balances w_prices w_hands w_hand w_dealing v_hasImage v_rows v_lettered v_stepsMany v_splicedMany v_most v_together v_z v_dists v_partners v_times v_spliced v_piece v_p1)[2]? = some (q_partners, .inl (D.1 100, 6, .inl v_partners)) := rfl
theorem w_X10_splices_s2 {D : va_G} {q_this : Nat} {q_dists : Nat} {q_partners : Nat} {q_times : Nat} {q_spliced : Nat} {q_piece : Nat} {q_p1 : Nat} {w_now : Value} {w_kept : Value} {w_trial : Value} {w_refusals : Value} {w_row : Value} {w_letters : Value} {w_left : Value} {w_steps : Value} {w_balances : Value} {w_prices : Value} {w_hands : Value} {w_hand : Value} {w_dealing : Value} {v_hasImage : Int32} {v_rows : Int32} {v_lettered : Int32} {v_stepsMany : Int32} {v_splicedMany : Int32} {v_most : Int32} {v_together : Int32} {v_z : Int32} {v_dists : (Nat → Int32)} {v_partners : (Nat → Int32)} {v_times : (Nat → Int32)} {v_spliced : (Nat → Int32)} {v_piece : (Nat → Int32)} {v_p1 : (Nat → Int32)} {v_partners' : (Nat → Int32)} : (w_X10_splices D q_this q_dists q_partners q_times q_spliced q_piece q_p1 w_now w_kept w_trial w_refusals w_row w_letters w_left w_steps w_balances w_prices w_hands w_hand w_dealing v_hasImage v_rows v_lettered v_stepsMany v_splicedMany v_most v_together v_z v_dists v_partners v_times v_spliced v_piece v_p1).set 2 (q_partners, .inl (D.1 100, 6, .inl v_partners')) = (w_X10_splices D q_this q_dists q_partners q_times q_spliced q_piece q_p1 w_now w_kept w_trial w_refusals w_row w_letters w_left w_steps w_balances w_prices w_hands w_hand w_dealing v_hasImage v_rows v_lettered v_stepsMany v_splicedMany v_most v_together v_z v_dists v_partners' v_times v_spliced v_piece v_p1) := rfl
theorem w_X10_splices_g3 {D : va_G} {q_this : Nat} {q_dists : Nat} {q_partners : Nat} {q_times : Nat} {q_spliced : Nat} {q_piece : Nat} {q_p1 : Nat} {w_now : Value} {w_kept : Value} {w_trial : Value} {w_refusals : Value} {w_row : Value} {w_letters : Value} {w_left : Value} {w_steps : Value} {w_balances : Value} {w_prices : Value} {w_hands : Value} {w_hand : Value} {w_dealing : Value} {v_hasImage : Int32} {v_rows : Int32} {v_lettered : Int32} {v_stepsMany : Int32} {v_splicedMany : Int32} {v_most : Int32} {v_together : Int32} {v_z : Int32} {v_dists : (Nat → Int32)} {v_partners : (Nat → Int32)} {v_times : (Nat → Int32)} {v_spliced : (Nat → Int32)} {v_piece : (Nat → Int32)} {v_p1 : (Nat → Int32)} : (w_X10_splices D q_this q_dists q_partners q_times q_spliced q_piece q_p1 w_now w_kept w_trial w_refusals w_row w_letters w_left w_steps w_balances w_prices w_hands w_hand w_dealing v_hasImage v_rows v_lettered v_stepsMany v_splicedMany v_most v_together v_z v_dists v_partners v_times v_spliced v_piece v_p1)[3]? = some (q_times, .inl (D.1 100, 8, .inl v_times)) := rfl
theorem w_X10_splices_s3 {D : va_G} {q_this : Nat} {q_dists : Nat} {q_partners : Nat} {q_times : Nat} {q_spliced : Nat} {q_piece : Nat} {q_p1 : Nat} {w_now : Value} {w_kept : Value} {w_trial : Value} {w_refusals : Value} {w_row : Value} {w_letters : Value} {w_left : Value} {w_steps : Value} {w_balances : Value} {w_prices : Value} {w_hands : Value} {w_hand : Value} {w_dealing : Value} {v_hasImage : Int32} {v_rows : Int32} {v_lettered : Int32} {v_stepsMany : Int32} {v_splicedMany : Int32} {v_most : Int32} {v_together : Int32} {v_z : Int32} {v_dists : (Nat → Int32)} {v_partners : (Nat → Int32)} {v_times : (Nat → Int32)} {v_spliced : (Nat → Int32)} {v_piece : (Nat → Int32)} {v_p1 : (Nat → Int32)} {v_times' : (Nat → Int32)} : (w_X10_splices D q_this q_dists q_partners q_times q_spliced q_piece q_p1 w_now w_kept w_trial w_refusals w_row w_letters w_left w_steps w_balances w_prices w_hands w_hand w_dealing v_hasImage v_rows v_lettered v_stepsMany v_splicedMany v_most v_together v_z v_dists v_partners v_times v_spliced v_piece v_p1).set 3 (q_times, .inl (D.1 100, 8, .inl v_times')) = (w_X10_splices D q_this q_dists q_partners q_times q_spliced q_piece q_p1 w_now w_kept w_trial w_refusals w_row w_letters w_left w_steps w_balances w_prices w_hands w_hand w_dealing v_hasImage v_rows v_lettered v_stepsMany v_splicedMany v_most v_together v_z v_dists v_partners v_times' v_spliced v_piece v_p1) := rfl
theorem w_X10_splices_g4 {D : va_G} {q_this : Nat} {q_dists : Nat} {q_partners : Nat} {q_times : Nat} {q_spliced : Nat} {q_piece : Nat} {q_p1 : Nat} {w_now : Value} {w_kept : Value} {w_trial : Value} {w_refusals : Value} {w_row : Value} {w_letters : Value} {w_left : Value} {w_steps : Value} {w_balances : Value} {w_prices : Value} {w_hands : Value} {w_hand : Value} {w_dealing : Value} {v_hasImage : Int32} {v_rows : Int32} {v_lettered : Int32} {v_stepsMany : Int32} {v_splicedMany : Int32} {v_most : Int32} {v_together : Int32} {v_z : Int32} {v_dists : (Nat → Int32)} {v_partners : (Nat → Int32)} {v_times : (Nat → Int32)} {v_spliced : (Nat → Int32)} {v_piece : (Nat → Int32)} {v_p1 : (Nat → Int32)} : (w_X10_splices D q_this q_dists q_partners q_times q_spliced q_piece q_p1 w_now w_kept w_trial w_refusals w_row w_letters w_left w_steps w_balances w_prices w_hands w_hand w_dealing v_hasImage v_rows v_lettered v_stepsMany v_splicedMany v_most v_together v_z v_dists v_partners v_times v_spliced v_piece v_p1)[4]? = some (q_spliced, .inl (D.1 100, 26, .inl v_spliced)) := rfl
theorem w_X10_splices_s4 {D : va_G} {q_this : Nat} {q_dists : Nat} {q_partners : Nat} {q_times : Nat} {q_spliced : Nat} {q_piece : Nat} {q_p1 : Nat} {w_now : Value} {w_kept : Value} {w_trial : Value} {w_refusals : Value} {w_row : Value} {w_letters : Value} {w_left : Value} {w_steps : Value} {w_balances : Value} {w_prices : Value} {w_hands : Value} {w_hand : Value} {w_dealing : Value} {v_hasImage : Int32} {v_rows : Int32} {v_lettered : Int32} {v_stepsMany : Int32} {v_splicedMany : Int32} {v_most : Int32} {v_together : Int32} {v_z : Int32} {v_dists : (Nat → Int32)} {v_partners : (Nat → Int32)} {v_times : (Nat → Int32)} {v_spliced : (Nat → Int32)} {v_piece : (Nat → Int32)} {v_p1 : (Nat → Int32)} {v_spliced' : (Nat → Int32)} : (w_X10_splices D q_this q_dists q_partners q_times q_spliced q_piece q_p1 w_now w_kept w_trial w_refusals w_row w_letters w_left w_steps w_balances w_prices w_hands w_hand w_dealing v_hasImage v_rows v_lettered v_stepsMany v_splicedMany v_most v_together v_z v_dists v_partners v_times v_spliced v_piece v_p1).set 4 (q_spliced, .inl (D.1 100, 26, .inl v_spliced')) = (w_X10_splices D q_this q_dists q_partners q_times q_spliced q_piece q_p1 w_now w_kept w_trial w_refusals w_row w_letters w_left w_steps w_balances w_prices w_hands w_hand w_dealing v_hasImage v_rows v_lettered v_stepsMany v_splicedMany v_most v_together v_z v_dists v_partners v_times v_spliced' v_piece v_p1) := rfl
theorem w_X10_splices_g5 {D : va_G} {q_this : Nat} {q_dists : Nat} {q_partners : Nat} {q_times : Nat} {q_spliced : Nat} {q_piece : Nat} {q_p1 : Nat} {w_now : Value} {w_kept : Value} {w_trial : Value} {w_refusals : Value} {w_row : Value} {w_letters : Value} {w_left : Value} {w_steps : Value} {w_balances : Value} {w_prices : Value} {w_hands : Value} {w_hand : Value} {w_dealing : Value} {v_hasImage : Int32} {v_rows : Int32} {v_lettered : Int32} {v_stepsMany : Int32} {v_splicedMany : Int32} {v_most : Int32} {v_together : Int32} {v_z : Int32} {v_dists : (Nat → Int32)} {v_partners : (Nat → Int32)} {v_times : (Nat → Int32)} {v_spliced : (Nat → Int32)} {v_piece : (Nat → Int32)} {v_p1 : (Nat → Int32)} : (w_X10_splices D q_this q_dists q_partners q_times q_spliced q_piece q_p1 w_now w_kept w_trial w_refusals w_row w_letters w_left w_steps w_balances w_prices w_hands w_hand w_dealing v_hasImage v_rows v_lettered v_stepsMany v_splicedMany v_most v_together v_z v_dists v_partners v_times v_spliced v_piece v_p1)[5]? = some (q_piece, .inl (D.1 100, 26, .inl v_piece)) := rfl
theorem w_X10_splices_s5 {D : va_G} {q_this : Nat} {q_dists : Nat} {q_partners : Nat} {q_times : Nat} {q_spliced : Nat} {q_piece : Nat} {q_p1 : Nat} {w_now : Value} {w_kept : Value} {w_trial : Value} {w_refusals : Value} {w_row : Value} {w_letters : Value} {w_left : Value} {w_steps : Value} {w_balances : Value} {w_prices : Value} {w_hands : Value} {w_hand : Value} {w_dealing : Value} {v_hasImage : Int32} {v_rows : Int32} {v_lettered : Int32} {v_stepsMany : Int32} {v_splicedMany : Int32} {v_most : Int32} {v_together : Int32} {v_z : Int32} {v_dists : (Nat → Int32)} {v_partners : (Nat → Int32)} {v_times : (Nat → Int32)} {v_spliced : (Nat → Int32)} {v_piece : (Nat → Int32)} {v_p1 : (Nat → Int32)} {v_piece' : (Nat → Int32)} : (w_X10_splices D q_this q_dists q_partners q_times q_spliced q_piece q_p1 w_now w_kept w_trial w_refusals w_row w_letters w_left w_steps w_balances w_prices w_hands w_hand w_dealing v_hasImage v_rows v_lettered v_stepsMany v_splicedMany v_most v_together v_z v_dists v_partners v_times v_spliced v_piece v_p1).set 5 (q_piece, .inl (D.1 100, 26, .inl v_piece')) = (w_X10_splices D q_this q_dists q_partners q_times q_spliced q_piece q_p1 w_now w_kept w_trial w_refusals w_row w_letters w_left w_steps w_balances w_prices w_hands w_hand w_dealing v_hasImage v_rows v_lettered v_stepsMany v_splicedMany v_most v_together v_z v_dists v_partners v_times v_spliced v_piece' v_p1) := rfl
theorem w_X10_splices_g6 {D : va_G} {q_this : Nat} {q_dists : Nat} {q_partners : Nat} {q_times : Nat} {q_spliced : Nat} {q_piece : Nat} {q_p1 : Nat} {w_now : Value} {w_kept : Value} {w_trial : Value} {w_refusals : Value} {w_row : Value} {w_letters : Value} {w_left : Value} {w_steps : Value} {w_balances : Value} {w_prices : Value} {w_hands : Value} {w_hand : Value} {w_dealing : Value} {v_hasImage : Int32} {v_rows : Int32} {v_lettered : Int32} {v_stepsMany : Int32} {v_splicedMany : Int32} {v_most : Int32} {v_together : Int32} {v_z : Int32} {v_dists : (Nat → Int32)} {v_partners : (Nat → Int32)} {v_times : (Nat → Int32)} {v_spliced : (Nat → Int32)} {v_piece : (Nat → Int32)} {v_p1 : (Nat → Int32)} : (w_X10_splices D q_this q_dists q_partners q_times q_spliced q_piece q_p1 w_now w_kept w_trial w_refusals w_row w_letters w_left w_steps w_balances w_prices w_hands w_hand w_dealing v_hasImage v_rows v_lettered v_stepsMany v_splicedMany v_most v_together v_z v_dists v_partners v_times v_spliced v_piece v_p1)[6]? = some (q_p1, .inl (D.1 100, 50, .inl v_p1)) := rfl
theorem w_X10_splices_s6 {D : va_G} {q_this : Nat} {q_dists : Nat} {q_partners : Nat} {q_times : Nat} {q_spliced : Nat} {q_piece : Nat} {q_p1 : Nat} {w_now : Value} {w_kept : Value} {w_trial : Value} {w_refusals : Value} {w_row : Value} {w_letters : Value} {w_left : Value} {w_steps : Value} {w_balances : Value} {w_prices : Value} {w_hands : Value} {w_hand : Value} {w_dealing : Value} {v_hasImage : Int32} {v_rows : Int32} {v_lettered : Int32} {v_stepsMany : Int32} {v_splicedMany : Int32} {v_most : Int32} {v_together : Int32} {v_z : Int32} {v_dists : (Nat → Int32)} {v_partners : (Nat → Int32)} {v_times : (Nat → Int32)} {v_spliced : (Nat → Int32)} {v_piece : (Nat → Int32)} {v_p1 : (Nat → Int32)} {v_p1' : (Nat → Int32)} : (w_X10_splices D q_this q_dists q_partners q_times q_spliced q_piece q_p1 w_now w_kept w_trial w_refusals w_row w_letters w_left w_steps w_balances w_prices w_hands w_hand w_dealing v_hasImage v_rows v_lettered v_stepsMany v_splicedMany v_most v_together v_z v_dists v_partners v_times v_spliced v_piece v_p1).set 6 (q_p1, .inl (D.1 100, 50, .inl v_p1')) = (w_X10_splices D q_this q_dists q_partners q_times q_spliced q_piece q_p1 w_now w_kept w_trial w_refusals w_row w_letters w_left w_steps w_balances w_prices w_hands w_hand w_dealing v_hasImage v_rows v_lettered v_stepsMany v_splicedMany v_most v_together v_z v_dists v_partners v_times v_spliced v_piece v_p1') := rfl
theorem w_X10_splices_a {D : va_G} {q_this : Nat} {q_dists : Nat} {q_partners : Nat} {q_times : Nat} {q_spliced : Nat} {q_piece : Nat} {q_p1 : Nat} {w_now : Value} {w_kept : Value} {w_trial : Value} {w_refusals : Value} {w_row : Value} {w_letters : Value} {w_left : Value} {w_steps : Value} {w_balances : Value} {w_prices : Value} {w_hands : Value} {w_hand : Value} {w_dealing : Value} {v_hasImage : Int32} {v_rows : Int32} {v_lettered : Int32} {v_stepsMany : Int32} {v_splicedMany : Int32} {v_most : Int32} {v_together : Int32} {v_z : Int32} {v_dists : (Nat → Int32)} {v_partners : (Nat → Int32)} {v_times : (Nat → Int32)} {v_spliced : (Nat → Int32)} {v_piece : (Nat → Int32)} {v_p1 : (Nat → Int32)} : (w_X10_splices D q_this q_dists q_partners q_times q_spliced q_piece q_p1 w_now w_kept w_trial w_refusals w_row w_letters w_left w_steps w_balances w_prices w_hands w_hand w_dealing v_hasImage v_rows v_lettered v_stepsMany v_splicedMany v_most v_together v_z v_dists v_partners v_times v_spliced v_piece v_p1).map (fun q => q.1) = [q_this, q_dists, q_partners, q_times, q_spliced, q_piece, q_p1] := rfl
def f_X10_splices_b12 (v_p1 : (Nat → Int32)) (x2_12 : Int32) (v_times_12 : (Nat → Int32)) : Option ((Int32 × (Nat → Int32)) ⊕ (Nat → Int32)) :=
  ga (49 : Int32) 50 ((if (v_p1 (Int32.toNatClampNeg (49 : Int32))) ≤ x2_12 then some (.inr v_times_12) else (f_X10_isDue x2_12 v_p1).bind (fun r_isDue_2 => ga x2_12 8 (some (.inl (x2_12 + (1 : Int32), upd v_times_12 (Int32.toNatClampNeg x2_12) (if r_isDue_2 = 0 then (0 : Int32) else (1 : Int32))))))))
def f_X10_splices_b74 (N : Nat) (x3_74 : Int32) (v_times_74 : (Nat → Int32)) (x2_47 : Int32) (r_matches_1_2 : (Nat → Int32)) (r_matches_1_1 : (Nat → Int32)) (v_p1 : (Nat → Int32)) : Option ((Int32 × (Nat → Int32)) ⊕ (Nat → Int32)) :=
  (if x3_74 < 0 then some (.inr v_times_74) else ga x2_47 6 ((if (r_matches_1_2 (Int32.toNatClampNeg x2_47)) ≤ x2_47 then some (.inr v_times_74) else ga x2_47 6 ((if x3_74 = (r_matches_1_2 (Int32.toNatClampNeg x2_47)) then some (.inr v_times_74) else ga x2_47 6 ((f_X10_nextStep N x3_74 (r_matches_1_2 (Int32.toNatClampNeg x2_47)) r_matches_1_1 v_p1).bind (fun r_nextStep_5 => ga (r_nextStep_5 / (2 : Int32)) 8 (ga (r_nextStep_5 / (2 : Int32)) 8 ((f_X10_ends r_nextStep_5 v_p1).bind (fun r_ends_6 => some (.inl (r_ends_6, upd v_times_74 (Int32.toNatClampNeg (r_nextStep_5 / (2 : Int32))) ((v_times_74 (Int32.toNatClampNeg (r_nextStep_5 / (2 : Int32)))) + (1 : Int32))))))))))))))
def f_X10_splices_b47 (N : Nat) (x2_47 : Int32) (v_times_47 : (Nat → Int32)) (r_matches_1_2 : (Nat → Int32)) (r_matches_1_1 : (Nat → Int32)) (v_p1 : (Nat → Int32)) : Option ((Int32 × (Nat → Int32)) ⊕ (Nat → Int32)) :=
  (if (6 : Int32) ≤ x2_47 then some (.inr v_times_47) else ga x2_47 6 (((if (r_matches_1_2 (Int32.toNatClampNeg x2_47)) ≤ x2_47 then ga x2_47 6 (some (r_matches_1_2 (Int32.toNatClampNeg x2_47))) else some x2_47) : Option Int32).bind (fun m_4 => (lp (fun s_74 => f_X10_splices_b74 N s_74.1 s_74.2 x2_47 r_matches_1_2 r_matches_1_1 v_p1) N (m_4, v_times_47)).bind (fun e_74 => some (.inl (x2_47 + (1 : Int32), e_74))))))
def f_X10_splices_b158 (N : Nat) (v_splicedMany_158 : Int32) (x2_158 : Int32) (v_times_158 : (Nat → Int32)) (v_spliced_158 : (Nat → Int32)) (v_piece_158 : (Nat → Int32)) (v_p1 : (Nat → Int32)) : Option ((Int32 × Int32 × (Nat → Int32) × (Nat → Int32) × (Nat → Int32)) ⊕ (Int32 × (Nat → Int32) × (Nat → Int32) × (Nat → Int32))) :=
  (if v_splicedMany_158 ≤ x2_158 then some (.inr (v_splicedMany_158, v_times_158, v_spliced_158, v_piece_158)) else ga x2_158 26 ((f_X10_leftAt N (v_spliced_158 (Int32.toNatClampNeg x2_158)) v_times_158 v_p1).bind (fun r_leftAt_7 => (if r_leftAt_7 < 0 then some (.inl (x2_158 + (1 : Int32), v_splicedMany_158, v_times_158, v_spliced_158, v_piece_158)) else (f_X10_putsIn N x2_158 v_splicedMany_158 v_times_158 v_spliced_158 v_piece_158 v_p1).bind (fun r_putsIn_8 => some (.inl (x2_158, r_putsIn_8.1, r_putsIn_8.2.1, r_putsIn_8.2.2.1, r_putsIn_8.2.2.2)))))))
def f_X10_splices (N : Nat) (v_splicedMany : Int32) (v_dists : (Nat → Int32)) (v_partners : (Nat → Int32)) (v_times : (Nat → Int32)) (v_spliced : (Nat → Int32)) (v_piece : (Nat → Int32)) (v_p1 : (Nat → Int32)) : Option (Int32 × Int32 × (Nat → Int32) × (Nat → Int32) × (Nat → Int32) × (Nat → Int32) × (Nat → Int32)) :=
  (f_X10_matches N v_dists v_partners v_p1).bind (fun r_matches_1 => (if 0 ≤ r_matches_1.1 then (lp (fun s_12 => f_X10_splices_b12 v_p1 s_12.1 s_12.2) N ((0 : Int32), v_times)).bind (fun e_12 => (lp (fun s_47 => f_X10_splices_b47 N s_47.1 s_47.2 r_matches_1.2.2 r_matches_1.2.1 v_p1) N ((0 : Int32), e_12)).bind (fun e_47 => ga (48 : Int32) 50 (ga (0 : Int32) 26 ((lp (fun s_158 => f_X10_splices_b158 N s_158.2.1 s_158.1 s_158.2.2.1 s_158.2.2.2.1 s_158.2.2.2.2 v_p1) N ((0 : Int32), (1 : Int32), e_47, upd v_spliced (Int32.toNatClampNeg (0 : Int32)) (v_p1 (Int32.toNatClampNeg (48 : Int32))), v_piece)).bind (fun e_158 => some ((1 : Int32), e_158.1, r_matches_1.2.1, r_matches_1.2.2, e_158.2.1, e_158.2.2.1, e_158.2.2.2)))))) else some ((0 : Int32), v_splicedMany, r_matches_1.2.1, r_matches_1.2.2, v_times, v_spliced, v_piece)))
set_option maxRecDepth 100000 in
set_option maxHeartbeats 4000000 in
theorem c_X10_splices (l : Launch) (D : va_G) (N : Nat) {q_this q_dists q_partners q_times q_spliced q_piece q_p1 : Nat} {w_now w_kept w_trial w_refusals w_row w_letters w_left w_steps w_balances w_prices w_hands w_hand w_dealing : Value} {v_hasImage : Int32} {v_rows : Int32} {v_lettered : Int32} {v_stepsMany : Int32} {v_splicedMany : Int32} {v_most : Int32} {v_together : Int32} {v_z : Int32} {v_dists : (Nat → Int32)} {v_partners : (Nat → Int32)} {v_times : (Nat → Int32)} {v_spliced : (Nat → Int32)} {v_piece : (Nat → Int32)} {v_p1 : (Nat → Int32)} {o : (Int32 × Int32 × (Nat → Int32) × (Nat → Int32) × (Nat → Int32) × (Nat → Int32) × (Nat → Int32))} (h : f_X10_splices N v_splicedMany v_dists v_partners v_times v_spliced v_piece v_p1 = some o) : CT l D yX10_splices cX10_splices 5 (Option.some FieldType.boolean) 11 [.ref q_this, .ref q_p1] (w_X10_splices D q_this q_dists q_partners q_times q_spliced q_piece q_p1 w_now w_kept w_trial w_refusals w_row w_letters w_left w_steps w_balances w_prices w_hands w_hand w_dealing v_hasImage v_rows v_lettered v_stepsMany v_splicedMany v_most v_together v_z v_dists v_partners v_times v_spliced v_piece v_p1) (w_X10_splices D q_this q_dists q_partners q_times q_spliced q_piece q_p1 w_now w_kept w_trial w_refusals w_row w_letters w_left w_steps w_balances w_prices w_hands w_hand w_dealing v_hasImage v_rows v_lettered v_stepsMany o.2.1 v_most v_together v_z o.2.2.1 o.2.2.2.1 o.2.2.2.2.1 o.2.2.2.2.2.1 o.2.2.2.2.2.2 v_p1) (some (.int o.1)) := by
  refine CT.of mk_X10_splices (Nat.le_of_ble_eq_true rfl) (fun g hl hD C E => ?_)
  subst hl
  subst hD
  unfold f_X10_splices at h
  refine j_aload_n C dX10_splices_0 rfl ?_
  refine j_aload_n C dX10_splices_1 rfl ?_
  obtain ⟨r_matches_1, h_1, h⟩ := of_bind h
  refine j_callV1 C mk_X10_matches ms_X10_matches kw_1280 (c_X10_matches (gl g) (gD g) N h_1) (by decide) 0 w_X10_splices_g0 rfl [0, 1, 2, 6] (hC_cons w_X10_splices_g0 (hC_cons w_X10_splices_g1 (hC_cons w_X10_splices_g2 (hC_cons w_X10_splices_g6 hC_nil)))) rfl (w_X10_matches_a.trans w_X10_matches_a.symm) rfl rfl (Nat.le_of_ble_eq_true rfl) dX10_splices_2 (wput_cons w_X10_splices_s0 (wput_cons w_X10_splices_s1 (wput_cons w_X10_splices_s2 (wput_cons w_X10_splices_s6 wput_nil)))) ?_
  refine j_if_ge C h 10 dX10_splices_5 (by decide) (fun hc h => ?_) (fun hc h => ?_)
  · refine j_iconst C (0) dX10_splices_10 ki_0 ?_
    refine j_istore_n C dX10_splices_11 (by decide) ?_
    obtain ⟨e_12, hl_12, h⟩ := of_bind h
    have ha_12 : J g (w_X10_splices (gD g) q_this q_dists q_partners q_times q_spliced q_piece q_p1 w_now w_kept w_trial w_refusals w_row w_letters w_left w_steps w_balances w_prices w_hands w_hand w_dealing v_hasImage v_rows v_lettered v_stepsMany v_splicedMany v_most v_together v_z r_matches_1.2.1 r_matches_1.2.2 e_12 v_spliced v_piece v_p1) [(0, .ref q_this), (1, .ref q_p1)] 45 [] := by
      refine j_iconst C (0) dX10_splices_45 ki_0 ?_
      refine j_istore_n C dX10_splices_46 (by decide) ?_
      obtain ⟨e_47, hl_47, h⟩ := of_bind h
      have ha_47 : J g (w_X10_splices (gD g) q_this q_dists q_partners q_times q_spliced q_piece q_p1 w_now w_kept w_trial w_refusals w_row w_letters w_left w_steps w_balances w_prices w_hands w_hand w_dealing v_hasImage v_rows v_lettered v_stepsMany v_splicedMany v_most v_together v_z r_matches_1.2.1 r_matches_1.2.2 e_47 v_spliced v_piece v_p1) [(0, .ref q_this), (1, .ref q_p1)] 141 [] := by
        refine j_aload_n C dX10_splices_141 rfl ?_
        refine j_get C 0 w_X10_splices_g0 rfl inX10 15 (by decide) kw_996 rfl rfl dX10_splices_142 ?_
        refine j_iconst C (0) dX10_splices_145 ki_0 ?_
        refine j_aload_n C dX10_splices_146 rfl ?_
        refine j_bipush C (48) dX10_splices_147 kb_48 ?_
        refine j_iaload 6 C h w_X10_splices_g6 rfl dX10_splices_149 (fun h => ?_)
        refine j_iastore 4 C h w_X10_splices_g4 rfl dX10_splices_150 (fun h => ?_)
        refine j_ws w_X10_splices_s4 ?_
        refine j_aload_n C dX10_splices_151 rfl ?_
        refine j_iconst C (1) dX10_splices_152 ki_1 ?_
        refine j_put C 0 w_X10_splices_g0 rfl inX10 tyX10_ok nmX10 16 (by decide) kw_997 rfl rfl rfl rfl (Nat.le_of_ble_eq_true rfl) dX10_splices_153 ?_
        refine j_ws w_X10_splices_s0 ?_
        refine j_iconst C (0) dX10_splices_156 ki_0 ?_
        refine j_istore_n C dX10_splices_157 (by decide) ?_
        obtain ⟨e_158, hl_158, h⟩ := of_bind h
        have ha_158 : J g (w_X10_splices (gD g) q_this q_dists q_partners q_times q_spliced q_piece q_p1 w_now w_kept w_trial w_refusals w_row w_letters w_left w_steps w_balances w_prices w_hands w_hand w_dealing v_hasImage v_rows v_lettered v_stepsMany e_158.1 v_most v_together v_z r_matches_1.2.1 r_matches_1.2.2 e_158.2.1 e_158.2.2.1 e_158.2.2.2 v_p1) [] 195 [] := by
          refine j_iconst C (1) dX10_splices_195 ki_1 ?_
          have h := Option.some.inj h
          subst h
          exact j_zret C E rfl dX10_splices_196
        refine j_lv (lv' := [(0, .ref q_this), (1, .ref q_p1), (2, .int ((0 : Int32)))]) rfl ?_
        refine lp_ind hl_158 (fun s_158 => J g (w_X10_splices (gD g) q_this q_dists q_partners q_times q_spliced q_piece q_p1 w_now w_kept w_trial w_refusals w_row w_letters w_left w_steps w_balances w_prices w_hands w_hand w_dealing v_hasImage v_rows v_lettered v_stepsMany s_158.2.1 v_most v_together v_z r_matches_1.2.1 r_matches_1.2.2 s_158.2.2.1 s_158.2.2.2.1 s_158.2.2.2.2 v_p1) [(0, .ref q_this), (1, .ref q_p1), (2, .int (s_158.1))] 158 []) (fun s_158 r_158 h hc_158 hx_158 => ?_)
        unfold f_X10_splices_b158 at h
        refine j_iload_n C dX10_splices_158 rfl ?_
        refine j_aload_n C dX10_splices_159 rfl ?_
        refine j_get C 0 w_X10_splices_g0 rfl inX10 16 (by decide) kw_997 rfl rfl dX10_splices_160 ?_
        refine j_icmp_ge C h 195 dX10_splices_163 (by decide) (fun hc h => ?_) (fun hc h => ?_)
        · have h := Option.some.inj h
          subst h
          have h9 := hx_158 _ rfl
          subst h9
          exact j_lw ha_158 rfl
        · refine j_aload_n C dX10_splices_166 rfl ?_
          refine j_aload_n C dX10_splices_167 rfl ?_
          refine j_aload_n C dX10_splices_168 rfl ?_
          refine j_get C 0 w_X10_splices_g0 rfl inX10 15 (by decide) kw_996 rfl rfl dX10_splices_169 ?_
          refine j_iload_n C dX10_splices_172 rfl ?_
          refine j_iaload 4 C h w_X10_splices_g4 rfl dX10_splices_173 (fun h => ?_)
          obtain ⟨r_leftAt_7, h_7, h⟩ := of_bind h
          refine j_callV1 C mk_X10_leftAt ms_X10_leftAt kw_1304 (c_X10_leftAt (gl g) (gD g) N h_7) (by decide) 0 w_X10_splices_g0 rfl [0, 3, 6] (hC_cons w_X10_splices_g0 (hC_cons w_X10_splices_g3 (hC_cons w_X10_splices_g6 hC_nil))) rfl (w_X10_leftAt_a.trans w_X10_leftAt_a.symm) rfl rfl (Nat.le_of_ble_eq_true rfl) dX10_splices_174 (wput_cons w_X10_splices_s0 (wput_cons w_X10_splices_s3 (wput_cons w_X10_splices_s6 wput_nil))) ?_
          refine j_if_lt C h 189 dX10_splices_177 (by decide) (fun hc h => ?_) (fun hc h => ?_)
          · refine j_inc C (1) dX10_splices_189 rfl ki_1 (by decide) ?_
            refine j_goto C 158 dX10_splices_192 (by decide) ?_
            have h := Option.some.inj h
            subst h
            have hc9 := hc_158 _ rfl
            exact j_lw hc9 rfl
          · refine j_aload_n C dX10_splices_180 rfl ?_
            refine j_aload_n C dX10_splices_181 rfl ?_
            refine j_iload_n C dX10_splices_182 rfl ?_
            obtain ⟨r_putsIn_8, h_8, h⟩ := of_bind h
            refine j_callV0 C mk_X10_putsIn ms_X10_putsIn kw_1308 (c_X10_putsIn (gl g) (gD g) N h_8) (by decide) 0 w_X10_splices_g0 rfl [0, 3, 4, 5, 6] (hC_cons w_X10_splices_g0 (hC_cons w_X10_splices_g3 (hC_cons w_X10_splices_g4 (hC_cons w_X10_splices_g5 (hC_cons w_X10_splices_g6 hC_nil))))) rfl (w_X10_putsIn_a.trans w_X10_putsIn_a.symm) rfl rfl (Nat.le_of_ble_eq_true rfl) dX10_splices_183 (wput_cons w_X10_splices_s0 (wput_cons w_X10_splices_s3 (wput_cons w_X10_splices_s4 (wput_cons w_X10_splices_s5 (wput_cons w_X10_splices_s6 wput_nil))))) ?_
            refine j_goto C 158 dX10_splices_186 (by decide) ?_
            have h := Option.some.inj h
            subst h
            have hc9 := hc_158 _ rfl
            exact j_lw hc9 rfl
      refine j_lv (lv' := [(0, .ref q_this), (1, .ref q_p1), (2, .int ((0 : Int32)))]) rfl ?_
      refine lp_ind hl_47 (fun s_47 => J g (w_X10_splices (gD g) q_this q_dists q_partners q_times q_spliced q_piece q_p1 w_now w_kept w_trial w_refusals w_row w_letters w_left w_steps w_balances w_prices w_hands w_hand w_dealing v_hasImage v_rows v_lettered v_stepsMany v_splicedMany v_most v_together v_z r_matches_1.2.1 r_matches_1.2.2 s_47.2 v_spliced v_piece v_p1) [(0, .ref q_this), (1, .ref q_p1), (2, .int (s_47.1))] 47 []) (fun s_47 r_47 h hc_47 hx_47 => ?_)
      unfold f_X10_splices_b47 at h
      refine j_iload_n C dX10_splices_47 rfl ?_
      refine j_bipush C (6) dX10_splices_48 kb_6 ?_
      refine j_icmp_ge C h 141 dX10_splices_50 (by decide) (fun hc h => ?_) (fun hc h => ?_)
      · have h := Option.some.inj h
        subst h
        have h9 := hx_47 _ rfl
        subst h9
        exact j_lw ha_47 rfl
      · refine j_aload_n C dX10_splices_53 rfl ?_
        refine j_get C 0 w_X10_splices_g0 rfl inX10 13 (by decide) kw_994 rfl rfl dX10_splices_54 ?_
        refine j_iload_n C dX10_splices_57 rfl ?_
        refine j_iaload 2 C h w_X10_splices_g2 rfl dX10_splices_58 (fun h => ?_)
        refine j_iload_n C dX10_splices_59 rfl ?_
        obtain ⟨m_4, hm_4, h⟩ := of_bind h
        have hj_4 : J g (w_X10_splices (gD g) q_this q_dists q_partners q_times q_spliced q_piece q_p1 w_now w_kept w_trial w_refusals w_row w_letters w_left w_steps w_balances w_prices w_hands w_hand w_dealing v_hasImage v_rows v_lettered v_stepsMany v_splicedMany v_most v_together v_z r_matches_1.2.1 r_matches_1.2.2 s_47.2 v_spliced v_piece v_p1) [(0, .ref q_this), (1, .ref q_p1), (2, .int (s_47.1))] 73 [.int (m_4)] := by
          refine j_istore_n C dX10_splices_73 (by decide) ?_
          obtain ⟨e_74, hl_74, h⟩ := of_bind h
          have ha_74 : J g (w_X10_splices (gD g) q_this q_dists q_partners q_times q_spliced q_piece q_p1 w_now w_kept w_trial w_refusals w_row w_letters w_left w_steps w_balances w_prices w_hands w_hand w_dealing v_hasImage v_rows v_lettered v_stepsMany v_splicedMany v_most v_together v_z r_matches_1.2.1 r_matches_1.2.2 e_74 v_spliced v_piece v_p1) [(0, .ref q_this), (1, .ref q_p1), (2, .int (s_47.1))] 135 [] := by
            refine j_inc C (1) dX10_splices_135 rfl ki_1 (by decide) ?_
            refine j_goto C 47 dX10_splices_138 (by decide) ?_
            have h := Option.some.inj h
            subst h
            have hc9 := hc_47 _ rfl
            exact j_lw hc9 rfl
          refine j_lv (lv' := [(0, .ref q_this), (1, .ref q_p1), (2, .int (s_47.1)), (3, .int (m_4))]) rfl ?_
          refine lp_ind hl_74 (fun s_74 => J g (w_X10_splices (gD g) q_this q_dists q_partners q_times q_spliced q_piece q_p1 w_now w_kept w_trial w_refusals w_row w_letters w_left w_steps w_balances w_prices w_hands w_hand w_dealing v_hasImage v_rows v_lettered v_stepsMany v_splicedMany v_most v_together v_z r_matches_1.2.1 r_matches_1.2.2 s_74.2 v_spliced v_piece v_p1) [(0, .ref q_this), (1, .ref q_p1), (2, .int (s_47.1)), (3, .int (s_74.1))] 74 []) (fun s_74 r_74 h hc_74 hx_74 => ?_)
          unfold f_X10_splices_b74 at h
          refine j_iload_n C dX10_splices_74 rfl ?_
          refine j_if_lt C h 135 dX10_splices_75 (by decide) (fun hc h => ?_) (fun hc h => ?_)
          · have h := Option.some.inj h
            subst h
            have h9 := hx_74 _ rfl
            subst h9
            exact j_lw ha_74 rfl
          · refine j_aload_n C dX10_splices_78 rfl ?_
            refine j_get C 0 w_X10_splices_g0 rfl inX10 13 (by decide) kw_994 rfl rfl dX10_splices_79 ?_
            refine j_iload_n C dX10_splices_82 rfl ?_
            refine j_iaload 2 C h w_X10_splices_g2 rfl dX10_splices_83 (fun h => ?_)
            refine j_iload_n C dX10_splices_84 rfl ?_
            refine j_icmp_le C h 135 dX10_splices_85 (by decide) (fun hc h => ?_) (fun hc h => ?_)
            · have h := Option.some.inj h
              subst h
              have h9 := hx_74 _ rfl
              subst h9
              exact j_lw ha_74 rfl
            · refine j_iload_n C dX10_splices_88 rfl ?_
              refine j_aload_n C dX10_splices_89 rfl ?_
              refine j_get C 0 w_X10_splices_g0 rfl inX10 13 (by decide) kw_994 rfl rfl dX10_splices_90 ?_
              refine j_iload_n C dX10_splices_93 rfl ?_
              refine j_iaload 2 C h w_X10_splices_g2 rfl dX10_splices_94 (fun h => ?_)
              refine j_icmp_eq C h 135 dX10_splices_95 (by decide) (fun hc h => ?_) (fun hc h => ?_)
              · have h := Option.some.inj h
                subst h
                have h9 := hx_74 _ rfl
                subst h9
                exact j_lw ha_74 rfl
              · refine j_aload_n C dX10_splices_98 rfl ?_
                refine j_aload_n C dX10_splices_99 rfl ?_
                refine j_iload_n C dX10_splices_100 rfl ?_
                refine j_aload_n C dX10_splices_101 rfl ?_
                refine j_get C 0 w_X10_splices_g0 rfl inX10 13 (by decide) kw_994 rfl rfl dX10_splices_102 ?_
                refine j_iload_n C dX10_splices_105 rfl ?_
                refine j_iaload 2 C h w_X10_splices_g2 rfl dX10_splices_106 (fun h => ?_)
                obtain ⟨r_nextStep_5, h_5, h⟩ := of_bind h
                refine j_callV1 C mk_X10_nextStep ms_X10_nextStep kw_1180 (c_X10_nextStep (gl g) (gD g) N h_5) (by decide) 0 w_X10_splices_g0 rfl [0, 1, 6] (hC_cons w_X10_splices_g0 (hC_cons w_X10_splices_g1 (hC_cons w_X10_splices_g6 hC_nil))) rfl (w_X10_nextStep_a.trans w_X10_nextStep_a.symm) rfl rfl (Nat.le_of_ble_eq_true rfl) dX10_splices_107 (wput_cons w_X10_splices_s0 (wput_cons w_X10_splices_s1 (wput_cons w_X10_splices_s6 wput_nil))) ?_
                refine j_istore C dX10_splices_110 (by decide) ?_
                refine j_aload_n C dX10_splices_112 rfl ?_
                refine j_get C 0 w_X10_splices_g0 rfl inX10 14 (by decide) kw_995 rfl rfl dX10_splices_113 ?_
                refine j_iload C dX10_splices_116 rfl ?_
                refine j_iconst C (2) dX10_splices_118 ki_2 ?_
                refine j_idivc C (by decide) dX10_splices_119 ?_
                refine j_dup2 C dX10_splices_120 rfl rfl ?_
                refine j_iaload 3 C h w_X10_splices_g3 rfl dX10_splices_121 (fun h => ?_)
                refine j_iconst C (1) dX10_splices_122 ki_1 ?_
                refine j_iadd C dX10_splices_123 ?_
                refine j_iastore 3 C h w_X10_splices_g3 rfl dX10_splices_124 (fun h => ?_)
                refine j_ws w_X10_splices_s3 ?_
                refine j_aload_n C dX10_splices_125 rfl ?_
                refine j_iload C dX10_splices_126 rfl ?_
                obtain ⟨r_ends_6, h_6, h⟩ := of_bind h
                refine j_callS1 C mk_X10_ends ms_X10_ends kw_1164 (c_X10_ends (gl g) (gD g) h_6) (by decide) [6] (hC_cons w_X10_splices_g6 hC_nil) rfl (w_X10_ends_a.trans w_X10_ends_a.symm) rfl rfl (Nat.le_of_ble_eq_true rfl) dX10_splices_128 (wput_cons w_X10_splices_s6 wput_nil) ?_
                refine j_istore_n C dX10_splices_131 (by decide) ?_
                refine j_goto C 74 dX10_splices_132 (by decide) ?_
                have h := Option.some.inj h
                subst h
                have hc9 := hc_74 _ rfl
                exact j_lw hc9 rfl
        refine j_icmp_le C hm_4 67 dX10_splices_60 (by decide) (fun hc h => ?_) (fun hc h => ?_)
        · refine j_aload_n C dX10_splices_67 rfl ?_
          refine j_get C 0 w_X10_splices_g0 rfl inX10 13 (by decide) kw_994 rfl rfl dX10_splices_68 ?_
          refine j_iload_n C dX10_splices_71 rfl ?_
          refine j_iaload 2 C h w_X10_splices_g2 rfl dX10_splices_72 (fun h => ?_)
          have h := Option.some.inj h
          subst h
          exact j_lw hj_4 rfl
        · refine j_iload_n C dX10_splices_63 rfl ?_
          refine j_goto C 73 dX10_splices_64 (by decide) ?_
          have h := Option.some.inj h
          subst h
          exact j_lw hj_4 rfl
    refine j_lv (lv' := [(0, .ref q_this), (1, .ref q_p1), (2, .int ((0 : Int32)))]) rfl ?_
    refine lp_ind hl_12 (fun s_12 => J g (w_X10_splices (gD g) q_this q_dists q_partners q_times q_spliced q_piece q_p1 w_now w_kept w_trial w_refusals w_row w_letters w_left w_steps w_balances w_prices w_hands w_hand w_dealing v_hasImage v_rows v_lettered v_stepsMany v_splicedMany v_most v_together v_z r_matches_1.2.1 r_matches_1.2.2 s_12.2 v_spliced v_piece v_p1) [(0, .ref q_this), (1, .ref q_p1), (2, .int (s_12.1))] 12 []) (fun s_12 r_12 h hc_12 hx_12 => ?_)
    unfold f_X10_splices_b12 at h
    refine j_iload_n C dX10_splices_12 rfl ?_
    refine j_aload_n C dX10_splices_13 rfl ?_
    refine j_bipush C (49) dX10_splices_14 kb_49 ?_
    refine j_iaload 6 C h w_X10_splices_g6 rfl dX10_splices_16 (fun h => ?_)
    refine j_icmp_ge C h 45 dX10_splices_17 (by decide) (fun hc h => ?_) (fun hc h => ?_)
    · have h := Option.some.inj h
      subst h
      have h9 := hx_12 _ rfl
      subst h9
      exact j_lw ha_12 rfl
    · refine j_aload_n C dX10_splices_20 rfl ?_
      refine j_get C 0 w_X10_splices_g0 rfl inX10 14 (by decide) kw_995 rfl rfl dX10_splices_21 ?_
      refine j_iload_n C dX10_splices_24 rfl ?_
      refine j_aload_n C dX10_splices_25 rfl ?_
      refine j_iload_n C dX10_splices_26 rfl ?_
      obtain ⟨r_isDue_2, h_2, h⟩ := of_bind h
      refine j_callS1 C mk_X10_isDue ms_X10_isDue kw_1153 (c_X10_isDue (gl g) (gD g) h_2) (by decide) [6] (hC_cons w_X10_splices_g6 hC_nil) rfl (w_X10_isDue_a.trans w_X10_isDue_a.symm) rfl rfl (Nat.le_of_ble_eq_true rfl) dX10_splices_27 (wput_cons w_X10_splices_s6 wput_nil) ?_
      have hj_3 : J g (w_X10_splices (gD g) q_this q_dists q_partners q_times q_spliced q_piece q_p1 w_now w_kept w_trial w_refusals w_row w_letters w_left w_steps w_balances w_prices w_hands w_hand w_dealing v_hasImage v_rows v_lettered v_stepsMany v_splicedMany v_most v_together v_z r_matches_1.2.1 r_matches_1.2.2 s_12.2 v_spliced v_piece v_p1) [(0, .ref q_this), (1, .ref q_p1), (2, .int (s_12.1))] 38 [.int (if r_isDue_2 = 0 then (0 : Int32) else (1 : Int32)), .int (s_12.1), .ref q_times] := by
        refine j_iastore 3 C h w_X10_splices_g3 rfl dX10_splices_38 (fun h => ?_)
        refine j_ws w_X10_splices_s3 ?_
        refine j_inc C (1) dX10_splices_39 rfl ki_1 (by decide) ?_
        refine j_goto C 12 dX10_splices_42 (by decide) ?_
        have h := Option.some.inj h
        subst h
        have hc9 := hc_12 _ rfl
        exact j_lw hc9 rfl
      refine jv_if_eq C 37 dX10_splices_30 (by decide) (fun hc => ?_) (fun hc => ?_)
      · try simp only [if_pos hc] at hj_3
        refine j_iconst C (0) dX10_splices_37 ki_0 ?_
        exact j_lw hj_3 rfl
      · try simp only [if_neg hc] at hj_3
        refine j_iconst C (1) dX10_splices_33 ki_1 ?_
        refine j_goto C 38 dX10_splices_34 (by decide) ?_
        exact j_lw hj_3 rfl
  · refine j_iconst C (0) dX10_splices_8 ki_0 ?_
    have h := Option.some.inj h
    subst h
    exact j_zret C E rfl dX10_splices_9

def w_X10_spliced (D : va_G) (q_this q_now q_refusals q_dists q_partners q_times q_spliced q_piece : Nat) (w_kept w_trial w_row w_letters w_left w_steps w_balances w_prices w_hands w_hand w_dealing : Value) (v_hasImage : Int32) (v_rows : Int32) (v_lettered : Int32) (v_stepsMany : Int32) (v_splicedMany : Int32) (v_most : Int32) (v_together : Int32) (v_z : Int32) (v_now : (Nat → Int32)) (v_refusals : (Nat → Int32)) (v_dists : (Nat → Int32)) (v_partners : (Nat → Int32)) (v_times : (Nat → Int32)) (v_spliced : (Nat → Int32)) (v_piece : (Nat → Int32)) : va_W := [(q_this, .inr (9, [.ref q_now, w_kept, w_trial, .int v_hasImage, .ref q_refusals, w_row, .int v_rows, w_letters, .int v_lettered, .ref q_dists, w_left, w_steps, .int v_stepsMany, .ref q_partners, .ref q_times, .ref q_spliced, .int v_splicedMany, .ref q_piece, w_balances, w_prices, w_hands, w_hand, w_dealing, .int v_most, .int v_together, .int v_z])), (q_now, .inl (D.1 100, 50, .inl v_now)), (q_refusals, .inl (D.1 100, 7, .inl v_refusals)), (q_dists, .inl (D.1 100, 36, .inl v_dists)), (q_partners, .inl (D.1 100, 6, .inl v_partners)), (q_times, .inl (D.1 100, 8, .inl v_times)), (q_spliced, .inl (D.1 100, 26, .inl v_spliced)), (q_piece, .inl (D.1 100, 26, .inl v_piece))]
theorem w_X10_spliced_g0 {D : va_G} {q_this : Nat} {q_now : Nat} {q_refusals : Nat} {q_dists : Nat} {q_partners : Nat} {q_times : Nat} {q_spliced : Nat} {q_piece : Nat} {w_kept : Value} {w_trial : Value} {w_row : Value} {w_letters : Value} {w_left : Value} {w_steps : Value} {w_balances : Value} {w_prices : Value} {w_hands : Value} {w_hand : Value} {w_dealing : Value} {v_hasImage : Int32} {v_rows : Int32} {v_lettered : Int32} {v_stepsMany : Int32} {v_splicedMany : Int32} {v_most : Int32} {v_together : Int32} {v_z : Int32} {v_now : (Nat → Int32)} {v_refusals : (Nat → Int32)} {v_dists : (Nat → Int32)} {v_partners : (Nat → Int32)} {v_times : (Nat → Int32)} {v_spliced : (Nat → Int32)} {v_piece : (Nat → Int32)} : (w_X10_spliced D q_this q_now q_refusals q_dists q_partners q_times q_spliced q_piece w_kept w_trial w_row w_letters w_left w_steps w_balances w_prices w_hands w_hand w_dealing v_hasImage v_rows v_lettered v_stepsMany v_splicedMany v_most v_together v_z v_now v_refusals v_dists v_partners v_times v_spliced v_piece)[0]? = some (q_this, .inr (9, [.ref q_now, w_kept, w_trial, .int v_hasImage, .ref q_refusals, w_row, .int v_rows, w_letters, .int v_lettered, .ref q_dists, w_left, w_steps, .int v_stepsMany, .ref q_partners, .ref q_times, .ref q_spliced, .int v_splicedMany, .ref q_piece, w_balances, w_prices, w_hands, w_hand, w_dealing, .int v_most, .int v_together, .int v_z])) := rfl
theorem w_X10_spliced_s0 {D : va_G} {q_this : Nat} {q_now : Nat} {q_refusals : Nat} {q_dists : Nat} {q_partners : Nat} {q_times : Nat} {q_spliced : Nat} {q_piece : Nat} {w_kept : Value} {w_trial : Value} {w_row : Value} {w_letters : Value} {w_left : Value} {w_steps : Value} {w_balances : Value} {w_prices : Value} {w_hands : Value} {w_hand : Value} {w_dealing : Value} {v_hasImage : Int32} {v_rows : Int32} {v_lettered : Int32} {v_stepsMany : Int32} {v_splicedMany : Int32} {v_most : Int32} {v_together : Int32} {v_z : Int32} {v_now : (Nat → Int32)} {v_refusals : (Nat → Int32)} {v_dists : (Nat → Int32)} {v_partners : (Nat → Int32)} {v_times : (Nat → Int32)} {v_spliced : (Nat → Int32)} {v_piece : (Nat → Int32)} {v_hasImage' : Int32} {v_rows' : Int32} {v_lettered' : Int32} {v_stepsMany' : Int32} {v_splicedMany' : Int32} {v_most' : Int32} {v_together' : Int32} {v_z' : Int32} : (w_X10_spliced D q_this q_now q_refusals q_dists q_partners q_times q_spliced q_piece w_kept w_trial w_row w_letters w_left w_steps w_balances w_prices w_hands w_hand w_dealing v_hasImage v_rows v_lettered v_stepsMany v_splicedMany v_most v_together v_z v_now v_refusals v_dists v_partners v_times v_spliced v_piece).set 0 (q_this, .inr (9, [.ref q_now, w_kept, w_trial, .int v_hasImage', .ref q_refusals, w_row, .int v_rows', w_letters, .int v_lettered', .ref q_dists, w_left, w_steps, .int v_stepsMany', .ref q_partners, .ref q_times, .ref q_spliced, .int v_splicedMany', .ref q_piece, w_balances, w_prices, w_hands, w_hand, w_dealing, .int v_most', .int v_together', .int v_z'])) = (w_X10_spliced D q_this q_now q_refusals q_dists q_partners q_times q_spliced q_piece w_kept w_trial w_row w_letters w_left w_steps w_balances w_prices w_hands w_hand w_dealing v_hasImage' v_rows' v_lettered' v_stepsMany' v_splicedMany' v_most' v_together' v_z' v_now v_refusals v_dists v_partners v_times v_spliced v_piece) := rfl
theorem w_X10_spliced_g1 {D : va_G} {q_this : Nat} {q_now : Nat} {q_refusals : Nat} {q_dists : Nat} {q_partners : Nat} {q_times : Nat} {q_spliced : Nat} {q_piece : Nat} {w_kept : Value} {w_trial : Value} {w_row : Value} {w_letters : Value} {w_left : Value} {w_steps : Value} {w_balances : Value} {w_prices : Value} {w_hands : Value} {w_hand : Value} {w_dealing : Value} {v_hasImage : Int32} {v_rows : Int32} {v_lettered : Int32} {v_stepsMany : Int32} {v_splicedMany : Int32} {v_most : Int32} {v_together : Int32} {v_z : Int32} {v_now : (Nat → Int32)} {v_refusals : (Nat → Int32)} {v_dists : (Nat → Int32)} {v_partners : (Nat → Int32)} {v_times : (Nat → Int32)} {v_spliced : (Nat → Int32)} {v_piece : (Nat → Int32)} : (w_X10_spliced D q_this q_now q_refusals q_dists q_partners q_times q_spliced q_piece w_kept w_trial w_row w_letters w_left w_steps w_balances w_prices w_hands w_hand w_dealing v_hasImage v_rows v_lettered v_stepsMany v_splicedMany v_most v_together v_z v_now v_refusals v_dists v_partners v_times v_spliced v_piece)[1]? = some (q_now, .inl (D.1 100, 50, .inl v_now)) := rfl
theorem w_X10_spliced_s1 {D : va_G} {q_this : Nat} {q_now : Nat} {q_refusals : Nat} {q_dists : Nat} {q_partners : Nat} {q_times : Nat} {q_spliced : Nat} {q_piece : Nat} {w_kept : Value} {w_trial : Value} {w_row : Value} {w_letters : Value} {w_left : Value} {w_steps : Value} {w_balances : Value} {w_prices : Value} {w_hands : Value} {w_hand : Value} {w_dealing : Value} {v_hasImage : Int32} {v_rows : Int32} {v_lettered : Int32} {v_stepsMany : Int32} {v_splicedMany : Int32} {v_most : Int32} {v_together : Int32} {v_z : Int32} {v_now : (Nat → Int32)} {v_refusals : (Nat → Int32)} {v_dists : (Nat → Int32)} {v_partners : (Nat → Int32)} {v_times : (Nat → Int32)} {v_spliced : (Nat → Int32)} {v_piece : (Nat → Int32)} {v_now' : (Nat → Int32)} : (w_X10_spliced D q_this q_now q_refusals q_dists q_partners q_times q_spliced q_piece w_kept w_trial w_row w_letters w_left w_steps w_balances w_prices w_hands w_hand w_dealing v_hasImage v_rows v_lettered v_stepsMany v_splicedMany v_most v_together v_z v_now v_refusals v_dists v_partners v_times v_spliced v_piece).set 1 (q_now, .inl (D.1 100, 50, .inl v_now')) = (w_X10_spliced D q_this q_now q_refusals q_dists q_partners q_times q_spliced q_piece w_kept w_trial w_row w_letters w_left w_steps w_balances w_prices w_hands w_hand w_dealing v_hasImage v_rows v_lettered v_stepsMany v_splicedMany v_most v_together v_z v_now' v_refusals v_dists v_partners v_times v_spliced v_piece) := rfl
theorem w_X10_spliced_g2 {D : va_G} {q_this : Nat} {q_now : Nat} {q_refusals : Nat} {q_dists : Nat} {q_partners : Nat} {q_times : Nat} {q_spliced : Nat} {q_piece : Nat} {w_kept : Value} {w_trial : Value} {w_row : Value} {w_letters : Value} {w_left : Value} {w_steps : Value} {w_balances : Value} {w_prices : Value} {w_hands : Value} {w_hand : Value} {w_dealing : Value} {v_hasImage : Int32} {v_rows : Int32} {v_lettered : Int32} {v_stepsMany : Int32} {v_splicedMany : Int32} {v_most : Int32} {v_together : Int32} {v_z : Int32} {v_now : (Nat → Int32)} {v_refusals : (Nat → Int32)} {v_dists : (Nat → Int32)} {v_partners : (Nat → Int32)} {v_times : (Nat → Int32)} {v_spliced : (Nat → Int32)} {v_piece : (Nat → Int32)} : (w_X10_spliced D q_this q_now q_refusals q_dists q_partners q_times q_spliced q_piece w_kept w_trial w_row w_letters w_left w_steps w_balances w_prices w_hands w_hand w_dealing v_hasImage v_rows v_lettered v_stepsMany v_splicedMany v_most v_together v_z v_now v_refusals v_dists v_partners v_times v_spliced v_piece)[2]? = some (q_refusals, .inl (D.1 100, 7, .inl v_refusals)) := rfl
theorem w_X10_spliced_s2 {D : va_G} {q_this : Nat} {q_now : Nat} {q_refusals : Nat} {q_dists : Nat} {q_partners : Nat} {q_times : Nat} {q_spliced : Nat} {q_piece : Nat} {w_kept : Value} {w_trial : Value} {w_row : Value} {w_letters : Value} {w_left : Value} {w_steps : Value} {w_balances : Value} {w_prices : Value} {w_hands : Value} {w_hand : Value} {w_dealing : Value} {v_hasImage : Int32} {v_rows : Int32} {v_lettered : Int32} {v_stepsMany : Int32} {v_splicedMany : Int32} {v_most : Int32} {v_together : Int32} {v_z : Int32} {v_now : (Nat → Int32)} {v_refusals : (Nat → Int32)} {v_dists : (Nat → Int32)} {v_partners : (Nat → Int32)} {v_times : (Nat → Int32)} {v_spliced : (Nat → Int32)} {v_piece : (Nat → Int32)} {v_refusals' : (Nat → Int32)} : (w_X10_spliced D q_this q_now q_refusals q_dists q_partners q_times q_spliced q_piece w_kept w_trial w_row w_letters w_left w_steps w_balances w_prices w_hands w_hand w_dealing v_hasImage v_rows v_lettered v_stepsMany v_splicedMany v_most v_together v_z v_now v_refusals v_dists v_partners v_times v_spliced v_piece).set 2 (q_refusals, .inl (D.1 100, 7, .inl v_refusals')) = (w_X10_spliced D q_this q_now q_refusals q_dists q_partners q_times q_spliced q_piece w_kept w_trial w_row w_letters w_left w_steps w_balances w_prices w_hands w_hand w_dealing v_hasImage v_rows v_lettered v_stepsMany v_splicedMany v_most v_together v_z v_now v_refusals' v_dists v_partners v_times v_spliced v_piece) := rfl
theorem w_X10_spliced_g3 {D : va_G} {q_this : Nat} {q_now : Nat} {q_refusals : Nat} {q_dists : Nat} {q_partners : Nat} {q_times : Nat} {q_spliced : Nat} {q_piece : Nat} {w_kept : Value} {w_trial : Value} {w_row : Value} {w_letters : Value} {w_left : Value} {w_steps : Value} {w_balances : Value} {w_prices : Value} {w_hands : Value} {w_hand : Value} {w_dealing : Value} {v_hasImage : Int32} {v_rows : Int32} {v_lettered : Int32} {v_stepsMany : Int32} {v_splicedMany : Int32} {v_most : Int32} {v_together : Int32} {v_z : Int32} {v_now : (Nat → Int32)} {v_refusals : (Nat → Int32)} {v_dists : (Nat → Int32)} {v_partners : (Nat → Int32)} {v_times : (Nat → Int32)} {v_spliced : (Nat → Int32)} {v_piece : (Nat → Int32)} : (w_X10_spliced D q_this q_now q_refusals q_dists q_partners q_times q_spliced q_piece w_kept w_trial w_row w_letters w_left w_steps w_balances w_prices w_hands w_hand w_dealing v_hasImage v_rows v_lettered v_stepsMany v_splicedMany v_most v_together v_z v_now v_refusals v_dists v_partners v_times v_spliced v_piece)[3]? = some (q_dists, .inl (D.1 100, 36, .inl v_dists)) := rfl
theorem w_X10_spliced_s3 {D : va_G} {q_this : Nat} {q_now : Nat} {q_refusals : Nat} {q_dists : Nat} {q_partners : Nat} {q_times : Nat} {q_spliced : Nat} {q_piece : Nat} {w_kept : Value} {w_trial : Value} {w_row : Value} {w_letters : Value} {w_left : Value} {w_steps : Value} {w_balances : Value} {w_prices : Value} {w_hands : Value} {w_hand : Value} {w_dealing : Value} {v_hasImage : Int32} {v_rows : Int32} {v_lettered : Int32} {v_stepsMany : Int32} {v_splicedMany : Int32} {v_most : Int32} {v_together : Int32} {v_z : Int32} {v_now : (Nat → Int32)} {v_refusals : (Nat → Int32)} {v_dists : (Nat → Int32)} {v_partners : (Nat → Int32)} {v_times : (Nat → Int32)} {v_spliced : (Nat → Int32)} {v_piece : (Nat → Int32)} {v_dists' : (Nat → Int32)} : (w_X10_spliced D q_this q_now q_refusals q_dists q_partners q_times q_spliced q_piece w_kept w_trial w_row w_letters w_left w_steps w_balances w_prices w_hands w_hand w_dealing v_hasImage v_rows v_lettered v_stepsMany v_splicedMany v_most v_together v_z v_now v_refusals v_dists v_partners v_times v_spliced v_piece).set 3 (q_dists, .inl (D.1 100, 36, .inl v_dists')) = (w_X10_spliced D q_this q_now q_refusals q_dists q_partners q_times q_spliced q_piece w_kept w_trial w_row w_letters w_left w_steps w_balances w_prices w_hands w_hand w_dealing v_hasImage v_rows v_lettered v_stepsMany v_splicedMany v_most v_together v_z v_now v_refusals v_dists' v_partners v_times v_spliced v_piece) := rfl
theorem w_X10_spliced_g4 {D : va_G} {q_this : Nat} {q_now : Nat} {q_refusals : Nat} {q_dists : Nat} {q_partners : Nat} {q_times : Nat} {q_spliced : Nat} {q_piece : Nat} {w_kept : Value} {w_trial : Value} {w_row : Value} {w_letters : Value} {w_left : Value} {w_steps : Value} {w_balances : Value} {w_prices : Value} {w_hands : Value} {w_hand : Value} {w_dealing : Value} {v_hasImage : Int32} {v_rows : Int32} {v_lettered : Int32} {v_stepsMany : Int32} {v_splicedMany : Int32} {v_most : Int32} {v_together : Int32} {v_z : Int32} {v_now : (Nat → Int32)} {v_refusals : (Nat → Int32)} {v_dists : (Nat → Int32)} {v_partners : (Nat → Int32)} {v_times : (Nat → Int32)} {v_spliced : (Nat → Int32)} {v_piece : (Nat → Int32)} : (w_X10_spliced D q_this q_now q_refusals q_dists q_partners q_times q_spliced q_piece w_kept w_trial w_row w_letters w_left w_steps w_balances w_prices w_hands w_hand w_dealing v_hasImage v_rows v_lettered v_stepsMany v_splicedMany v_most v_together v_z v_now v_refusals v_dists v_partners v_times v_spliced v_piece)[4]? = some (q_partners, .inl (D.1 100, 6, .inl v_partners)) := rfl
theorem w_X10_spliced_s4 {D : va_G} {q_this : Nat} {q_now : Nat} {q_refusals : Nat} {q_dists : Nat} {q_partners : Nat} {q_times : Nat} {q_spliced : Nat} {q_piece : Nat} {w_kept : Value} {w_trial : Value} {w_row : Value} {w_letters : Value} {w_left : Value} {w_steps : Value} {w_balances : Value} {w_prices : Value} {w_hands : Value} {w_hand : Value} {w_dealing : Value} {v_hasImage : Int32} {v_rows : Int32} {v_lettered : Int32} {v_stepsMany : Int32} {v_splicedMany : Int32} {v_most : Int32} {v_together : Int32} {v_z : Int32} {v_now : (Nat → Int32)} {v_refusals : (Nat → Int32)} {v_dists : (Nat → Int32)} {v_partners : (Nat → Int32)} {v_times : (Nat → Int32)} {v_spliced : (Nat → Int32)} {v_piece : (Nat → Int32)} {v_partners' : (Nat → Int32)} : (w_X10_spliced D q_this q_now q_refusals q_dists q_partners q_times q_spliced q_piece w_kept w_trial w_row w_letters w_left w_steps w_balances w_prices w_hands w_hand w_dealing v_hasImage v_rows v_lettered v_stepsMany v_splicedMany v_most v_together v_z v_now v_refusals v_dists v_partners v_times v_spliced v_piece).set 4 (q_partners, .inl (D.1 100, 6, .inl v_partners')) = (w_X10_spliced D q_this q_now q_refusals q_dists q_partners q_times q_spliced q_piece w_kept w_trial w_row w_letters w_left w_steps w_balances w_prices w_hands w_hand w_dealing v_hasImage v_rows v_lettered v_stepsMany v_splicedMany v_most v_together v_z v_now v_refusals v_dists v_partners' v_times v_spliced v_piece) := rfl
theorem w_X10_spliced_g5 {D : va_G} {q_this : Nat} {q_now : Nat} {q_refusals : Nat} {q_dists : Nat} {q_partners : Nat} {q_times : Nat} {q_spliced : Nat} {q_piece : Nat} {w_kept : Value} {w_trial : Value} {w_row : Value} {w_letters : Value} {w_left : Value} {w_steps : Value} {w_balances : Value} {w_prices : Value} {w_hands : Value} {w_hand : Value} {w_dealing : Value} {v_hasImage : Int32} {v_rows : Int32} {v_lettered : Int32} {v_stepsMany : Int32} {v_splicedMany : Int32} {v_most : Int32} {v_together : Int32} {v_z : Int32} {v_now : (Nat → Int32)} {v_refusals : (Nat → Int32)} {v_dists : (Nat → Int32)} {v_partners : (Nat → Int32)} {v_times : (Nat → Int32)} {v_spliced : (Nat → Int32)} {v_piece : (Nat → Int32)} : (w_X10_spliced D q_this q_now q_refusals q_dists q_partners q_times q_spliced q_piece w_kept w_trial w_row w_letters w_left w_steps w_balances w_prices w_hands w_hand w_dealing v_hasImage v_rows v_lettered v_stepsMany v_splicedMany v_most v_together v_z v_now v_refusals v_dists v_partners v_times v_spliced v_piece)[5]? = some (q_times, .inl (D.1 100, 8, .inl v_times)) := rfl
theorem w_X10_spliced_s5 {D : va_G} {q_this : Nat} {q_now : Nat} {q_refusals : Nat} {q_dists : Nat} {q_partners : Nat} {q_times : Nat} {q_spliced : Nat} {q_piece : Nat} {w_kept : Value} {w_trial : Value} {w_row : Value} {w_letters : Value} {w_left : Value} {w_steps : Value} {w_balances : Value} {w_prices : Value} {w_hands : Value} {w_hand : Value} {w_dealing : Value} {v_hasImage : Int32} {v_rows : Int32} {v_lettered : Int32} {v_stepsMany : Int32} {v_splicedMany : Int32} {v_most : Int32} {v_together : Int32} {v_z : Int32} {v_now : (Nat → Int32)} {v_refusals : (Nat → Int32)} {v_dists : (Nat → Int32)} {v_partners : (Nat → Int32)} {v_times : (Nat → Int32)} {v_spliced : (Nat → Int32)} {v_piece : (Nat → Int32)} {v_times' : (Nat → Int32)} : (w_X10_spliced D q_this q_now q_refusals q_dists q_partners q_times q_spliced q_piece w_kept w_trial w_row w_letters w_left w_steps w_balances w_prices w_hands w_hand w_dealing v_hasImage v_rows v_lettered v_stepsMany v_splicedMany v_most v_together v_z v_now v_refusals v_dists v_partners v_times v_spliced v_piece).set 5 (q_times, .inl (D.1 100, 8, .inl v_times')) = (w_X10_spliced D q_this q_now q_refusals q_dists q_partners q_times q_spliced q_piece w_kept w_trial w_row w_letters w_left w_steps w_balances w_prices w_hands w_hand w_dealing v_hasImage v_rows v_lettered v_stepsMany v_splicedMany v_most v_together v_z v_now v_refusals v_dists v_partners v_times' v_spliced v_piece) := rfl
theorem w_X10_spliced_g6 {D : va_G} {q_this : Nat} {q_now : Nat} {q_refusals : Nat} {q_dists : Nat} {q_partners : Nat} {q_times : Nat} {q_spliced : Nat} {q_piece : Nat} {w_kept : Value} {w_trial : Value} {w_row : Value} {w_letters : Value} {w_left : Value} {w_steps : Value} {w_balances : Value} {w_prices : Value} {w_hands : Value} {w_hand : Value} {w_dealing : Value} {v_hasImage : Int32} {v_rows : Int32} {v_lettered : Int32} {v_stepsMany : Int32} {v_splicedMany : Int32} {v_most : Int32} {v_together : Int32} {v_z : Int32} {v_now : (Nat → Int32)} {v_refusals : (Nat → Int32)} {v_dists : (Nat → Int32)} {v_partners : (Nat → Int32)} {v_times : (Nat → Int32)} {v_spliced : (Nat → Int32)} {v_piece : (Nat → Int32)} : (w_X10_spliced D q_this q_now q_refusals q_dists q_partners q_times q_spliced q_piece w_kept w_trial w_row w_letters w_left w_steps w_balances w_prices w_hands w_hand w_dealing v_hasImage v_rows v_lettered v_stepsMany v_splicedMany v_most v_together v_z v_now v_refusals v_dists v_partners v_times v_spliced v_piece)[6]? = some (q_spliced, .inl (D.1 100, 26, .inl v_spliced)) := rfl
theorem w_X10_spliced_s6 {D : va_G} {q_this : Nat} {q_now : Nat} {q_refusals : Nat} {q_dists : Nat} {q_partners : Nat} {q_times : Nat} {q_spliced : Nat} {q_piece : Nat} {w_kept : Value} {w_trial : Value} {w_row : Value} {w_letters : Value} {w_left : Value} {w_steps : Value} {w_balances : Value} {w_prices : Value} {w_hands : Value} {w_hand : Value} {w_dealing : Value} {v_hasImage : Int32} {v_rows : Int32} {v_lettered : Int32} {v_stepsMany : Int32} {v_splicedMany : Int32} {v_most : Int32} {v_together : Int32} {v_z : Int32} {v_now : (Nat → Int32)} {v_refusals : (Nat → Int32)} {v_dists : (Nat → Int32)} {v_partners : (Nat → Int32)} {v_times : (Nat → Int32)} {v_spliced : (Nat → Int32)} {v_piece : (Nat → Int32)} {v_spliced' : (Nat → Int32)} : (w_X10_spliced D q_this q_now q_refusals q_dists q_partners q_times q_spliced q_piece w_kept w_trial w_row w_letters w_left w_steps w_balances w_prices w_hands w_hand w_dealing v_hasImage v_rows v_lettered v_stepsMany v_splicedMany v_most v_together v_z v_now v_refusals v_dists v_partners v_times v_spliced v_piece).set 6 (q_spliced, .inl (D.1 100, 26, .inl v_spliced')) = (w_X10_spliced D q_this q_now q_refusals q_dists q_partners q_times q_spliced q_piece w_kept w_trial w_row w_letters w_left w_steps w_balances w_prices w_hands w_hand w_dealing v_hasImage v_rows v_lettered v_stepsMany v_splicedMany v_most v_together v_z v_now v_refusals v_dists v_partners v_times v_spliced' v_piece) := rfl
theorem w_X10_spliced_g7 {D : va_G} {q_this : Nat} {q_now : Nat} {q_refusals : Nat} {q_dists : Nat} {q_partners : Nat} {q_times : Nat} {q_spliced : Nat} {q_piece : Nat} {w_kept : Value} {w_trial : Value} {w_row : Value} {w_letters : Value} {w_left : Value} {w_steps : Value} {w_balances : Value} {w_prices : Value} {w_hands : Value} {w_hand : Value} {w_dealing : Value} {v_hasImage : Int32} {v_rows : Int32} {v_lettered : Int32} {v_stepsMany : Int32} {v_splicedMany : Int32} {v_most : Int32} {v_together : Int32} {v_z : Int32} {v_now : (Nat → Int32)} {v_refusals : (Nat → Int32)} {v_dists : (Nat → Int32)} {v_partners : (Nat → Int32)} {v_times : (Nat → Int32)} {v_spliced : (Nat → Int32)} {v_piece : (Nat → Int32)} : (w_X10_spliced D q_this q_now q_refusals q_dists q_partners q_times q_spliced q_piece w_kept w_trial w_row w_letters w_left w_steps w_balances w_prices w_hands w_hand w_dealing v_hasImage v_rows v_lettered v_stepsMany v_splicedMany v_most v_together v_z v_now v_refusals v_dists v_partners v_times v_spliced v_piece)[7]? = some (q_piece, .inl (D.1 100, 26, .inl v_piece)) := rfl
theorem w_X10_spliced_s7 {D : va_G} {q_this : Nat} {q_now : Nat} {q_refusals : Nat} {q_dists : Nat} {q_partners : Nat} {q_times : Nat} {q_spliced : Nat} {q_piece : Nat} {w_kept : Value} {w_trial : Value} {w_row : Value} {w_letters : Value} {w_left : Value} {w_steps : Value} {w_balances : Value} {w_prices : Value} {w_hands : Value} {w_hand : Value} {w_dealing : Value} {v_hasImage : Int32} {v_rows : Int32} {v_lettered : Int32} {v_stepsMany : Int32} {v_splicedMany : Int32} {v_most : Int32} {v_together : Int32} {v_z : Int32} {v_now : (Nat → Int32)} {v_refusals : (Nat → Int32)} {v_dists : (Nat → Int32)} {v_partners : (Nat → Int32)} {v_times : (Nat → Int32)} {v_spliced : (Nat → Int32)} {v_piece : (Nat → Int32)} {v_piece' : (Nat → Int32)} : (w_X10_spliced D q_this q_now q_refusals q_dists q_partners q_times q_spliced q_piece w_kept w_trial w_row w_letters w_left w_steps w_balances w_prices w_hands w_hand w_dealing v_hasImage v_rows v_lettered v_stepsMany v_splicedMany v_most v_together v_z v_now v_refusals v_dists v_partners v_times v_spliced v_piece).set 7 (q_piece, .inl (D.1 100, 26, .inl v_piece')) = (w_X10_spliced D q_this q_now q_refusals q_dists q_partners q_times q_spliced q_piece w_kept w_trial w_row w_letters w_left w_steps w_balances w_prices w_hands w_hand w_dealing v_hasImage v_rows v_lettered v_stepsMany v_splicedMany v_most v_together v_z v_now v_refusals v_dists v_partners v_times v_spliced v_piece') := rfl
theorem w_X10_spliced_a {D : va_G} {q_this : Nat} {q_now : Nat} {q_refusals : Nat} {q_dists : Nat} {q_partners : Nat} {q_times : Nat} {q_spliced : Nat} {q_piece : Nat} {w_kept : Value} {w_trial : Value} {w_row : Value} {w_letters : Value} {w_left : Value} {w_steps : Value} {w_balances : Value} {w_prices : Value} {w_hands : Value} {w_hand : Value} {w_dealing : Value} {v_hasImage : Int32} {v_rows : Int32} {v_lettered : Int32} {v_stepsMany : Int32} {v_splicedMany : Int32} {v_most : Int32} {v_together : Int32} {v_z : Int32} {v_now : (Nat → Int32)} {v_refusals : (Nat → Int32)} {v_dists : (Nat → Int32)} {v_partners : (Nat → Int32)} {v_times : (Nat → Int32)} {v_spliced : (Nat → Int32)} {v_piece : (Nat → Int32)} : (w_X10_spliced D q_this q_now q_refusals q_dists q_partners q_times q_spliced q_piece w_kept w_trial w_row w_letters w_left w_steps w_balances w_prices w_hands w_hand w_dealing v_hasImage v_rows v_lettered v_stepsMany v_splicedMany v_most v_together v_z v_now v_refusals v_dists v_partners v_times v_spliced v_piece).map (fun q => q.1) = [q_this, q_now, q_refusals, q_dists, q_partners, q_times, q_spliced, q_piece] := rfl
def f_X10_spliced (N : Nat) (x1 : Int32) (v_splicedMany : Int32) (v_now : (Nat → Int32)) (v_refusals : (Nat → Int32)) (v_dists : (Nat → Int32)) (v_partners : (Nat → Int32)) (v_times : (Nat → Int32)) (v_spliced : (Nat → Int32)) (v_piece : (Nat → Int32)) : Option (Int32 × Int32 × (Nat → Int32) × (Nat → Int32) × (Nat → Int32) × (Nat → Int32) × (Nat → Int32) × (Nat → Int32)) :=
  (if (-1 : Int32) ≤ x1 then (f_X10_splices N v_splicedMany v_dists v_partners v_times v_spliced v_piece v_now).bind (fun r_splices_1 => (if r_splices_1.1 = 0 then some ((-9 : Int32), r_splices_1.2.1, v_refusals, r_splices_1.2.2.1, r_splices_1.2.2.2.1, r_splices_1.2.2.2.2.1, r_splices_1.2.2.2.2.2.1, r_splices_1.2.2.2.2.2.2) else (if x1 = (-1 : Int32) then some (r_splices_1.2.1, r_splices_1.2.1, v_refusals, r_splices_1.2.2.1, r_splices_1.2.2.2.1, r_splices_1.2.2.2.2.1, r_splices_1.2.2.2.2.2.1, r_splices_1.2.2.2.2.2.2) else (if r_splices_1.2.1 ≤ x1 then some ((-9 : Int32), r_splices_1.2.1, v_refusals, r_splices_1.2.2.1, r_splices_1.2.2.2.1, r_splices_1.2.2.2.2.1, r_splices_1.2.2.2.2.2.1, r_splices_1.2.2.2.2.2.2) else ga x1 26 (some (r_splices_1.2.2.2.2.2.1 (Int32.toNatClampNeg x1), r_splices_1.2.1, v_refusals, r_splices_1.2.2.1, r_splices_1.2.2.2.1, r_splices_1.2.2.2.2.1, r_splices_1.2.2.2.2.2.1, r_splices_1.2.2.2.2.2.2)))))) else (f_X10_refused (-4 : Int32) v_refusals).bind (fun r_refused_2 => some (r_refused_2.1, v_splicedMany, r_refused_2.2, v_dists, v_partners, v_times, v_spliced, v_piece)))
set_option maxRecDepth 100000 in
set_option maxHeartbeats 4000000 in
theorem c_X10_spliced (l : Launch) (D : va_G) (N : Nat) {q_this q_now q_refusals q_dists q_partners q_times q_spliced q_piece : Nat} {w_kept w_trial w_row w_letters w_left w_steps w_balances w_prices w_hands w_hand w_dealing : Value} {v_hasImage : Int32} {v_rows : Int32} {v_lettered : Int32} {v_stepsMany : Int32} {v_splicedMany : Int32} {v_most : Int32} {v_together : Int32} {v_z : Int32} {v_now : (Nat → Int32)} {v_refusals : (Nat → Int32)} {v_dists : (Nat → Int32)} {v_partners : (Nat → Int32)} {v_times : (Nat → Int32)} {v_spliced : (Nat → Int32)} {v_piece : (Nat → Int32)} {x1 : Int32} {o : (Int32 × Int32 × (Nat → Int32) × (Nat → Int32) × (Nat → Int32) × (Nat → Int32) × (Nat → Int32) × (Nat → Int32))} (h : f_X10_spliced N x1 v_splicedMany v_now v_refusals v_dists v_partners v_times v_spliced v_piece = some o) : CT l D yX10_spliced cX10_spliced 2 (Option.some FieldType.int) 12 [.ref q_this, .int x1] (w_X10_spliced D q_this q_now q_refusals q_dists q_partners q_times q_spliced q_piece w_kept w_trial w_row w_letters w_left w_steps w_balances w_prices w_hands w_hand w_dealing v_hasImage v_rows v_lettered v_stepsMany v_splicedMany v_most v_together v_z v_now v_refusals v_dists v_partners v_times v_spliced v_piece) (w_X10_spliced D q_this q_now q_refusals q_dists q_partners q_times q_spliced q_piece w_kept w_trial w_row w_letters w_left w_steps w_balances w_prices w_hands w_hand w_dealing v_hasImage v_rows v_lettered v_stepsMany o.2.1 v_most v_together v_z v_now o.2.2.1 o.2.2.2.1 o.2.2.2.2.1 o.2.2.2.2.2.1 o.2.2.2.2.2.2.1 o.2.2.2.2.2.2.2) (some (.int o.1)) := by
  refine CT.of mk_X10_spliced (Nat.le_of_ble_eq_true rfl) (fun g hl hD C E => ?_)
  subst hl
  subst hD
  unfold f_X10_spliced at h
  refine j_iload_n C dX10_spliced_0 rfl ?_
  refine j_iconst C (-1) dX10_spliced_1 ki_m1 ?_
  refine j_icmp_ge C h 12 dX10_spliced_2 (by decide) (fun hc h => ?_) (fun hc h => ?_)
  · refine j_aload_n C dX10_spliced_12 rfl ?_
    refine j_aload_n C dX10_spliced_13 rfl ?_
    refine j_get C 0 w_X10_spliced_g0 rfl inX10 0 (by decide) kw_981 rfl rfl dX10_spliced_14 ?_
    obtain ⟨r_splices_1, h_1, h⟩ := of_bind h
    refine j_callV1 C mk_X10_splices ms_X10_splices kw_1300 (c_X10_splices (gl g) (gD g) N h_1) (by decide) 0 w_X10_spliced_g0 rfl [0, 3, 4, 5, 6, 7, 1] (hC_cons w_X10_spliced_g0 (hC_cons w_X10_spliced_g3 (hC_cons w_X10_spliced_g4 (hC_cons w_X10_spliced_g5 (hC_cons w_X10_spliced_g6 (hC_cons w_X10_spliced_g7 (hC_cons w_X10_spliced_g1 hC_nil))))))) rfl (w_X10_splices_a.trans w_X10_splices_a.symm) rfl rfl (Nat.le_of_ble_eq_true rfl) dX10_spliced_17 (wput_cons w_X10_spliced_s0 (wput_cons w_X10_spliced_s3 (wput_cons w_X10_spliced_s4 (wput_cons w_X10_spliced_s5 (wput_cons w_X10_spliced_s6 (wput_cons w_X10_spliced_s7 (wput_cons w_X10_spliced_s1 wput_nil))))))) ?_
    refine j_if_ne C h 26 dX10_spliced_20 (by decide) (fun hc h => ?_) (fun hc h => ?_)
    · refine j_bipush C (-9) dX10_spliced_23 kb_m9 ?_
      have h := Option.some.inj h
      subst h
      exact j_iret C E dX10_spliced_25
    · refine j_iload_n C dX10_spliced_26 rfl ?_
      refine j_iconst C (-1) dX10_spliced_27 ki_m1 ?_
      refine j_icmp_ne C h 38 dX10_spliced_28 (by decide) (fun hc h => ?_) (fun hc h => ?_)
      · refine j_aload_n C dX10_spliced_31 rfl ?_
        refine j_get C 0 w_X10_spliced_g0 rfl inX10 16 (by decide) kw_997 rfl rfl dX10_spliced_32 ?_
        refine j_goto C 57 dX10_spliced_35 (by decide) ?_
        have h := Option.some.inj h
        subst h
        exact j_iret C E dX10_spliced_57
      · refine j_iload_n C dX10_spliced_38 rfl ?_
        refine j_aload_n C dX10_spliced_39 rfl ?_
        refine j_get C 0 w_X10_spliced_g0 rfl inX10 16 (by decide) kw_997 rfl rfl dX10_spliced_40 ?_
        refine j_icmp_ge C h 55 dX10_spliced_43 (by decide) (fun hc h => ?_) (fun hc h => ?_)
        · refine j_bipush C (-9) dX10_spliced_55 kb_m9 ?_
          have h := Option.some.inj h
          subst h
          exact j_iret C E dX10_spliced_57
        · refine j_aload_n C dX10_spliced_46 rfl ?_
          refine j_get C 0 w_X10_spliced_g0 rfl inX10 15 (by decide) kw_996 rfl rfl dX10_spliced_47 ?_
          refine j_iload_n C dX10_spliced_50 rfl ?_
          refine j_iaload 6 C h w_X10_spliced_g6 rfl dX10_spliced_51 (fun h => ?_)
          refine j_goto C 57 dX10_spliced_52 (by decide) ?_
          have h := Option.some.inj h
          subst h
          exact j_iret C E dX10_spliced_57
  · refine j_aload_n C dX10_spliced_5 rfl ?_
    refine j_bipush C (-4) dX10_spliced_6 kb_m4 ?_
    obtain ⟨r_refused_2, h_2, h⟩ := of_bind h
    refine j_callV1 C mk_X10_refused ms_X10_refused kw_1064 (c_X10_refused (gl g) (gD g) h_2) (by decide) 0 w_X10_spliced_g0 rfl [0, 2] (hC_cons w_X10_spliced_g0 (hC_cons w_X10_spliced_g2 hC_nil)) rfl (w_X10_refused_a.trans w_X10_refused_a.symm) rfl rfl (Nat.le_of_ble_eq_true rfl) dX10_spliced_8 (wput_cons w_X10_spliced_s0 (wput_cons w_X10_spliced_s2 wput_nil)) ?_
    have h := Option.some.inj h
    subst h
    exact j_iret C E dX10_spliced_11

def w_X10_balanceOf (D : va_G) (q_p1 : Nat) (v_p1 : (Nat → Int32)) : va_W := [(q_p1, .inl (D.1 100, 50, .inl v_p1))]
theorem w_X10_balanceOf_g0 {D : va_G} {q_p1 : Nat} {v_p1 : (Nat → Int32)} : (w_X10_balanceOf D q_p1 v_p1)[0]? = some (q_p1, .inl (D.1 100, 50, .inl v_p1)) := rfl
theorem w_X10_balanceOf_s0 {D : va_G} {q_p1 : Nat} {v_p1 : (Nat → Int32)} {v_p1' : (Nat → Int32)} : (w_X10_balanceOf D q_p1 v_p1).set 0 (q_p1, .inl (D.1 100, 50, .inl v_p1')) = (w_X10_balanceOf D q_p1 v_p1') := rfl
theorem w_X10_balanceOf_a {D : va_G} {q_p1 : Nat} {v_p1 : (Nat → Int32)} : (w_X10_balanceOf D q_p1 v_p1).map (fun q => q.1) = [q_p1] := rfl
def f_X10_balanceOf_j1 (x3_j1 : Int32) (v_p1 : (Nat → Int32)) (x1 : Int32) (x2_4 : Int32) : Option ((Int32 × Int32) ⊕ Int32) :=
  ga ((0 : Int32) + x3_j1) 50 ((if (v_p1 (Int32.toNatClampNeg ((0 : Int32) + x3_j1))) = x1 then some (.inl (x2_4 + (1 : Int32), x3_j1 + (1 : Int32))) else ga ((8 : Int32) + x3_j1) 50 (some (.inl (x2_4 + (if (v_p1 (Int32.toNatClampNeg ((8 : Int32) + x3_j1))) = x1 then (-1 : Int32) else (0 : Int32)), x3_j1 + (1 : Int32))))))
def f_X10_balanceOf_b4 (v_p1 : (Nat → Int32)) (x3_4 : Int32) (x2_4 : Int32) (x1 : Int32) : Option ((Int32 × Int32) ⊕ Int32) :=
  ga (49 : Int32) 50 ((if (v_p1 (Int32.toNatClampNeg (49 : Int32))) ≤ x3_4 then some (.inr x2_4) else ga ((40 : Int32) + x3_4) 50 ((if (v_p1 (Int32.toNatClampNeg ((40 : Int32) + x3_4))) = (1 : Int32) then ga ((24 : Int32) + x3_4) 50 ((if (v_p1 (Int32.toNatClampNeg ((24 : Int32) + x3_4))) = (1 : Int32) then f_X10_balanceOf_j1 x3_4 v_p1 x1 x2_4 else ga ((24 : Int32) + x3_4) 50 ((if (v_p1 (Int32.toNatClampNeg ((24 : Int32) + x3_4))) = (3 : Int32) then f_X10_balanceOf_j1 x3_4 v_p1 x1 x2_4 else some (.inl (x2_4, x3_4 + (1 : Int32))))))) else some (.inl (x2_4, x3_4 + (1 : Int32)))))))
def f_X10_balanceOf (N : Nat) (x1 : Int32) (v_p1 : (Nat → Int32)) : Option Int32 :=
  (lp (fun s_4 => f_X10_balanceOf_b4 v_p1 s_4.2 s_4.1 x1) N ((0 : Int32), (0 : Int32))).bind (fun e_4 => some e_4)
set_option maxRecDepth 100000 in
set_option maxHeartbeats 4000000 in
theorem c_X10_balanceOf (l : Launch) (D : va_G) (N : Nat) {q_p1 : Nat} {v_p1 : (Nat → Int32)} {x1 : Int32} {o : Int32} (h : f_X10_balanceOf N x1 v_p1 = some o) : CT l D yX10_balanceOf cX10_balanceOf 4 (Option.some FieldType.int) 0 [.ref q_p1, .int x1] (w_X10_balanceOf D q_p1 v_p1) (w_X10_balanceOf D q_p1 v_p1) (some (.int o)) := by
  refine CT.of mk_X10_balanceOf (Nat.le_of_ble_eq_true rfl) (fun g hl hD C E => ?_)
  subst hl
  subst hD
  unfold f_X10_balanceOf at h
  refine j_iconst C (0) dX10_balanceOf_0 ki_0 ?_
  refine j_istore_n C dX10_balanceOf_1 (by decide) ?_
  refine j_iconst C (0) dX10_balanceOf_2 ki_0 ?_
  refine j_istore_n C dX10_balanceOf_3 (by decide) ?_
  obtain ⟨e_4, hl_4, h⟩ := of_bind h
  have ha_4 : J g (w_X10_balanceOf (gD g) q_p1 v_p1) [(2, .int (e_4))] 79 [] := by
    refine j_iload_n C dX10_balanceOf_79 rfl ?_
    have h := Option.some.inj h
    subst h
    exact j_iret C E dX10_balanceOf_80
  refine j_lv (lv' := [(0, .ref q_p1), (1, .int (x1)), (2, .int ((0 : Int32))), (3, .int ((0 : Int32)))]) rfl ?_
  refine lp_ind hl_4 (fun s_4 => J g (w_X10_balanceOf (gD g) q_p1 v_p1) [(0, .ref q_p1), (1, .int (x1)), (2, .int (s_4.1)), (3, .int (s_4.2))] 4 []) (fun s_4 r_4 h hc_4 hx_4 => ?_)
  unfold f_X10_balanceOf_b4 at h
  refine j_iload_n C dX10_balanceOf_4 rfl ?_
  refine j_aload_n C dX10_balanceOf_5 rfl ?_
  refine j_bipush C (49) dX10_balanceOf_6 kb_49 ?_
  refine j_iaload 0 C h w_X10_balanceOf_g0 rfl dX10_balanceOf_8 (fun h => ?_)
  refine j_icmp_ge C h 79 dX10_balanceOf_9 (by decide) (fun hc h => ?_) (fun hc h => ?_)
  · have h := Option.some.inj h
    subst h
    have h9 := hx_4 _ rfl
    subst h9
    exact j_lw ha_4 rfl
  · refine j_aload_n C dX10_balanceOf_12 rfl ?_
    refine j_bipush C (40) dX10_balanceOf_13 kb_40 ?_
    refine j_iload_n C dX10_balanceOf_15 rfl ?_
    refine j_iadd C dX10_balanceOf_16 ?_
    refine j_iaload 0 C h w_X10_balanceOf_g0 rfl dX10_balanceOf_17 (fun h => ?_)
    refine j_iconst C (1) dX10_balanceOf_18 ki_1 ?_
    refine j_icmp_ne C h 73 dX10_balanceOf_19 (by decide) (fun hc h => ?_) (fun hc h => ?_)
    · refine j_aload_n C dX10_balanceOf_22 rfl ?_
      refine j_bipush C (24) dX10_balanceOf_23 kb_24 ?_
      refine j_iload_n C dX10_balanceOf_25 rfl ?_
      refine j_iadd C dX10_balanceOf_26 ?_
      refine j_iaload 0 C h w_X10_balanceOf_g0 rfl dX10_balanceOf_27 (fun h => ?_)
      refine j_iconst C (1) dX10_balanceOf_28 ki_1 ?_
      have hj_1 : ∀ (x3_j1 : Int32), f_X10_balanceOf_j1 x3_j1 v_p1 x1 s_4.1 = some r_4 → J g (w_X10_balanceOf (gD g) q_p1 v_p1) [(0, .ref q_p1), (1, .int (x1)), (2, .int (s_4.1)), (3, .int (x3_j1))] 42 [] := by
        intro x3_j1 h
        unfold f_X10_balanceOf_j1 at h
        refine j_iload_n C dX10_balanceOf_42 rfl ?_
        refine j_aload_n C dX10_balanceOf_43 rfl ?_
        refine j_iconst C (0) dX10_balanceOf_44 ki_0 ?_
        refine j_iload_n C dX10_balanceOf_45 rfl ?_
        refine j_iadd C dX10_balanceOf_46 ?_
        refine j_iaload 0 C h w_X10_balanceOf_g0 rfl dX10_balanceOf_47 (fun h => ?_)
        refine j_iload_n C dX10_balanceOf_48 rfl ?_
        refine j_icmp_ne C h 56 dX10_balanceOf_49 (by decide) (fun hc h => ?_) (fun hc h => ?_)
        · refine j_iconst C (1) dX10_balanceOf_52 ki_1 ?_
          refine j_goto C 71 dX10_balanceOf_53 (by decide) ?_
          refine j_iadd C dX10_balanceOf_71 ?_
          refine j_istore_n C dX10_balanceOf_72 (by decide) ?_
          refine j_inc C (1) dX10_balanceOf_73 rfl ki_1 (by decide) ?_
          refine j_goto C 4 dX10_balanceOf_76 (by decide) ?_
          have h := Option.some.inj h
          subst h
          have hc9 := hc_4 _ rfl
          exact j_lw hc9 rfl
        · refine j_aload_n C dX10_balanceOf_56 rfl ?_
          refine j_bipush C (8) dX10_balanceOf_57 kb_8 ?_
          refine j_iload_n C dX10_balanceOf_59 rfl ?_
          refine j_iadd C dX10_balanceOf_60 ?_
          refine j_iaload 0 C h w_X10_balanceOf_g0 rfl dX10_balanceOf_61 (fun h => ?_)
          refine j_iload_n C dX10_balanceOf_62 rfl ?_
          have hj_2 : J g (w_X10_balanceOf (gD g) q_p1 v_p1) [(0, .ref q_p1), (1, .int (x1)), (3, .int (x3_j1))] 71 [.int (if (v_p1 (Int32.toNatClampNeg ((8 : Int32) + x3_j1))) = x1 then (-1 : Int32) else (0 : Int32)), .int (s_4.1)] := by
            refine j_iadd C dX10_balanceOf_71 ?_
            refine j_istore_n C dX10_balanceOf_72 (by decide) ?_
            refine j_inc C (1) dX10_balanceOf_73 rfl ki_1 (by decide) ?_
            refine j_goto C 4 dX10_balanceOf_76 (by decide) ?_
            have h := Option.some.inj h
            subst h
            have hc9 := hc_4 _ rfl
            exact j_lw hc9 rfl
          refine jv_icmp_ne C 70 dX10_balanceOf_63 (by decide) (fun hc => ?_) (fun hc => ?_)
          · try simp only [if_pos hc] at hj_2
            refine j_iconst C (-1) dX10_balanceOf_66 ki_m1 ?_
            refine j_goto C 71 dX10_balanceOf_67 (by decide) ?_
            exact j_lw hj_2 rfl
          · try simp only [if_neg hc] at hj_2
            refine j_iconst C (0) dX10_balanceOf_70 ki_0 ?_
            exact j_lw hj_2 rfl
      refine j_icmp_eq C h 42 dX10_balanceOf_29 (by decide) (fun hc h => ?_) (fun hc h => ?_)
      · have hj9 := hj_1 _ h
        exact j_lw hj9 rfl
      · refine j_aload_n C dX10_balanceOf_32 rfl ?_
        refine j_bipush C (24) dX10_balanceOf_33 kb_24 ?_
        refine j_iload_n C dX10_balanceOf_35 rfl ?_
        refine j_iadd C dX10_balanceOf_36 ?_
        refine j_iaload 0 C h w_X10_balanceOf_g0 rfl dX10_balanceOf_37 (fun h => ?_)
        refine j_iconst C (3) dX10_balanceOf_38 ki_3 ?_
        refine j_icmp_ne C h 73 dX10_balanceOf_39 (by decide) (fun hc h => ?_) (fun hc h => ?_)
        · have hj9 := hj_1 _ h
          exact j_lw hj9 rfl
        · refine j_inc C (1) dX10_balanceOf_73 rfl ki_1 (by decide) ?_
          refine j_goto C 4 dX10_balanceOf_76 (by decide) ?_
          have h := Option.some.inj h
          subst h
          have hc9 := hc_4 _ rfl
          exact j_lw hc9 rfl
    · refine j_inc C (1) dX10_balanceOf_73 rfl ki_1 (by decide) ?_
      refine j_goto C 4 dX10_balanceOf_76 (by decide) ?_
      have h := Option.some.inj h
      subst h
      have hc9 := hc_4 _ rfl
      exact j_lw hc9 rfl

def w_X10_balance (D : va_G) (q_this q_now q_refusals : Nat) (w_kept w_trial w_row w_letters w_dists w_left w_steps w_partners w_times w_spliced w_piece w_balances w_prices w_hands w_hand w_dealing : Value) (v_hasImage : Int32) (v_rows : Int32) (v_lettered : Int32) (v_stepsMany : Int32) (v_splicedMany : Int32) (v_most : Int32) (v_together : Int32) (v_z : Int32) (v_now : (Nat → Int32)) (v_refusals : (Nat → Int32)) : va_W := [(q_this, .inr (9, [.ref q_now, w_kept, w_trial, .int v_hasImage, .ref q_refusals, w_row, .int v_rows, w_letters, .int v_lettered, w_dists, w_left, w_steps, .int v_stepsMany, w_partners, w_times, w_spliced, .int v_splicedMany, w_piece, w_balances, w_prices, w_hands, w_hand, w_dealing, .int v_most, .int v_together, .int v_z])), (q_now, .inl (D.1 100, 50, .inl v_now)), (q_refusals, .inl (D.1 100, 7, .inl v_refusals))]
theorem w_X10_balance_g0 {D : va_G} {q_this : Nat} {q_now : Nat} {q_refusals : Nat} {w_kept : Value} {w_trial : Value} {w_row : Value} {w_letters : Value} {w_dists : Value} {w_left : Value} {w_steps : Value} {w_partners : Value} {w_times : Value} {w_spliced : Value} {w_piece : Value} {w_balances : Value} {w_prices : Value} {w_hands : Value} {w_hand : Value} {w_dealing : Value} {v_hasImage : Int32} {v_rows : Int32} {v_lettered : Int32} {v_stepsMany : Int32} {v_splicedMany : Int32} {v_most : Int32} {v_together : Int32} {v_z : Int32} {v_now : (Nat → Int32)} {v_refusals : (Nat → Int32)} : (w_X10_balance D q_this q_now q_refusals w_kept w_trial w_row w_letters w_dists w_left w_steps w_partners w_times w_spliced w_piece w_balances w_prices w_hands w_hand w_dealing v_hasImage v_rows v_lettered v_stepsMany v_splicedMany v_most v_together v_z v_now v_refusals)[0]? = some (q_this, .inr (9, [.ref q_now, w_kept, w_trial, .int v_hasImage, .ref q_refusals, w_row, .int v_rows, w_letters, .int v_lettered, w_dists, w_left, w_steps, .int v_stepsMany, w_partners, w_times, w_spliced, .int v_splicedMany, w_piece, w_balances, w_prices, w_hands, w_hand, w_dealing, .int v_most, .int v_together, .int v_z])) := rfl
theorem w_X10_balance_s0 {D : va_G} {q_this : Nat} {q_now : Nat} {q_refusals : Nat} {w_kept : Value} {w_trial : Value} {w_row : Value} {w_letters : Value} {w_dists : Value} {w_left : Value} {w_steps : Value} {w_partners : Value} {w_times : Value} {w_spliced : Value} {w_piece : Value} {w_balances : Value} {w_prices : Value} {w_hands : Value} {w_hand : Value} {w_dealing : Value} {v_hasImage : Int32} {v_rows : Int32} {v_lettered : Int32} {v_stepsMany : Int32} {v_splicedMany : Int32} {v_most : Int32} {v_together : Int32} {v_z : Int32} {v_now : (Nat → Int32)} {v_refusals : (Nat → Int32)} {v_hasImage' : Int32} {v_rows' : Int32} {v_lettered' : Int32} {v_stepsMany' : Int32} {v_splicedMany' : Int32} {v_most' : Int32} {v_together' : Int32} {v_z' : Int32} : (w_X10_balance D q_this q_now q_refusals w_kept w_trial w_row w_letters w_dists w_left w_steps w_partners w_times w_spliced w_piece w_balances w_prices w_hands w_hand w_dealing v_hasImage v_rows v_lettered v_stepsMany v_splicedMany v_most v_together v_z v_now v_refusals).set 0 (q_this, .inr (9, [.ref q_now, w_kept, w_trial, .int v_hasImage', .ref q_refusals, w_row, .int v_rows', w_letters, .int v_lettered', w_dists, w_left, w_steps, .int v_stepsMany', w_partners, w_times, w_spliced, .int v_splicedMany', w_piece, w_balances, w_prices, w_hands, w_hand, w_dealing, .int v_most', .int v_together', .int v_z'])) = (w_X10_balance D q_this q_now q_refusals w_kept w_trial w_row w_letters w_dists w_left w_steps w_partners w_times w_spliced w_piece w_balances w_prices w_hands w_hand w_dealing v_hasImage' v_rows' v_lettered' v_stepsMany' v_splicedMany' v_most' v_together' v_z' v_now v_refusals) := rfl
theorem w_X10_balance_g1 {D : va_G} {q_this : Nat} {q_now : Nat} {q_refusals : Nat} {w_kept : Value} {w_trial : Value} {w_row : Value} {w_letters : Value} {w_dists : Value} {w_left : Value} {w_steps : Value} {w_partners : Value} {w_times : Value} {w_spliced : Value} {w_piece : Value} {w_balances : Value} {w_prices : Value} {w_hands : Value} {w_hand : Value} {w_dealing : Value} {v_hasImage : Int32} {v_rows : Int32} {v_lettered : Int32} {v_stepsMany : Int32} {v_splicedMany : Int32} {v_most : Int32} {v_together : Int32} {v_z : Int32} {v_now : (Nat → Int32)} {v_refusals : (Nat → Int32)} : (w_X10_balance D q_this q_now q_refusals w_kept w_trial w_row w_letters w_dists w_left w_steps w_partners w_times w_spliced w_piece w_balances w_prices w_hands w_hand w_dealing v_hasImage v_rows v_lettered v_stepsMany v_splicedMany v_most v_together v_z v_now v_refusals)[1]? = some (q_now, .inl (D.1 100, 50, .inl v_now)) := rfl
theorem w_X10_balance_s1 {D : va_G} {q_this : Nat} {q_now : Nat} {q_refusals : Nat} {w_kept : Value} {w_trial : Value} {w_row : Value} {w_letters : Value} {w_dists : Value} {w_left : Value} {w_steps : Value} {w_partners : Value} {w_times : Value} {w_spliced : Value} {w_piece : Value} {w_balances : Value} {w_prices : Value} {w_hands : Value} {w_hand : Value} {w_dealing : Value} {v_hasImage : Int32} {v_rows : Int32} {v_lettered : Int32} {v_stepsMany : Int32} {v_splicedMany : Int32} {v_most : Int32} {v_together : Int32} {v_z : Int32} {v_now : (Nat → Int32)} {v_refusals : (Nat → Int32)} {v_now' : (Nat → Int32)} : (w_X10_balance D q_this q_now q_refusals w_kept w_trial w_row w_letters w_dists w_left w_steps w_partners w_times w_spliced w_piece w_balances w_prices w_hands w_hand w_dealing v_hasImage v_rows v_lettered v_stepsMany v_splicedMany v_most v_together v_z v_now v_refusals).set 1 (q_now, .inl (D.1 100, 50, .inl v_now')) = (w_X10_balance D q_this q_now q_refusals w_kept w_trial w_row w_letters w_dists w_left w_steps w_partners w_times w_spliced w_piece w_balances w_prices w_hands w_hand w_dealing v_hasImage v_rows v_lettered v_stepsMany v_splicedMany v_most v_together v_z v_now' v_refusals) := rfl
theorem w_X10_balance_g2 {D : va_G} {q_this : Nat} {q_now : Nat} {q_refusals : Nat} {w_kept : Value} {w_trial : Value} {w_row : Value} {w_letters : Value} {w_dists : Value} {w_left : Value} {w_steps : Value} {w_partners : Value} {w_times : Value} {w_spliced : Value} {w_piece : Value} {w_balances : Value} {w_prices : Value} {w_hands : Value} {w_hand : Value} {w_dealing : Value} {v_hasImage : Int32} {v_rows : Int32} {v_lettered : Int32} {v_stepsMany : Int32} {v_splicedMany : Int32} {v_most : Int32} {v_together : Int32} {v_z : Int32} {v_now : (Nat → Int32)} {v_refusals : (Nat → Int32)} : (w_X10_balance D q_this q_now q_refusals w_kept w_trial w_row w_letters w_dists w_left w_steps w_partners w_times w_spliced w_piece w_balances w_prices w_hands w_hand w_dealing v_hasImage v_rows v_lettered v_stepsMany v_splicedMany v_most v_together v_z v_now v_refusals)[2]? = some (q_refusals, .inl (D.1 100, 7, .inl v_refusals)) := rfl
theorem w_X10_balance_s2 {D : va_G} {q_this : Nat} {q_now : Nat} {q_refusals : Nat} {w_kept : Value} {w_trial : Value} {w_row : Value} {w_letters : Value} {w_dists : Value} {w_left : Value} {w_steps : Value} {w_partners : Value} {w_times : Value} {w_spliced : Value} {w_piece : Value} {w_balances : Value} {w_prices : Value} {w_hands : Value} {w_hand : Value} {w_dealing : Value} {v_hasImage : Int32} {v_rows : Int32} {v_lettered : Int32} {v_stepsMany : Int32} {v_splicedMany : Int32} {v_most : Int32} {v_together : Int32} {v_z : Int32} {v_now : (Nat → Int32)} {v_refusals : (Nat → Int32)} {v_refusals' : (Nat → Int32)} : (w_X10_balance D q_this q_now q_refusals w_kept w_trial w_row w_letters w_dists w_left w_steps w_partners w_times w_spliced w_piece w_balances w_prices w_hands w_hand w_dealing v_hasImage v_rows v_lettered v_stepsMany v_splicedMany v_most v_together v_z v_now v_refusals).set 2 (q_refusals, .inl (D.1 100, 7, .inl v_refusals')) = (w_X10_balance D q_this q_now q_refusals w_kept w_trial w_row w_letters w_dists w_left w_steps w_partners w_times w_spliced w_piece w_balances w_prices w_hands w_hand w_dealing v_hasImage v_rows v_lettered v_stepsMany v_splicedMany v_most v_together v_z v_now v_refusals') := rfl
theorem w_X10_balance_a {D : va_G} {q_this : Nat} {q_now : Nat} {q_refusals : Nat} {w_kept : Value} {w_trial : Value} {w_row : Value} {w_letters : Value} {w_dists : Value} {w_left : Value} {w_steps : Value} {w_partners : Value} {w_times : Value} {w_spliced : Value} {w_piece : Value} {w_balances : Value} {w_prices : Value} {w_hands : Value} {w_hand : Value} {w_dealing : Value} {v_hasImage : Int32} {v_rows : Int32} {v_lettered : Int32} {v_stepsMany : Int32} {v_splicedMany : Int32} {v_most : Int32} {v_together : Int32} {v_z : Int32} {v_now : (Nat → Int32)} {v_refusals : (Nat → Int32)} : (w_X10_balance D q_this q_now q_refusals w_kept w_trial w_row w_letters w_dists w_left w_steps w_partners w_times w_spliced w_piece w_balances w_prices w_hands w_hand w_dealing v_hasImage v_rows v_lettered v_stepsMany v_splicedMany v_most v_together v_z v_now v_refusals).map (fun q => q.1) = [q_this, q_now, q_refusals] := rfl
def f_X10_balance (N : Nat) (x1 : Int32) (v_now : (Nat → Int32)) (v_refusals : (Nat → Int32)) : Option (Int32 × (Nat → Int32)) :=
  (f_X10_isCorner x1).bind (fun r_isCorner_1 => (if r_isCorner_1 = 0 then (f_X10_refusedBelow (-1 : Int32) v_refusals).bind (fun r_refusedBelow_2 => some (r_refusedBelow_2.1, r_refusedBelow_2.2)) else (f_X10_balanceOf N x1 v_now).bind (fun r_balanceOf_3 => some (r_balanceOf_3, v_refusals))))
set_option maxRecDepth 100000 in
set_option maxHeartbeats 4000000 in
theorem c_X10_balance (l : Launch) (D : va_G) (N : Nat) {q_this q_now q_refusals : Nat} {w_kept w_trial w_row w_letters w_dists w_left w_steps w_partners w_times w_spliced w_piece w_balances w_prices w_hands w_hand w_dealing : Value} {v_hasImage : Int32} {v_rows : Int32} {v_lettered : Int32} {v_stepsMany : Int32} {v_splicedMany : Int32} {v_most : Int32} {v_together : Int32} {v_z : Int32} {v_now : (Nat → Int32)} {v_refusals : (Nat → Int32)} {x1 : Int32} {o : (Int32 × (Nat → Int32))} (h : f_X10_balance N x1 v_now v_refusals = some o) : CT l D yX10_balance cX10_balance 2 (Option.some FieldType.int) 2 [.ref q_this, .int x1] (w_X10_balance D q_this q_now q_refusals w_kept w_trial w_row w_letters w_dists w_left w_steps w_partners w_times w_spliced w_piece w_balances w_prices w_hands w_hand w_dealing v_hasImage v_rows v_lettered v_stepsMany v_splicedMany v_most v_together v_z v_now v_refusals) (w_X10_balance D q_this q_now q_refusals w_kept w_trial w_row w_letters w_dists w_left w_steps w_partners w_times w_spliced w_piece w_balances w_prices w_hands w_hand w_dealing v_hasImage v_rows v_lettered v_stepsMany v_splicedMany v_most v_together v_z v_now o.2) (some (.int o.1)) := by
  refine CT.of mk_X10_balance (Nat.le_of_ble_eq_true rfl) (fun g hl hD C E => ?_)
  subst hl
  subst hD
  unfold f_X10_balance at h
  refine j_iload_n C dX10_balance_0 rfl ?_
  obtain ⟨r_isCorner_1, h_1, h⟩ := of_bind h
  refine j_callS1 C mk_X10_isCorner ms_X10_isCorner kw_1108 (c_X10_isCorner (gl g) (gD g) h_1) (by decide) [] hC_nil rfl (w_X10_isCorner_a.trans w_X10_isCorner_a.symm) rfl rfl (Nat.le_of_ble_eq_true rfl) dX10_balance_1 wput_nil ?_
  refine j_if_eq C h 18 dX10_balance_4 (by decide) (fun hc h => ?_) (fun hc h => ?_)
  · refine j_aload_n C dX10_balance_18 rfl ?_
    refine j_iconst C (-1) dX10_balance_19 ki_m1 ?_
    obtain ⟨r_refusedBelow_2, h_2, h⟩ := of_bind h
    refine j_callV1 C mk_X10_refusedBelow ms_X10_refusedBelow kw_1246 (c_X10_refusedBelow (gl g) (gD g) h_2) (by decide) 0 w_X10_balance_g0 rfl [0, 2] (hC_cons w_X10_balance_g0 (hC_cons w_X10_balance_g2 hC_nil)) rfl (w_X10_refusedBelow_a.trans w_X10_refusedBelow_a.symm) rfl rfl (Nat.le_of_ble_eq_true rfl) dX10_balance_20 (wput_cons w_X10_balance_s0 (wput_cons w_X10_balance_s2 wput_nil)) ?_
    have h := Option.some.inj h
    subst h
    exact j_iret C E dX10_balance_23
  · refine j_aload_n C dX10_balance_7 rfl ?_
    refine j_get C 0 w_X10_balance_g0 rfl inX10 0 (by decide) kw_981 rfl rfl dX10_balance_8 ?_
    refine j_iload_n C dX10_balance_11 rfl ?_
    obtain ⟨r_balanceOf_3, h_3, h⟩ := of_bind h
    refine j_callS1 C mk_X10_balanceOf ms_X10_balanceOf kw_1316 (c_X10_balanceOf (gl g) (gD g) N h_3) (by decide) [1] (hC_cons w_X10_balance_g1 hC_nil) rfl (w_X10_balanceOf_a.trans w_X10_balanceOf_a.symm) rfl rfl (Nat.le_of_ble_eq_true rfl) dX10_balance_12 (wput_cons w_X10_balance_s1 wput_nil) ?_
    refine j_goto C 23 dX10_balance_15 (by decide) ?_
    have h := Option.some.inj h
    subst h
    exact j_iret C E dX10_balance_23

def w_X10_flows (D : va_G) (q_this q_dists q_balances : Nat) (w_now w_kept w_trial w_refusals w_row w_letters w_left w_steps w_partners w_times w_spliced w_piece w_prices w_hands w_hand w_dealing : Value) (v_hasImage : Int32) (v_rows : Int32) (v_lettered : Int32) (v_stepsMany : Int32) (v_splicedMany : Int32) (v_most : Int32) (v_together : Int32) (v_z : Int32) (v_dists : (Nat → Int32)) (v_balances : (Nat → Int32)) : va_W := [(q_this, .inr (9, [w_now, w_kept, w_trial, .int v_hasImage, w_refusals, w_row, .int v_rows, w_letters, .int v_lettered, .ref q_dists, w_left, w_steps, .int v_stepsMany, w_partners, w_times, w_spliced, .int v_splicedMany, w_piece, .ref q_balances, w_prices, w_hands, w_hand, w_dealing, .int v_most, .int v_together, .int v_z])), (q_dists, .inl (D.1 100, 36, .inl v_dists)), (q_balances, .inl (D.1 100, 6, .inl v_balances))]
theorem w_X10_flows_g0 {D : va_G} {q_this : Nat} {q_dists : Nat} {q_balances : Nat} {w_now : Value} {w_kept : Value} {w_trial : Value} {w_refusals : Value} {w_row : Value} {w_letters : Value} {w_left : Value} {w_steps : Value} {w_partners : Value} {w_times : Value} {w_spliced : Value} {w_piece : Value} {w_prices : Value} {w_hands : Value} {w_hand : Value} {w_dealing : Value} {v_hasImage : Int32} {v_rows : Int32} {v_lettered : Int32} {v_stepsMany : Int32} {v_splicedMany : Int32} {v_most : Int32} {v_together : Int32} {v_z : Int32} {v_dists : (Nat → Int32)} {v_balances : (Nat → Int32)} : (w_X10_flows D q_this q_dists q_balances w_now w_kept w_trial w_refusals w_row w_letters w_left w_steps w_partners w_times w_spliced w_piece w_prices w_hands w_hand w_dealing v_hasImage v_rows v_lettered v_stepsMany v_splicedMany v_most v_together v_z v_dists v_balances)[0]? = some (q_this, .inr (9, [w_now, w_kept, w_trial, .int v_hasImage, w_refusals, w_row, .int v_rows, w_letters, .int v_lettered, .ref q_dists, w_left, w_steps, .int v_stepsMany, w_partners, w_times, w_spliced, .int v_splicedMany, w_piece, .ref q_balances, w_prices, w_hands, w_hand, w_dealing, .int v_most, .int v_together, .int v_z])) := rfl
theorem w_X10_flows_s0 {D : va_G} {q_this : Nat} {q_dists : Nat} {q_balances : Nat} {w_now : Value} {w_kept : Value} {w_trial : Value} {w_refusals : Value} {w_row : Value} {w_letters : Value} {w_left : Value} {w_steps : Value} {w_partners : Value} {w_times : Value} {w_spliced : Value} {w_piece : Value} {w_prices : Value} {w_hands : Value} {w_hand : Value} {w_dealing : Value} {v_hasImage : Int32} {v_rows : Int32} {v_lettered : Int32} {v_stepsMany : Int32} {v_splicedMany : Int32} {v_most : Int32} {v_together : Int32} {v_z : Int32} {v_dists : (Nat → Int32)} {v_balances : (Nat → Int32)} {v_hasImage' : Int32} {v_rows' : Int32} {v_lettered' : Int32} {v_stepsMany' : Int32} {v_splicedMany' : Int32} {v_most' : Int32} {v_together' : Int32} {v_z' : Int32} : (w_X10_flows D q_this q_dists q_balances w_now w_kept w_trial w_refusals w_row w_letters w_left w_steps w_partners w_times w_spliced w_piece w_prices w_hands w_hand w_dealing v_hasImage v_rows v_lettered v_stepsMany v_splicedMany v_most v_together v_z v_dists v_balances).set 0 (q_this, .inr (9, [w_now, w_kept, w_trial, .int v_hasImage', w_refusals, w_row, .int v_rows', w_letters, .int v_lettered', .ref q_dists, w_left, w_steps, .int v_stepsMany', w_partners, w_times, w_spliced, .int v_splicedMany', w_piece, .ref q_balances, w_prices, w_hands, w_hand, w_dealing, .int v_most', .int v_together', .int v_z'])) = (w_X10_flows D q_this q_dists q_balances w_now w_kept w_trial w_refusals w_row w_letters w_left w_steps w_partners w_times w_spliced w_piece w_prices w_hands w_hand w_dealing v_hasImage' v_rows' v_lettered' v_stepsMany' v_splicedMany' v_most' v_together' v_z' v_dists v_balances) := rfl
theorem w_X10_flows_g1 {D : va_G} {q_this : Nat} {q_dists : Nat} {q_balances : Nat} {w_now : Value} {w_kept : Value} {w_trial : Value} {w_refusals : Value} {w_row : Value} {w_letters : Value} {w_left : Value} {w_steps : Value} {w_partners : Value} {w_times : Value} {w_spliced : Value} {w_piece : Value} {w_prices : Value} {w_hands : Value} {w_hand : Value} {w_dealing : Value} {v_hasImage : Int32} {v_rows : Int32} {v_lettered : Int32} {v_stepsMany : Int32} {v_splicedMany : Int32} {v_most : Int32} {v_together : Int32} {v_z : Int32} {v_dists : (Nat → Int32)} {v_balances : (Nat → Int32)} : (w_X10_flows D q_this q_dists q_balances w_now w_kept w_trial w_refusals w_row w_letters w_left w_steps w_partners w_times w_spliced w_piece w_prices w_hands w_hand w_dealing v_hasImage v_rows v_lettered v_stepsMany v_splicedMany v_most v_together v_z v_dists v_balances)[1]? = some (q_dists, .inl (D.1 100, 36, .inl v_dists)) := rfl
theorem w_X10_flows_s1 {D : va_G} {q_this : Nat} {q_dists : Nat} {q_balances : Nat} {w_now : Value} {w_kept : Value} {w_trial : Value} {w_refusals : Value} {w_row : Value} {w_letters : Value} {w_left : Value} {w_steps : Value} {w_partners : Value} {w_times : Value} {w_spliced : Value} {w_piece : Value} {w_prices : Value} {w_hands : Value} {w_hand : Value} {w_dealing : Value} {v_hasImage : Int32} {v_rows : Int32} {v_lettered : Int32} {v_stepsMany : Int32} {v_splicedMany : Int32} {v_most : Int32} {v_together : Int32} {v_z : Int32} {v_dists : (Nat → Int32)} {v_balances : (Nat → Int32)} {v_dists' : (Nat → Int32)} : (w_X10_flows D q_this q_dists q_balances w_now w_kept w_trial w_refusals w_row w_letters w_left w_steps w_partners w_times w_spliced w_piece w_prices w_hands w_hand w_dealing v_hasImage v_rows v_lettered v_stepsMany v_splicedMany v_most v_together v_z v_dists v_balances).set 1 (q_dists, .inl (D.1 100, 36, .inl v_dists')) = (w_X10_flows D q_this q_dists q_balances w_now w_kept w_trial w_refusals w_row w_letters w_left w_steps w_partners w_times w_spliced w_piece w_prices w_hands w_hand w_dealing v_hasImage v_rows v_lettered v_stepsMany v_splicedMany v_most v_together v_z v_dists' v_balances) := rfl
theorem w_X10_flows_g2 {D : va_G} {q_this : Nat} {q_dists : Nat} {q_balances : Nat} {w_now : Value} {w_kept : Value} {w_trial : Value} {w_refusals : Value} {w_row : Value} {w_letters : Value} {w_left : Value} {w_steps : Value} {w_partners : Value} {w_times : Value} {w_spliced : Value} {w_piece : Value} {w_prices : Value} {w_hands : Value} {w_hand : Value} {w_dealing : Value} {v_hasImage : Int32} {v_rows : Int32} {v_lettered : Int32} {v_stepsMany : Int32} {v_splicedMany : Int32} {v_most : Int32} {v_together : Int32} {v_z : Int32} {v_dists : (Nat → Int32)} {v_balances : (Nat → Int32)} : (w_X10_flows D q_this q_dists q_balances w_now w_kept w_trial w_refusals w_row w_letters w_left w_steps w_partners w_times w_spliced w_piece w_prices w_hands w_hand w_dealing v_hasImage v_rows v_lettered v_stepsMany v_splicedMany v_most v_together v_z v_dists v_balances)[2]? = some (q_balances, .inl (D.1 100, 6, .inl v_balances)) := rfl
theorem w_X10_flows_s2 {D : va_G} {q_this : Nat} {q_dists : Nat} {q_balances : Nat} {w_now : Value} {w_kept : Value} {w_trial : Value} {w_refusals : Value} {w_row : Value} {w_letters : Value} {w_left : Value} {w_steps : Value} {w_partners : Value} {w_times : Value} {w_spliced : Value} {w_piece : Value} {w_prices : Value} {w_hands : Value} {w_hand : Value} {w_dealing : Value} {v_hasImage : Int32} {v_rows : Int32} {v_lettered : Int32} {v_stepsMany : Int32} {v_splicedMany : Int32} {v_most : Int32} {v_together : Int32} {v_z : Int32} {v_dists : (Nat → Int32)} {v_balances : (Nat → Int32)} {v_balances' : (Nat → Int32)} : (w_X10_flows D q_this q_dists q_balances w_now w_kept w_trial w_refusals w_row w_letters w_left w_steps w_partners w_times w_spliced w_piece w_prices w_hands w_hand w_dealing v_hasImage v_rows v_lettered v_stepsMany v_splicedMany v_most v_together v_z v_dists v_balances).set 2 (q_balances, .inl (D.1 100, 6, .inl v_balances')) = (w_X10_flows D q_this q_dists q_balances w_now w_kept w_trial w_refusals w_row w_letters w_left w_steps w_partners w_times w_spliced w_piece w_prices w_hands w_hand w_dealing v_hasImage v_rows v_lettered v_stepsMany v_splicedMany v_most v_together v_z v_dists v_balances') := rfl
theorem w_X10_flows_a {D : va_G} {q_this : Nat} {q_dists : Nat} {q_balances : Nat} {w_now : Value} {w_kept : Value} {w_trial : Value} {w_refusals : Value} {w_row : Value} {w_letters : Value} {w_left : Value} {w_steps : Value} {w_partners : Value} {w_times : Value} {w_spliced : Value} {w_piece : Value} {w_prices : Value} {w_hands : Value} {w_hand : Value} {w_dealing : Value} {v_hasImage : Int32} {v_rows : Int32} {v_lettered : Int32} {v_stepsMany : Int32} {v_splicedMany : Int32} {v_most : Int32} {v_together : Int32} {v_z : Int32} {v_dists : (Nat → Int32)} {v_balances : (Nat → Int32)} : (w_X10_flows D q_this q_dists q_balances w_now w_kept w_trial w_refusals w_row w_letters w_left w_steps w_partners w_times w_spliced w_piece w_prices w_hands w_hand w_dealing v_hasImage v_rows v_lettered v_stepsMany v_splicedMany v_most v_together v_z v_dists v_balances).map (fun q => q.1) = [q_this, q_dists, q_balances] := rfl
def f_X10_flows_b2 (x1_2 : Int32) (v_balances : (Nat → Int32)) : Option (Int32 ⊕ Int32) :=
  (if (6 : Int32) ≤ x1_2 then some (.inr x1_2) else ga x1_2 6 ((if (v_balances (Int32.toNatClampNeg x1_2)) < 0 then some (.inr x1_2) else some (.inl (x1_2 + (1 : Int32))))))
def f_X10_flows_b46 (rc : (Nat → Int32) → (Nat → Int32) → Option (Int32 × (Nat → Int32))) (x3_46 : Int32) (x2_46 : Int32) (v_balances_46 : (Nat → Int32)) (e_2_0 : Int32) (v_dists : (Nat → Int32)) : Option ((Int32 × Int32 × (Nat → Int32)) ⊕ (Int32 × (Nat → Int32))) :=
  (if (6 : Int32) ≤ x3_46 then some (.inr (x2_46, v_balances_46)) else ga x3_46 6 ((if (v_balances_46 (Int32.toNatClampNeg x3_46)) ≤ 0 then some (.inl (x2_46, x3_46 + (1 : Int32), v_balances_46)) else (f_X10_dist e_2_0 x3_46 v_dists).bind (fun r_dist_1 => (if (1000000 : Int32) ≤ r_dist_1 then some (.inl (x2_46, x3_46 + (1 : Int32), v_balances_46)) else ga x3_46 6 (ga x3_46 6 ((f_X10_dist e_2_0 x3_46 v_dists).bind (fun r_dist_2 => (rc v_dists (upd v_balances_46 (Int32.toNatClampNeg x3_46) ((v_balances_46 (Int32.toNatClampNeg x3_46)) - (1 : Int32)))).bind (fun r_flows_3 => ga x3_46 6 (ga x3_46 6 (some (.inl (if (r_dist_2 + r_flows_3.1) < x2_46 then (r_dist_2 + r_flows_3.1) else x2_46, x3_46 + (1 : Int32), upd r_flows_3.2 (Int32.toNatClampNeg x3_46) ((r_flows_3.2 (Int32.toNatClampNeg x3_46)) + (1 : Int32)))))))))))))))
def f_X10_flows (N : Nat) : Nat → (Nat → Int32) → (Nat → Int32) → Option (Int32 × (Nat → Int32))
  | 0, _, _ => none
  | d + 1, v_dists, v_balances =>
  (lp (fun s_2 => f_X10_flows_b2 s_2 v_balances) N ((0 : Int32))).bind (fun e_2 => (if e_2 = (6 : Int32) then some ((0 : Int32), v_balances) else ga e_2 6 (ga e_2 6 ((lp (fun s_46 => f_X10_flows_b46 (f_X10_flows N d) s_46.2.1 s_46.1 s_46.2.2 e_2 v_dists) N ((1000000 : Int32), (0 : Int32), upd v_balances (Int32.toNatClampNeg e_2) ((v_balances (Int32.toNatClampNeg e_2)) + (1 : Int32)))).bind (fun e_46 => ga e_2 6 (ga e_2 6 (some (e_46.1, upd e_46.2 (Int32.toNatClampNeg e_2) ((e_46.2 (Int32.toNatClampNeg e_2)) - (1 : Int32))))))))))
set_option maxRecDepth 100000 in
set_option maxHeartbeats 4000000 in
theorem c_X10_flows (l : Launch) (D : va_G) (N : Nat) (d : Nat) : ∀ {q_this q_dists q_balances : Nat} {w_now w_kept w_trial w_refusals w_row w_letters w_left w_steps w_partners w_times w_spliced w_piece w_prices w_hands w_hand w_dealing : Value} {v_hasImage : Int32} {v_rows : Int32} {v_lettered : Int32} {v_stepsMany : Int32} {v_splicedMany : Int32} {v_most : Int32} {v_together : Int32} {v_z : Int32} {v_dists : (Nat → Int32)} {v_balances : (Nat → Int32)} {o : (Int32 × (Nat → Int32))} (h : f_X10_flows N d v_dists v_balances = some o), CT l D yX10_flows cX10_flows 4 (Option.some FieldType.int) (1 + d) [.ref q_this] (w_X10_flows D q_this q_dists q_balances w_now w_kept w_trial w_refusals w_row w_letters w_left w_steps w_partners w_times w_spliced w_piece w_prices w_hands w_hand w_dealing v_hasImage v_rows v_lettered v_stepsMany v_splicedMany v_most v_together v_z v_dists v_balances) (w_X10_flows D q_this q_dists q_balances w_now w_kept w_trial w_refusals w_row w_letters w_left w_steps w_partners w_times w_spliced w_piece w_prices w_hands w_hand w_dealing v_hasImage v_rows v_lettered v_stepsMany v_splicedMany v_most v_together v_z v_dists o.2) (some (.int o.1)) := by
  induction d with
  | zero =>
    intro q_this q_dists q_balances w_now w_kept w_trial w_refusals w_row w_letters w_left w_steps w_partners w_times w_spliced w_piece w_prices w_hands w_hand w_dealing v_hasImage v_rows v_lettered v_stepsMany v_splicedMany v_most v_together v_z v_dists v_balances o h
    unfold f_X10_flows at h
    cases h
  | succ d ih =>
    intro q_this q_dists q_balances w_now w_kept w_trial w_refusals w_row w_letters w_left w_steps w_partners w_times w_spliced w_piece w_prices w_hands w_hand w_dealing v_hasImage v_rows v_lettered v_stepsMany v_splicedMany v_most v_together v_z v_dists v_balances o h
    refine CT.of mk_X10_flows (Nat.le_of_ble_eq_true rfl) (fun g hl hD C E => ?_)
    subst hl
    subst hD
    unfold f_X10_flows at h
    refine j_iconst C (0) dX10_flows_0 ki_0 ?_
    refine j_istore_n C dX10_flows_1 (by decide) ?_
    obtain ⟨e_2, hl_2, h⟩ := of_bind h
    have ha_2 : J g (w_X10_flows (gD g) q_this q_dists q_balances w_now w_kept w_trial w_refusals w_row w_letters w_left w_steps w_partners w_times w_spliced w_piece w_prices w_hands w_hand w_dealing v_hasImage v_rows v_lettered v_stepsMany v_splicedMany v_most v_together v_z v_dists v_balances) [(0, .ref q_this), (1, .int (e_2))] 23 [] := by
      refine j_iload_n C dX10_flows_23 rfl ?_
      refine j_bipush C (6) dX10_flows_24 kb_6 ?_
      refine j_icmp_ne C h 31 dX10_flows_26 (by decide) (fun hc h => ?_) (fun hc h => ?_)
      · refine j_iconst C (0) dX10_flows_29 ki_0 ?_
        have h := Option.some.inj h
        subst h
        exact j_iret C E dX10_flows_30
      · refine j_ldc C kw_1160 dX10_flows_31 ?_
        refine j_istore_n C dX10_flows_33 (by decide) ?_
        refine j_aload_n C dX10_flows_34 rfl ?_
        refine j_get C 0 w_X10_flows_g0 rfl inX10 18 (by decide) kw_999 rfl rfl dX10_flows_35 ?_
        refine j_iload_n C dX10_flows_38 rfl ?_
        refine j_dup2 C dX10_flows_39 rfl rfl ?_
        refine j_iaload 2 C h w_X10_flows_g2 rfl dX10_flows_40 (fun h => ?_)
        refine j_iconst C (1) dX10_flows_41 ki_1 ?_
        refine j_iadd C dX10_flows_42 ?_
        refine j_iastore 2 C h w_X10_flows_g2 rfl dX10_flows_43 (fun h => ?_)
        refine j_ws w_X10_flows_s2 ?_
        refine j_iconst C (0) dX10_flows_44 ki_0 ?_
        refine j_istore_n C dX10_flows_45 (by decide) ?_
        obtain ⟨e_46, hl_46, h⟩ := of_bind h
        have ha_46 : J g (w_X10_flows (gD g) q_this q_dists q_balances w_now w_kept w_trial w_refusals w_row w_letters w_left w_steps w_partners w_times w_spliced w_piece w_prices w_hands w_hand w_dealing v_hasImage v_rows v_lettered v_stepsMany v_splicedMany v_most v_together v_z v_dists e_46.2) [(0, .ref q_this), (1, .int (e_2)), (2, .int (e_46.1))] 114 [] := by
          refine j_aload_n C dX10_flows_114 rfl ?_
          refine j_get C 0 w_X10_flows_g0 rfl inX10 18 (by decide) kw_999 rfl rfl dX10_flows_115 ?_
          refine j_iload_n C dX10_flows_118 rfl ?_
          refine j_dup2 C dX10_flows_119 rfl rfl ?_
          refine j_iaload 2 C h w_X10_flows_g2 rfl dX10_flows_120 (fun h => ?_)
          refine j_iconst C (1) dX10_flows_121 ki_1 ?_
          refine j_isub C dX10_flows_122 ?_
          refine j_iastore 2 C h w_X10_flows_g2 rfl dX10_flows_123 (fun h => ?_)
          refine j_ws w_X10_flows_s2 ?_
          refine j_iload_n C dX10_flows_124 rfl ?_
          have h := Option.some.inj h
          subst h
          exact j_iret C E dX10_flows_125
        refine j_lv (lv' := [(0, .ref q_this), (1, .int (e_2)), (2, .int ((1000000 : Int32))), (3, .int ((0 : Int32)))]) rfl ?_
        refine lp_ind hl_46 (fun s_46 => J g (w_X10_flows (gD g) q_this q_dists q_balances w_now w_kept w_trial w_refusals w_row w_letters w_left w_steps w_partners w_times w_spliced w_piece w_prices w_hands w_hand w_dealing v_hasImage v_rows v_lettered v_stepsMany v_splicedMany v_most v_together v_z v_dists s_46.2.2) [(0, .ref q_this), (1, .int (e_2)), (2, .int (s_46.1)), (3, .int (s_46.2.1))] 46 []) (fun s_46 r_46 h hc_46 hx_46 => ?_)
        unfold f_X10_flows_b46 at h
        refine j_iload_n C dX10_flows_46 rfl ?_
        refine j_bipush C (6) dX10_flows_47 kb_6 ?_
        refine j_icmp_ge C h 114 dX10_flows_49 (by decide) (fun hc h => ?_) (fun hc h => ?_)
        · have h := Option.some.inj h
          subst h
          have h9 := hx_46 _ rfl
          subst h9
          exact j_lw ha_46 rfl
        · refine j_aload_n C dX10_flows_52 rfl ?_
          refine j_get C 0 w_X10_flows_g0 rfl inX10 18 (by decide) kw_999 rfl rfl dX10_flows_53 ?_
          refine j_iload_n C dX10_flows_56 rfl ?_
          refine j_iaload 2 C h w_X10_flows_g2 rfl dX10_flows_57 (fun h => ?_)
          refine j_if_le C h 108 dX10_flows_58 (by decide) (fun hc h => ?_) (fun hc h => ?_)
          · refine j_inc C (1) dX10_flows_108 rfl ki_1 (by decide) ?_
            refine j_goto C 46 dX10_flows_111 (by decide) ?_
            have h := Option.some.inj h
            subst h
            have hc9 := hc_46 _ rfl
            exact j_lw hc9 rfl
          · refine j_aload_n C dX10_flows_61 rfl ?_
            refine j_iload_n C dX10_flows_62 rfl ?_
            refine j_iload_n C dX10_flows_63 rfl ?_
            obtain ⟨r_dist_1, h_1, h⟩ := of_bind h
            refine j_callV1 C mk_X10_dist ms_X10_dist kw_1168 (c_X10_dist (gl g) (gD g) h_1) (by omega) 0 w_X10_flows_g0 rfl [0, 1] (hC_cons w_X10_flows_g0 (hC_cons w_X10_flows_g1 hC_nil)) rfl (w_X10_dist_a.trans w_X10_dist_a.symm) rfl rfl (Nat.le_of_ble_eq_true rfl) dX10_flows_64 (wput_cons w_X10_flows_s0 (wput_cons w_X10_flows_s1 wput_nil)) ?_
            refine j_ldc C kw_1160 dX10_flows_67 ?_
            refine j_icmp_ge C h 108 dX10_flows_69 (by decide) (fun hc h => ?_) (fun hc h => ?_)
            · refine j_inc C (1) dX10_flows_108 rfl ki_1 (by decide) ?_
              refine j_goto C 46 dX10_flows_111 (by decide) ?_
              have h := Option.some.inj h
              subst h
              have hc9 := hc_46 _ rfl
              exact j_lw hc9 rfl
            · refine j_aload_n C dX10_flows_72 rfl ?_
              refine j_get C 0 w_X10_flows_g0 rfl inX10 18 (by decide) kw_999 rfl rfl dX10_flows_73 ?_
              refine j_iload_n C dX10_flows_76 rfl ?_
              refine j_dup2 C dX10_flows_77 rfl rfl ?_
              refine j_iaload 2 C h w_X10_flows_g2 rfl dX10_flows_78 (fun h => ?_)
              refine j_iconst C (1) dX10_flows_79 ki_1 ?_
              refine j_isub C dX10_flows_80 ?_
              refine j_iastore 2 C h w_X10_flows_g2 rfl dX10_flows_81 (fun h => ?_)
              refine j_ws w_X10_flows_s2 ?_
              refine j_iload_n C dX10_flows_82 rfl ?_
              refine j_aload_n C dX10_flows_83 rfl ?_
              refine j_iload_n C dX10_flows_84 rfl ?_
              refine j_iload_n C dX10_flows_85 rfl ?_
              obtain ⟨r_dist_2, h_2, h⟩ := of_bind h
              refine j_callV1 C mk_X10_dist ms_X10_dist kw_1168 (c_X10_dist (gl g) (gD g) h_2) (by omega) 0 w_X10_flows_g0 rfl [0, 1] (hC_cons w_X10_flows_g0 (hC_cons w_X10_flows_g1 hC_nil)) rfl (w_X10_dist_a.trans w_X10_dist_a.symm) rfl rfl (Nat.le_of_ble_eq_true rfl) dX10_flows_86 (wput_cons w_X10_flows_s0 (wput_cons w_X10_flows_s1 wput_nil)) ?_
              refine j_aload_n C dX10_flows_89 rfl ?_
              obtain ⟨r_flows_3, h_3, h⟩ := of_bind h
              refine j_callV1 C mk_X10_flows ms_X10_flows kw_1323 (ih h_3) (by omega) 0 w_X10_flows_g0 rfl [0, 1, 2] (hC_cons w_X10_flows_g0 (hC_cons w_X10_flows_g1 (hC_cons w_X10_flows_g2 hC_nil))) rfl (w_X10_flows_a.trans w_X10_flows_a.symm) rfl rfl (Nat.le_of_ble_eq_true rfl) dX10_flows_90 (wput_cons w_X10_flows_s0 (wput_cons w_X10_flows_s1 (wput_cons w_X10_flows_s2 wput_nil))) ?_
              refine j_iadd C dX10_flows_93 ?_
              refine j_mmin C (by omega) kw_1167 kw_636 kw_19 kw_637 (Nat.le_of_ble_eq_true rfl) dX10_flows_94 ?_
              refine j_istore_n C dX10_flows_97 (by decide) ?_
              refine j_aload_n C dX10_flows_98 rfl ?_
              refine j_get C 0 w_X10_flows_g0 rfl inX10 18 (by decide) kw_999 rfl rfl dX10_flows_99 ?_
              refine j_iload_n C dX10_flows_102 rfl ?_
              refine j_dup2 C dX10_flows_103 rfl rfl ?_
              refine j_iaload 2 C h w_X10_flows_g2 rfl dX10_flows_104 (fun h => ?_)
              refine j_iconst C (1) dX10_flows_105 ki_1 ?_
              refine j_iadd C dX10_flows_106 ?_
              refine j_iastore 2 C h w_X10_flows_g2 rfl dX10_flows_107 (fun h => ?_)
              refine j_ws w_X10_flows_s2 ?_
              refine j_inc C (1) dX10_flows_108 rfl ki_1 (by decide) ?_
              refine j_goto C 46 dX10_flows_111 (by decide) ?_
              have h := Option.some.inj h
              subst h
              have hc9 := hc_46 _ rfl
              exact j_lw hc9 rfl
    refine j_lv (lv' := [(0, .ref q_this), (1, .int ((0 : Int32)))]) rfl ?_
    refine lp_ind hl_2 (fun s_2 => J g (w_X10_flows (gD g) q_this q_dists q_balances w_now w_kept w_trial w_refusals w_row w_letters w_left w_steps w_partners w_times w_spliced w_piece w_prices w_hands w_hand w_dealing v_hasImage v_rows v_lettered v_stepsMany v_splicedMany v_most v_together v_z v_dists v_balances) [(0, .ref q_this), (1, .int (s_2))] 2 []) (fun s_2 r_2 h hc_2 hx_2 => ?_)
    unfold f_X10_flows_b2 at h
    refine j_iload_n C dX10_flows_2 rfl ?_
    refine j_bipush C (6) dX10_flows_3 kb_6 ?_
    refine j_icmp_ge C h 23 dX10_flows_5 (by decide) (fun hc h => ?_) (fun hc h => ?_)
    · have h := Option.some.inj h
      subst h
      have h9 := hx_2 _ rfl
      subst h9
      exact j_lw ha_2 rfl
    · refine j_aload_n C dX10_flows_8 rfl ?_
      refine j_get C 0 w_X10_flows_g0 rfl inX10 18 (by decide) kw_999 rfl rfl dX10_flows_9 ?_
      refine j_iload_n C dX10_flows_12 rfl ?_
      refine j_iaload 2 C h w_X10_flows_g2 rfl dX10_flows_13 (fun h => ?_)
      refine j_if_lt C h 23 dX10_flows_14 (by decide) (fun hc h => ?_) (fun hc h => ?_)
      · have h := Option.some.inj h
        subst h
        have h9 := hx_2 _ rfl
        subst h9
        exact j_lw ha_2 rfl
      · refine j_inc C (1) dX10_flows_17 rfl ki_1 (by decide) ?_
        refine j_goto C 2 dX10_flows_20 (by decide) ?_
        have h := Option.some.inj h
        subst h
        have hc9 := hc_2 _ rfl
        exact j_lw hc9 rfl

def w_X10_flow (D : va_G) (q_this q_now q_dists q_balances : Nat) (w_kept w_trial w_refusals w_row w_letters w_left w_steps w_partners w_times w_spliced w_piece w_prices w_hands w_hand w_dealing : Value) (v_hasImage : Int32) (v_rows : Int32) (v_lettered : Int32) (v_stepsMany : Int32) (v_splicedMany : Int32) (v_most : Int32) (v_together : Int32) (v_z : Int32) (v_now : (Nat → Int32)) (v_dists : (Nat → Int32)) (v_balances : (Nat → Int32)) : va_W := [(q_this, .inr (9, [.ref q_now, w_kept, w_trial, .int v_hasImage, w_refusals, w_row, .int v_rows, w_letters, .int v_lettered, .ref q_dists, w_left, w_steps, .int v_stepsMany, w_partners, w_times, w_spliced, .int v_splicedMany, w_piece, .ref q_balances, w_prices, w_hands, w_hand, w_dealing, .int v_most, .int v_together, .int v_z])), (q_now, .inl (D.1 100, 50, .inl v_now)), (q_dists, .inl (D.1 100, 36, .inl v_dists)), (q_balances, .inl (D.1 100, 6, .inl v_balances))]
theorem w_X10_flow_g0 {D : va_G} {q_this : Nat} {q_now : Nat} {q_dists : Nat} {q_balances : Nat} {w_kept : Value} {w_trial : Value} {w_refusals : Value} {w_row : Value} {w_letters : Value} {w_left : Value} {w_steps : Value} {w_partners : Value} {w_times : Value} {w_spliced : Value} {w_piece : Value} {w_prices : Value} {w_hands : Value} {w_hand : Value} {w_dealing : Value} {v_hasImage : Int32} {v_rows : Int32} {v_lettered : Int32} {v_stepsMany : Int32} {v_splicedMany : Int32} {v_most : Int32} {v_together : Int32} {v_z : Int32} {v_now : (Nat → Int32)} {v_dists : (Nat → Int32)} {v_balances : (Nat → Int32)} : (w_X10_flow D q_this q_now q_dists q_balances w_kept w_trial w_refusals w_row w_letters w_left w_steps w_partners w_times w_spliced w_piece w_prices w_hands w_hand w_dealing v_hasImage v_rows v_lettered v_stepsMany v_splicedMany v_most v_together v_z v_now v_dists v_balances)[0]? = some (q_this, .inr (9, [.ref q_now, w_kept, w_trial, .int v_hasImage, w_refusals, w_row, .int v_rows, w_letters, .int v_lettered, .ref q_dists, w_left, w_steps, .int v_stepsMany, w_partners, w_times, w_spliced, .int v_splicedMany, w_piece, .ref q_balances, w_prices, w_hands, w_hand, w_dealing, .int v_most, .int v_together, .int v_z])) := rfl
theorem w_X10_flow_s0 {D : va_G} {q_this : Nat} {q_now : Nat} {q_dists : Nat} {q_balances : Nat} {w_kept : Value} {w_trial : Value} {w_refusals : Value} {w_row : Value} {w_letters : Value} {w_left : Value} {w_steps : Value} {w_partners : Value} {w_times : Value} {w_spliced : Value} {w_piece : Value} {w_prices : Value} {w_hands : Value} {w_hand : Value} {w_dealing : Value} {v_hasImage : Int32} {v_rows : Int32} {v_lettered : Int32} {v_stepsMany : Int32} {v_splicedMany : Int32} {v_most : Int32} {v_together : Int32} {v_z : Int32} {v_now : (Nat → Int32)} {v_dists : (Nat → Int32)} {v_balances : (Nat → Int32)} {v_hasImage' : Int32} {v_rows' : Int32} {v_lettered' : Int32} {v_stepsMany' : Int32} {v_splicedMany' : Int32} {v_most' : Int32} {v_together' : Int32} {v_z' : Int32} : (w_X10_flow D q_this q_now q_dists q_balances w_kept w_trial w_refusals w_row w_letters w_left w_steps w_partners w_times w_spliced w_piece w_prices w_hands w_hand w_dealing v_hasImage v_rows v_lettered v_stepsMany v_splicedMany v_most v_together v_z v_now v_dists v_balances).set 0 (q_this, .inr (9, [.ref q_now, w_kept, w_trial, .int v_hasImage', w_refusals, w_row, .int v_rows', w_letters, .int v_lettered', .ref q_dists, w_left, w_steps, .int v_stepsMany', w_partners, w_times, w_spliced, .int v_splicedMany', w_piece, .ref q_balances, w_prices, w_hands, w_hand, w_dealing, .int v_most', .int v_together', .int v_z'])) = (w_X10_flow D q_this q_now q_dists q_balances w_kept w_trial w_refusals w_row w_letters w_left w_steps w_partners w_times w_spliced w_piece w_prices w_hands w_hand w_dealing v_hasImage' v_rows' v_lettered' v_stepsMany' v_splicedMany' v_most' v_together' v_z' v_now v_dists v_balances) := rfl
theorem w_X10_flow_g1 {D : va_G} {q_this : Nat} {q_now : Nat} {q_dists : Nat} {q_balances : Nat} {w_kept : Value} {w_trial : Value} {w_refusals : Value} {w_row : Value} {w_letters : Value} {w_left : Value} {w_steps : Value} {w_partners : Value} {w_times : Value} {w_spliced : Value} {w_piece : Value} {w_prices : Value} {w_hands : Value} {w_hand : Value} {w_dealing : Value} {v_hasImage : Int32} {v_rows : Int32} {v_lettered : Int32} {v_stepsMany : Int32} {v_splicedMany : Int32} {v_most : Int32} {v_together : Int32} {v_z : Int32} {v_now : (Nat → Int32)} {v_dists : (Nat → Int32)} {v_balances : (Nat → Int32)} : (w_X10_flow D q_this q_now q_dists q_balances w_kept w_trial w_refusals w_row w_letters w_left w_steps w_partners w_times w_spliced w_piece w_prices w_hands w_hand w_dealing v_hasImage v_rows v_lettered v_stepsMany v_splicedMany v_most v_together v_z v_now v_dists v_balances)[1]? = some (q_now, .inl (D.1 100, 50, .inl v_now)) := rfl
theorem w_X10_flow_s1 {D : va_G} {q_this : Nat} {q_now : Nat} {q_dists : Nat} {q_balances : Nat} {w_kept : Value} {w_trial : Value} {w_refusals : Value} {w_row : Value} {w_letters : Value} {w_left : Value} {w_steps : Value} {w_partners : Value} {w_times : Value} {w_spliced : Value} {w_piece : Value} {w_prices : Value} {w_hands : Value} {w_hand : Value} {w_dealing : Value} {v_hasImage : Int32} {v_rows : Int32} {v_lettered : Int32} {v_stepsMany : Int32} {v_splicedMany : Int32} {v_most : Int32} {v_together : Int32} {v_z : Int32} {v_now : (Nat → Int32)} {v_dists : (Nat → Int32)} {v_balances : (Nat → Int32)} {v_now' : (Nat → Int32)} : (w_X10_flow D q_this q_now q_dists q_balances w_kept w_trial w_refusals w_row w_letters w_left w_steps w_partners w_times w_spliced w_piece w_prices w_hands w_hand w_dealing v_hasImage v_rows v_lettered v_stepsMany v_splicedMany v_most v_together v_z v_now v_dists v_balances).set 1 (q_now, .inl (D.1 100, 50, .inl v_now')) = (w_X10_flow D q_this q_now q_dists q_balances w_kept w_trial w_refusals w_row w_letters w_left w_steps w_partners w_times w_spliced w_piece w_prices w_hands w_hand w_dealing v_hasImage v_rows v_lettered v_stepsMany v_splicedMany v_most v_together v_z v_now' v_dists v_balances) := rfl
theorem w_X10_flow_g2 {D : va_G} {q_this : Nat} {q_now : Nat} {q_dists : Nat} {q_balances : Nat} {w_kept : Value} {w_trial : Value} {w_refusals : Value} {w_row : Value} {w_letters : Value} {w_left : Value} {w_steps : Value} {w_partners : Value} {w_times : Value} {w_spliced : Value} {w_piece : Value} {w_prices : Value} {w_hands : Value} {w_hand : Value} {w_dealing : Value} {v_hasImage : Int32} {v_rows : Int32} {v_lettered : Int32} {v_stepsMany : Int32} {v_splicedMany : Int32} {v_most : Int32} {v_together : Int32} {v_z : Int32} {v_now : (Nat → Int32)} {v_dists : (Nat → Int32)} {v_balances : (Nat → Int32)} : (w_X10_flow D q_this q_now q_dists q_balances w_kept w_trial w_refusals w_row w_letters w_left w_steps w_partners w_times w_spliced w_piece w_prices w_hands w_hand w_dealing v_hasImage v_rows v_lettered v_stepsMany v_splicedMany v_most v_together v_z v_now v_dists v_balances)[2]? = some (q_dists, .inl (D.1 100, 36, .inl v_dists)) := rfl
theorem w_X10_flow_s2 {D : va_G} {q_this : Nat} {q_now : Nat} {q_dists : Nat} {q_balances : Nat} {w_kept : Value} {w_trial : Value} {w_refusals : Value} {w_row : Value} {w_letters : Value} {w_left : Value} {w_steps : Value} {w_partners : Value} {w_times : Value} {w_spliced : Value} {w_piece : Value} {w_prices : Value} {w_hands : Value} {w_hand : Value} {w_dealing : Value} {v_hasImage : Int32} {v_rows : Int32} {v_lettered : Int32} {v_stepsMany : Int32} {v_splicedMany : Int32} {v_most : Int32} {v_together : Int32} {v_z : Int32} {v_now : (Nat → Int32)} {v_dists : (Nat → Int32)} {v_balances : (Nat → Int32)} {v_dists' : (Nat → Int32)} : (w_X10_flow D q_this q_now q_dists q_balances w_kept w_trial w_refusals w_row w_letters w_left w_steps w_partners w_times w_spliced w_piece w_prices w_hands w_hand w_dealing v_hasImage v_rows v_lettered v_stepsMany v_splicedMany v_most v_together v_z v_now v_dists v_balances).set 2 (q_dists, .inl (D.1 100, 36, .inl v_dists')) = (w_X10_flow D q_this q_now q_dists q_balances w_kept w_trial w_refusals w_row w_letters w_left w_steps w_partners w_times w_spliced w_piece w_prices w_hands w_hand w_dealing v_hasImage v_rows v_lettered v_stepsMany v_splicedMany v_most v_together v_z v_now v_dists' v_balances) := rfl
theorem w_X10_flow_g3 {D : va_G} {q_this : Nat} {q_now : Nat} {q_dists : Nat} {q_balances : Nat} {w_kept : Value} {w_trial : Value} {w_refusals : Value} {w_row : Value} {w_letters : Value} {w_left : Value} {w_steps : Value} {w_partners : Value} {w_times : Value} {w_spliced : Value} {w_piece : Value} {w_prices : Value} {w_hands : Value} {w_hand : Value} {w_dealing : Value} {v_hasImage : Int32} {v_rows : Int32} {v_lettered : Int32} {v_stepsMany : Int32} {v_splicedMany : Int32} {v_most : Int32} {v_together : Int32} {v_z : Int32} {v_now : (Nat → Int32)} {v_dists : (Nat → Int32)} {v_balances : (Nat → Int32)} : (w_X10_flow D q_this q_now q_dists q_balances w_kept w_trial w_refusals w_row w_letters w_left w_steps w_partners w_times w_spliced w_piece w_prices w_hands w_hand w_dealing v_hasImage v_rows v_lettered v_stepsMany v_splicedMany v_most v_together v_z v_now v_dists v_balances)[3]? = some (q_balances, .inl (D.1 100, 6, .inl v_balances)) := rfl
theorem w_X10_flow_s3 {D : va_G} {q_this : Nat} {q_now : Nat} {q_dists : Nat} {q_balances : Nat} {w_kept : Value} {w_trial : Value} {w_refusals : Value} {w_row : Value} {w_letters : Value} {w_left : Value} {w_steps : Value} {w_partners : Value} {w_times : Value} {w_spliced : Value} {w_piece : Value} {w_prices : Value} {w_hands : Value} {w_hand : Value} {w_dealing : Value} {v_hasImage : Int32} {v_rows : Int32} {v_lettered : Int32} {v_stepsMany : Int32} {v_splicedMany : Int32} {v_most : Int32} {v_together : Int32} {v_z : Int32} {v_now : (Nat → Int32)} {v_dists : (Nat → Int32)} {v_balances : (Nat → Int32)} {v_balances' : (Nat → Int32)} : (w_X10_flow D q_this q_now q_dists q_balances w_kept w_trial w_refusals w_row w_letters w_left w_steps w_partners w_times w_spliced w_piece w_prices w_hands w_hand w_dealing v_hasImage v_rows v_lettered v_stepsMany v_splicedMany v_most v_together v_z v_now v_dists v_balances).set 3 (q_balances, .inl (D.1 100, 6, .inl v_balances')) = (w_X10_flow D q_this q_now q_dists q_balances w_kept w_trial w_refusals w_row w_letters w_left w_steps w_partners w_times w_spliced w_piece w_prices w_hands w_hand w_dealing v_hasImage v_rows v_lettered v_stepsMany v_splicedMany v_most v_together v_z v_now v_dists v_balances') := rfl
theorem w_X10_flow_a {D : va_G} {q_this : Nat} {q_now : Nat} {q_dists : Nat} {q_balances : Nat} {w_kept : Value} {w_trial : Value} {w_refusals : Value} {w_row : Value} {w_letters : Value} {w_left : Value} {w_steps : Value} {w_partners : Value} {w_times : Value} {w_spliced : Value} {w_piece : Value} {w_prices : Value} {w_hands : Value} {w_hand : Value} {w_dealing : Value} {v_hasImage : Int32} {v_rows : Int32} {v_lettered : Int32} {v_stepsMany : Int32} {v_splicedMany : Int32} {v_most : Int32} {v_together : Int32} {v_z : Int32} {v_now : (Nat → Int32)} {v_dists : (Nat → Int32)} {v_balances : (Nat → Int32)} : (w_X10_flow D q_this q_now q_dists q_balances w_kept w_trial w_refusals w_row w_letters w_left w_steps w_partners w_times w_spliced w_piece w_prices w_hands w_hand w_dealing v_hasImage v_rows v_lettered v_stepsMany v_splicedMany v_most v_together v_z v_now v_dists v_balances).map (fun q => q.1) = [q_this, q_now, q_dists, q_balances] := rfl
def f_X10_flow_b10 (N : Nat) (x1_10 : Int32) (v_balances_10 : (Nat → Int32)) (v_now : (Nat → Int32)) : Option ((Int32 × (Nat → Int32)) ⊕ (Nat → Int32)) :=
  (if (6 : Int32) ≤ x1_10 then some (.inr v_balances_10) else (f_X10_balanceOf N x1_10 v_now).bind (fun r_balanceOf_2 => ga x1_10 6 (some (.inl (x1_10 + (1 : Int32), upd v_balances_10 (Int32.toNatClampNeg x1_10) r_balanceOf_2)))))
def f_X10_flow (N : Nat) (v_now : (Nat → Int32)) (v_dists : (Nat → Int32)) (v_balances : (Nat → Int32)) : Option (Int32 × (Nat → Int32) × (Nat → Int32)) :=
  (f_X10_measures N v_dists v_now).bind (fun r_measures_1 => (lp (fun s_10 => f_X10_flow_b10 N s_10.1 s_10.2 v_now) N ((0 : Int32), v_balances)).bind (fun e_10 => (f_X10_flows N 12 r_measures_1 e_10).bind (fun r_flows_3 => some (if (1000000 : Int32) ≤ r_flows_3.1 then (-9 : Int32) else r_flows_3.1, r_measures_1, r_flows_3.2))))
set_option maxRecDepth 100000 in
set_option maxHeartbeats 4000000 in
theorem c_X10_flow (l : Launch) (D : va_G) (N : Nat) {q_this q_now q_dists q_balances : Nat} {w_kept w_trial w_refusals w_row w_letters w_left w_steps w_partners w_times w_spliced w_piece w_prices w_hands w_hand w_dealing : Value} {v_hasImage : Int32} {v_rows : Int32} {v_lettered : Int32} {v_stepsMany : Int32} {v_splicedMany : Int32} {v_most : Int32} {v_together : Int32} {v_z : Int32} {v_now : (Nat → Int32)} {v_dists : (Nat → Int32)} {v_balances : (Nat → Int32)} {o : (Int32 × (Nat → Int32) × (Nat → Int32))} (h : f_X10_flow N v_now v_dists v_balances = some o) : CT l D yX10_flow cX10_flow 2 (Option.some FieldType.int) 14 [.ref q_this] (w_X10_flow D q_this q_now q_dists q_balances w_kept w_trial w_refusals w_row w_letters w_left w_steps w_partners w_times w_spliced w_piece w_prices w_hands w_hand w_dealing v_hasImage v_rows v_lettered v_stepsMany v_splicedMany v_most v_together v_z v_now v_dists v_balances) (w_X10_flow D q_this q_now q_dists q_balances w_kept w_trial w_refusals w_row w_letters w_left w_steps w_partners w_times w_spliced w_piece w_prices w_hands w_hand w_dealing v_hasImage v_rows v_lettered v_stepsMany v_splicedMany v_most v_together v_z v_now o.2.1 o.2.2) (some (.int o.1)) := by
  refine CT.of mk_X10_flow (Nat.le_of_ble_eq_true rfl) (fun g hl hD C E => ?_)
  subst hl
  subst hD
  unfold f_X10_flow at h
  refine j_aload_n C dX10_flow_0 rfl ?_
  refine j_aload_n C dX10_flow_1 rfl ?_
  refine j_get C 0 w_X10_flow_g0 rfl inX10 0 (by decide) kw_981 rfl rfl dX10_flow_2 ?_
  obtain ⟨r_measures_1, h_1, h⟩ := of_bind h
  refine j_callV0 C mk_X10_measures ms_X10_measures kw_1156 (c_X10_measures (gl g) (gD g) N h_1) (by decide) 0 w_X10_flow_g0 rfl [0, 2, 1] (hC_cons w_X10_flow_g0 (hC_cons w_X10_flow_g2 (hC_cons w_X10_flow_g1 hC_nil))) rfl (w_X10_measures_a.trans w_X10_measures_a.symm) rfl rfl (Nat.le_of_ble_eq_true rfl) dX10_flow_5 (wput_cons w_X10_flow_s0 (wput_cons w_X10_flow_s2 (wput_cons w_X10_flow_s1 wput_nil))) ?_
  refine j_iconst C (0) dX10_flow_8 ki_0 ?_
  refine j_istore_n C dX10_flow_9 (by decide) ?_
  obtain ⟨e_10, hl_10, h⟩ := of_bind h
  have ha_10 : J g (w_X10_flow (gD g) q_this q_now q_dists q_balances w_kept w_trial w_refusals w_row w_letters w_left w_steps w_partners w_times w_spliced w_piece w_prices w_hands w_hand w_dealing v_hasImage v_rows v_lettered v_stepsMany v_splicedMany v_most v_together v_z v_now r_measures_1 e_10) [(0, .ref q_this)] 36 [] := by
    refine j_aload_n C dX10_flow_36 rfl ?_
    obtain ⟨r_flows_3, h_3, h⟩ := of_bind h
    refine j_callV1 C mk_X10_flows ms_X10_flows kw_1323 (c_X10_flows (gl g) (gD g) N 12 h_3) (by decide) 0 w_X10_flow_g0 rfl [0, 2, 3] (hC_cons w_X10_flow_g0 (hC_cons w_X10_flow_g2 (hC_cons w_X10_flow_g3 hC_nil))) rfl (w_X10_flows_a.trans w_X10_flows_a.symm) rfl rfl (Nat.le_of_ble_eq_true rfl) dX10_flow_37 (wput_cons w_X10_flow_s0 (wput_cons w_X10_flow_s2 (wput_cons w_X10_flow_s3 wput_nil))) ?_
    refine j_istore_n C dX10_flow_40 (by decide) ?_
    refine j_iload_n C dX10_flow_41 rfl ?_
    refine j_ldc C kw_1160 dX10_flow_42 ?_
    have hj_4 : J g (w_X10_flow (gD g) q_this q_now q_dists q_balances w_kept w_trial w_refusals w_row w_letters w_left w_steps w_partners w_times w_spliced w_piece w_prices w_hands w_hand w_dealing v_hasImage v_rows v_lettered v_stepsMany v_splicedMany v_most v_together v_z v_now r_measures_1 r_flows_3.2) [] 53 [.int (if (1000000 : Int32) ≤ r_flows_3.1 then (-9 : Int32) else r_flows_3.1)] := by
      have h := Option.some.inj h
      subst h
      exact j_iret C E dX10_flow_53
    refine jv_icmp_ge C 51 dX10_flow_44 (by decide) (fun hc => ?_) (fun hc => ?_)
    · try simp only [if_pos hc] at hj_4
      refine j_bipush C (-9) dX10_flow_51 kb_m9 ?_
      exact j_lw hj_4 rfl
    · try simp only [if_neg hc] at hj_4
      refine j_iload_n C dX10_flow_47 rfl ?_
      refine j_goto C 53 dX10_flow_48 (by decide) ?_
      exact j_lw hj_4 rfl
  refine j_lv (lv' := [(0, .ref q_this), (1, .int ((0 : Int32)))]) rfl ?_
  refine lp_ind hl_10 (fun s_10 => J g (w_X10_flow (gD g) q_this q_now q_dists q_balances w_kept w_trial w_refusals w_row w_letters w_left w_steps w_partners w_times w_spliced w_piece w_prices w_hands w_hand w_dealing v_hasImage v_rows v_lettered v_stepsMany v_splicedMany v_most v_together v_z v_now r_measures_1 s_10.2) [(0, .ref q_this), (1, .int (s_10.1))] 10 []) (fun s_10 r_10 h hc_10 hx_10 => ?_)
  unfold f_X10_flow_b10 at h
  refine j_iload_n C dX10_flow_10 rfl ?_
  refine j_bipush C (6) dX10_flow_11 kb_6 ?_
  refine j_icmp_ge C h 36 dX10_flow_13 (by decide) (fun hc h => ?_) (fun hc h => ?_)
  · have h := Option.some.inj h
    subst h
    have h9 := hx_10 _ rfl
    subst h9
    exact j_lw ha_10 rfl
  · refine j_aload_n C dX10_flow_16 rfl ?_
    refine j_get C 0 w_X10_flow_g0 rfl inX10 18 (by decide) kw_999 rfl rfl dX10_flow_17 ?_
    refine j_iload_n C dX10_flow_20 rfl ?_
    refine j_aload_n C dX10_flow_21 rfl ?_
    refine j_get C 0 w_X10_flow_g0 rfl inX10 0 (by decide) kw_981 rfl rfl dX10_flow_22 ?_
    refine j_iload_n C dX10_flow_25 rfl ?_
    obtain ⟨r_balanceOf_2, h_2, h⟩ := of_bind h
    refine j_callS1 C mk_X10_balanceOf ms_X10_balanceOf kw_1316 (c_X10_balanceOf (gl g) (gD g) N h_2) (by decide) [1] (hC_cons w_X10_flow_g1 hC_nil) rfl (w_X10_balanceOf_a.trans w_X10_balanceOf_a.symm) rfl rfl (Nat.le_of_ble_eq_true rfl) dX10_flow_26 (wput_cons w_X10_flow_s1 wput_nil) ?_
    refine j_iastore 3 C h w_X10_flow_g3 rfl dX10_flow_29 (fun h => ?_)
    refine j_ws w_X10_flow_s3 ?_
    refine j_inc C (1) dX10_flow_30 rfl ki_1 (by decide) ?_
    refine j_goto C 10 dX10_flow_33 (by decide) ?_
    have h := Option.some.inj h
    subst h
    have hc9 := hc_10 _ rfl
    exact j_lw hc9 rfl
