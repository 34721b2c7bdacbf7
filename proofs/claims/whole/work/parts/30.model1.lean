def w_X10_in (D : va_G) : va_W := []
theorem w_X10_in_a {D : va_G} : (w_X10_in D).map (fun q => q.1) = [] := rfl
def f_X10_in (x0 : Int64) (x2 : Int64) (x4 : Int64) : Option Int32 :=
  gb (if (lg_cmp x0 x2) < 0 then (0 : Int32) else (if 0 < (lg_cmp x0 x4) then (0 : Int32) else (1 : Int32))) (some (if (lg_cmp x0 x2) < 0 then (0 : Int32) else (if 0 < (lg_cmp x0 x4) then (0 : Int32) else (1 : Int32))))
set_option maxRecDepth 100000 in
set_option maxHeartbeats 4000000 in
theorem c_X10_in (l : Launch) (D : va_G) {x0 : Int64} {x2 : Int64} {x4 : Int64} {o : Int32} (h : f_X10_in x0 x2 x4 = some o) : CT l D yX10_in cX10_in 6 (Option.some FieldType.boolean) 0 [.long x0, .long x2, .long x4] (w_X10_in D) (w_X10_in D) (some (.int o)) := by
  refine CT.of mk_X10_in (Nat.le_of_ble_eq_true rfl) (fun g hl hD C E => ?_)
  subst hl
  subst hD
  unfold f_X10_in at h
  refine j_lload_n C dX10_in_0 rfl ?_
  refine j_lload_n C dX10_in_1 rfl ?_
  refine j_lcmp C dX10_in_2 ?_
  have hj_1 : J g (w_X10_in (gD g)) [] 18 [.int (if (lg_cmp x0 x2) < 0 then (0 : Int32) else (if 0 < (lg_cmp x0 x4) then (0 : Int32) else (1 : Int32)))] := by
    obtain ⟨hz, h⟩ := of_gb h
    have h := Option.some.inj h
    subst h
    exact j_zret C E hz.1 dX10_in_18
  refine jv_if_lt C 17 dX10_in_3 (by decide) (fun hc => ?_) (fun hc => ?_)
  · try simp only [if_pos hc] at hj_1
    refine j_iconst C (0) dX10_in_17 ki_0 ?_
    exact j_lw hj_1 rfl
  · try simp only [if_neg hc] at hj_1
    refine j_lload_n C dX10_in_6 rfl ?_
    refine j_lload C dX10_in_7 rfl ?_
    refine j_lcmp C dX10_in_9 ?_
    refine jv_if_gt C 17 dX10_in_10 (by decide) (fun hc => ?_) (fun hc => ?_)
    · try simp only [if_pos hc] at hj_1
      refine j_iconst C (0) dX10_in_17 ki_0 ?_
      exact j_lw hj_1 rfl
    · try simp only [if_neg hc] at hj_1
      refine j_iconst C (1) dX10_in_13 ki_1 ?_
      refine j_goto C 18 dX10_in_14 (by decide) ?_
      exact j_lw hj_1 rfl

def w_X10_refused (D : va_G) (q_this q_refusals : Nat) (w_now w_kept w_trial w_row w_letters w_dists w_left w_steps w_partners w_times w_spliced w_piece w_balances w_prices w_hands w_hand w_dealing : Value) (v_hasImage : Int32) (v_rows : Int32) (v_lettered : Int32) (v_stepsMany : Int32) (v_splicedMany : Int32) (v_most : Int32) (v_together : Int32) (v_z : Int32) (v_refusals : (Nat → Int32)) : va_W := [(q_this, .inr (9, [w_now, w_kept, w_trial, .int v_hasImage, .ref q_refusals, w_row, .int v_rows, w_letters, .int v_lettered, w_dists, w_left, w_steps, .int v_stepsMany, w_partners, w_times, w_spliced, .int v_splicedMany, w_piece, w_balances, w_prices, w_hands, w_hand, w_dealing, .int v_most, .int v_together, .int v_z])), (q_refusals, .inl (D.1 100, 7, .inl v_refusals))]
theorem w_X10_refused_g0 {D : va_G} {q_this : Nat} {q_refusals : Nat} {w_now : Value} {w_kept : Value} {w_trial : Value} {w_row : Value} {w_letters : Value} {w_dists : Value} {w_left : Value} {w_steps : Value} {w_partners : Value} {w_times : Value} {w_spliced : Value} {w_piece : Value} {w_balances : Value} {w_prices : Value} {w_hands : Value} {w_hand : Value} {w_dealing : Value} {v_hasImage : Int32} {v_rows : Int32} {v_lettered : Int32} {v_stepsMany : Int32} {v_splicedMany : Int32} {v_most : Int32} {v_together : Int32} {v_z : Int32} {v_refusals : (Nat → Int32)} : (w_X10_refused D q_this q_refusals w_now w_kept w_trial w_row w_letters w_dists w_left w_steps w_partners w_times w_spliced w_piece w_balances w_prices w_hands w_hand w_dealing v_hasImage v_rows v_lettered v_stepsMany v_splicedMany v_most v_together v_z v_refusals)[0]? = some (q_this, .inr (9, [w_now, w_kept, w_trial, .int v_hasImage, .ref q_refusals, w_row, .int v_rows, w_letters, .int v_lettered, w_dists, w_left, w_steps, .int v_stepsMany, w_partners, w_times, w_spliced, .int v_splicedMany, w_piece, w_balances, w_prices, w_hands, w_hand, w_dealing, .int v_most, .int v_together, .int v_z])) := rfl
theorem w_X10_refused_s0 {D : va_G} {q_this : Nat} {q_refusals : Nat} {w_now : Value} {w_kept : Value} {w_trial : Value} {w_row : Value} {w_letters : Value} {w_dists : Value} {w_left : Value} {w_steps : Value} {w_partners : Value} {w_times : Value} {w_spliced : Value} {w_piece : Value} {w_balances : Value} {w_prices : Value} {w_hands : Value} {w_hand : Value} {w_dealing : Value} {v_hasImage : Int32} {v_rows : Int32} {v_lettered : Int32} {v_stepsMany : Int32} {v_splicedMany : Int32} {v_most : Int32} {v_together : Int32} {v_z : Int32} {v_refusals : (Nat → Int32)} {v_hasImage' : Int32} {v_rows' : Int32} {v_lettered' : Int32} {v_stepsMany' : Int32} {v_splicedMany' : Int32} {v_most' : Int32} {v_together' : Int32} {v_z' : Int32} : (w_X10_refused D q_this q_refusals w_now w_kept w_trial w_row w_letters w_dists w_left w_steps w_partners w_times w_spliced w_piece w_balances w_prices w_hands w_hand w_dealing v_hasImage v_rows v_lettered v_stepsMany v_splicedMany v_most v_together v_z v_refusals).set 0 (q_this, .inr (9, [w_now, w_kept, w_trial, .int v_hasImage', .ref q_refusals, w_row, .int v_rows', w_letters, .int v_lettered', w_dists, w_left, w_steps, .int v_stepsMany', w_partners, w_times, w_spliced, .int v_splicedMany', w_piece, w_balances, w_prices, w_hands, w_hand, w_dealing, .int v_most', .int v_together', .int v_z'])) = (w_X10_refused D q_this q_refusals w_now w_kept w_trial w_row w_letters w_dists w_left w_steps w_partners w_times w_spliced w_piece w_balances w_prices w_hands w_hand w_dealing v_hasImage' v_rows' v_lettered' v_stepsMany' v_splicedMany' v_most' v_together' v_z' v_refusals) := rfl
theorem w_X10_refused_g1 {D : va_G} {q_this : Nat} {q_refusals : Nat} {w_now : Value} {w_kept : Value} {w_trial : Value} {w_row : Value} {w_letters : Value} {w_dists : Value} {w_left : Value} {w_steps : Value} {w_partners : Value} {w_times : Value} {w_spliced : Value} {w_piece : Value} {w_balances : Value} {w_prices : Value} {w_hands : Value} {w_hand : Value} {w_dealing : Value} {v_hasImage : Int32} {v_rows : Int32} {v_lettered : Int32} {v_stepsMany : Int32} {v_splicedMany : Int32} {v_most : Int32} {v_together : Int32} {v_z : Int32} {v_refusals : (Nat → Int32)} : (w_X10_refused D q_this q_refusals w_now w_kept w_trial w_row w_letters w_dists w_left w_steps w_partners w_times w_spliced w_piece w_balances w_prices w_hands w_hand w_dealing v_hasImage v_rows v_lettered v_stepsMany v_splicedMany v_most v_together v_z v_refusals)[1]? = some (q_refusals, .inl (D.1 100, 7, .inl v_refusals)) := rfl
theorem w_X10_refused_s1 {D : va_G} {q_this : Nat} {q_refusals : Nat} {w_now : Value} {w_kept : Value} {w_trial : Value} {w_row : Value} {w_letters : Value} {w_dists : Value} {w_left : Value} {w_steps : Value} {w_partners : Value} {w_times : Value} {w_spliced : Value} {w_piece : Value} {w_balances : Value} {w_prices : Value} {w_hands : Value} {w_hand : Value} {w_dealing : Value} {v_hasImage : Int32} {v_rows : Int32} {v_lettered : Int32} {v_stepsMany : Int32} {v_splicedMany : Int32} {v_most : Int32} {v_together : Int32} {v_z : Int32} {v_refusals : (Nat → Int32)} {v_refusals' : (Nat → Int32)} : (w_X10_refused D q_this q_refusals w_now w_kept w_trial w_row w_letters w_dists w_left w_steps w_partners w_times w_spliced w_piece w_balances w_prices w_hands w_hand w_dealing v_hasImage v_rows v_lettered v_stepsMany v_splicedMany v_most v_together v_z v_refusals).set 1 (q_refusals, .inl (D.1 100, 7, .inl v_refusals')) = (w_X10_refused D q_this q_refusals w_now w_kept w_trial w_row w_letters w_dists w_left w_steps w_partners w_times w_spliced w_piece w_balances w_prices w_hands w_hand w_dealing v_hasImage v_rows v_lettered v_stepsMany v_splicedMany v_most v_together v_z v_refusals') := rfl
theorem w_X10_refused_a {D : va_G} {q_this : Nat} {q_refusals : Nat} {w_now : Value} {w_kept : Value} {w_trial : Value} {w_row : Value} {w_letters : Value} {w_dists : Value} {w_left : Value} {w_steps : Value} {w_partners : Value} {w_times : Value} {w_spliced : Value} {w_piece : Value} {w_balances : Value} {w_prices : Value} {w_hands : Value} {w_hand : Value} {w_dealing : Value} {v_hasImage : Int32} {v_rows : Int32} {v_lettered : Int32} {v_stepsMany : Int32} {v_splicedMany : Int32} {v_most : Int32} {v_together : Int32} {v_z : Int32} {v_refusals : (Nat → Int32)} : (w_X10_refused D q_this q_refusals w_now w_kept w_trial w_row w_letters w_dists w_left w_steps w_partners w_times w_spliced w_piece w_balances w_prices w_hands w_hand w_dealing v_hasImage v_rows v_lettered v_stepsMany v_splicedMany v_most v_together v_z v_refusals).map (fun q => q.1) = [q_this, q_refusals] := rfl
def f_X10_refused (x1 : Int32) (v_refusals : (Nat → Int32)) : Option (Int32 × (Nat → Int32)) :=
  ga (-x1) 7 (ga (-x1) 7 (some (x1, upd v_refusals (Int32.toNatClampNeg (-x1)) ((v_refusals (Int32.toNatClampNeg (-x1))) + (1 : Int32)))))
set_option maxRecDepth 100000 in
set_option maxHeartbeats 4000000 in
theorem c_X10_refused (l : Launch) (D : va_G) {q_this q_refusals : Nat} {w_now w_kept w_trial w_row w_letters w_dists w_left w_steps w_partners w_times w_spliced w_piece w_balances w_prices w_hands w_hand w_dealing : Value} {v_hasImage : Int32} {v_rows : Int32} {v_lettered : Int32} {v_stepsMany : Int32} {v_splicedMany : Int32} {v_most : Int32} {v_together : Int32} {v_z : Int32} {v_refusals : (Nat → Int32)} {x1 : Int32} {o : (Int32 × (Nat → Int32))} (h : f_X10_refused x1 v_refusals = some o) : CT l D yX10_refused cX10_refused 2 (Option.some FieldType.int) 0 [.ref q_this, .int x1] (w_X10_refused D q_this q_refusals w_now w_kept w_trial w_row w_letters w_dists w_left w_steps w_partners w_times w_spliced w_piece w_balances w_prices w_hands w_hand w_dealing v_hasImage v_rows v_lettered v_stepsMany v_splicedMany v_most v_together v_z v_refusals) (w_X10_refused D q_this q_refusals w_now w_kept w_trial w_row w_letters w_dists w_left w_steps w_partners w_times w_spliced w_piece w_balances w_prices w_hands w_hand w_dealing v_hasImage v_rows v_lettered v_stepsMany v_splicedMany v_most v_together v_z o.2) (some (.int o.1)) := by
  refine CT.of mk_X10_refused (Nat.le_of_ble_eq_true rfl) (fun g hl hD C E => ?_)
  subst hl
  subst hD
  unfold f_X10_refused at h
  refine j_aload_n C dX10_refused_0 rfl ?_
  refine j_get C 0 w_X10_refused_g0 rfl inX10 4 (by decide) kw_985 rfl rfl dX10_refused_1 ?_
  refine j_iload_n C dX10_refused_4 rfl ?_
  refine j_ineg C dX10_refused_5 ?_
  refine j_dup2 C dX10_refused_6 rfl rfl ?_
  refine j_iaload 1 C h w_X10_refused_g1 rfl dX10_refused_7 (fun h => ?_)
  refine j_iconst C (1) dX10_refused_8 ki_1 ?_
  refine j_iadd C dX10_refused_9 ?_
  refine j_iastore 1 C h w_X10_refused_g1 rfl dX10_refused_10 (fun h => ?_)
  refine j_ws w_X10_refused_s1 ?_
  refine j_iload_n C dX10_refused_11 rfl ?_
  have h := Option.some.inj h
  subst h
  exact j_iret C E dX10_refused_12

def w_X10_refusedLong (D : va_G) (q_this q_refusals : Nat) (w_now w_kept w_trial w_row w_letters w_dists w_left w_steps w_partners w_times w_spliced w_piece w_balances w_prices w_hands w_hand w_dealing : Value) (v_hasImage : Int32) (v_rows : Int32) (v_lettered : Int32) (v_stepsMany : Int32) (v_splicedMany : Int32) (v_most : Int32) (v_together : Int32) (v_z : Int32) (v_refusals : (Nat → Int32)) : va_W := [(q_this, .inr (9, [w_now, w_kept, w_trial, .int v_hasImage, .ref q_refusals, w_row, .int v_rows, w_letters, .int v_lettered, w_dists, w_left, w_steps, .int v_stepsMany, w_partners, w_times, w_spliced, .int v_splicedMany, w_piece, w_balances, w_prices, w_hands, w_hand, w_dealing, .int v_most, .int v_together, .int v_z])), (q_refusals, .inl (D.1 100, 7, .inl v_refusals))]
theorem w_X10_refusedLong_g0 {D : va_G} {q_this : Nat} {q_refusals : Nat} {w_now : Value} {w_kept : Value} {w_trial : Value} {w_row : Value} {w_letters : Value} {w_dists : Value} {w_left : Value} {w_steps : Value} {w_partners : Value} {w_times : Value} {w_spliced : Value} {w_piece : Value} {w_balances : Value} {w_prices : Value} {w_hands : Value} {w_hand : Value} {w_dealing : Value} {v_hasImage : Int32} {v_rows : Int32} {v_lettered : Int32} {v_stepsMany : Int32} {v_splicedMany : Int32} {v_most : Int32} {v_together : Int32} {v_z : Int32} {v_refusals : (Nat → Int32)} : (w_X10_refusedLong D q_this q_refusals w_now w_kept w_trial w_row w_letters w_dists w_left w_steps w_partners w_times w_spliced w_piece w_balances w_prices w_hands w_hand w_dealing v_hasImage v_rows v_lettered v_stepsMany v_splicedMany v_most v_together v_z v_refusals)[0]? = some (q_this, .inr (9, [w_now, w_kept, w_trial, .int v_hasImage, .ref q_refusals, w_row, .int v_rows, w_letters, .int v_lettered, w_dists, w_left, w_steps, .int v_stepsMany, w_partners, w_times, w_spliced, .int v_splicedMany, w_piece, w_balances, w_prices, w_hands, w_hand, w_dealing, .int v_most, .int v_together, .int v_z])) := rfl
theorem w_X10_refusedLong_s0 {D : va_G} {q_this : Nat} {q_refusals : Nat} {w_now : Value} {w_kept : Value} {w_trial : Value} {w_row : Value} {w_letters : Value} {w_dists : Value} {w_left : Value} {w_steps : Value} {w_partners : Value} {w_times : Value} {w_spliced : Value} {w_piece : Value} {w_balances : Value} {w_prices : Value} {w_hands : Value} {w_hand : Value} {w_dealing : Value} {v_hasImage : Int32} {v_rows : Int32} {v_lettered : Int32} {v_stepsMany : Int32} {v_splicedMany : Int32} {v_most : Int32} {v_together : Int32} {v_z : Int32} {v_refusals : (Nat → Int32)} {v_hasImage' : Int32} {v_rows' : Int32} {v_lettered' : Int32} {v_stepsMany' : Int32} {v_splicedMany' : Int32} {v_most' : Int32} {v_together' : Int32} {v_z' : Int32} : (w_X10_refusedLong D q_this q_refusals w_now w_kept w_trial w_row w_letters w_dists w_left w_steps w_partners w_times w_spliced w_piece w_balances w_prices w_hands w_hand w_dealing v_hasImage v_rows v_lettered v_stepsMany v_splicedMany v_most v_together v_z v_refusals).set 0 (q_this, .inr (9, [w_now, w_kept, w_trial, .int v_hasImage', .ref q_refusals, w_row, .int v_rows', w_letters, .int v_lettered', w_dists, w_left, w_steps, .int v_stepsMany', w_partners, w_times, w_spliced, .int v_splicedMany', w_piece, w_balances, w_prices, w_hands, w_hand, w_dealing, .int v_most', .int v_together', .int v_z'])) = (w_X10_refusedLong D q_this q_refusals w_now w_kept w_trial w_row w_letters w_dists w_left w_steps w_partners w_times w_spliced w_piece w_balances w_prices w_hands w_hand w_dealing v_hasImage' v_rows' v_lettered' v_stepsMany' v_splicedMany' v_most' v_together' v_z' v_refusals) := rfl
theorem w_X10_refusedLong_g1 {D : va_G} {q_this : Nat} {q_refusals : Nat} {w_now : Value} {w_kept : Value} {w_trial : Value} {w_row : Value} {w_letters : Value} {w_dists : Value} {w_left : Value} {w_steps : Value} {w_partners : Value} {w_times : Value} {w_spliced : Value} {w_piece : Value} {w_balances : Value} {w_prices : Value} {w_hands : Value} {w_hand : Value} {w_dealing : Value} {v_hasImage : Int32} {v_rows : Int32} {v_lettered : Int32} {v_stepsMany : Int32} {v_splicedMany : Int32} {v_most : Int32} {v_together : Int32} {v_z : Int32} {v_refusals : (Nat → Int32)} : (w_X10_refusedLong D q_this q_refusals w_now w_kept w_trial w_row w_letters w_dists w_left w_steps w_partners w_times w_spliced w_piece w_balances w_prices w_hands w_hand w_dealing v_hasImage v_rows v_lettered v_stepsMany v_splicedMany v_most v_together v_z v_refusals)[1]? = some (q_refusals, .inl (D.1 100, 7, .inl v_refusals)) := rfl
theorem w_X10_refusedLong_s1 {D : va_G} {q_this : Nat} {q_refusals : Nat} {w_now : Value} {w_kept : Value} {w_trial : Value} {w_row : Value} {w_letters : Value} {w_dists : Value} {w_left : Value} {w_steps : Value} {w_partners : Value} {w_times : Value} {w_spliced : Value} {w_piece : Value} {w_balances : Value} {w_prices : Value} {w_hands : Value} {w_hand : Value} {w_dealing : Value} {v_hasImage : Int32} {v_rows : Int32} {v_lettered : Int32} {v_stepsMany : Int32} {v_splicedMany : Int32} {v_most : Int32} {v_together : Int32} {v_z : Int32} {v_refusals : (Nat → Int32)} {v_refusals' : (Nat → Int32)} : (w_X10_refusedLong D q_this q_refusals w_now w_kept w_trial w_row w_letters w_dists w_left w_steps w_partners w_times w_spliced w_piece w_balances w_prices w_hands w_hand w_dealing v_hasImage v_rows v_lettered v_stepsMany v_splicedMany v_most v_together v_z v_refusals).set 1 (q_refusals, .inl (D.1 100, 7, .inl v_refusals')) = (w_X10_refusedLong D q_this q_refusals w_now w_kept w_trial w_row w_letters w_dists w_left w_steps w_partners w_times w_spliced w_piece w_balances w_prices w_hands w_hand w_dealing v_hasImage v_rows v_lettered v_stepsMany v_splicedMany v_most v_together v_z v_refusals') := rfl
theorem w_X10_refusedLong_a {D : va_G} {q_this : Nat} {q_refusals : Nat} {w_now : Value} {w_kept : Value} {w_trial : Value} {w_row : Value} {w_letters : Value} {w_dists : Value} {w_left : Value} {w_steps : Value} {w_partners : Value} {w_times : Value} {w_spliced : Value} {w_piece : Value} {w_balances : Value} {w_prices : Value} {w_hands : Value} {w_hand : Value} {w_dealing : Value} {v_hasImage : Int32} {v_rows : Int32} {v_lettered : Int32} {v_stepsMany : Int32} {v_splicedMany : Int32} {v_most : Int32} {v_together : Int32} {v_z : Int32} {v_refusals : (Nat → Int32)} : (w_X10_refusedLong D q_this q_refusals w_now w_kept w_trial w_row w_letters w_dists w_left w_steps w_partners w_times w_spliced w_piece w_balances w_prices w_hands w_hand w_dealing v_hasImage v_rows v_lettered v_stepsMany v_splicedMany v_most v_together v_z v_refusals).map (fun q => q.1) = [q_this, q_refusals] := rfl
def f_X10_refusedLong (x1 : Int32) (v_refusals : (Nat → Int32)) : Option (Int64 × (Nat → Int32)) :=
  (f_X10_refused x1 v_refusals).bind (fun r_refused_1 => some ((4000000000000000000 : Int64) - (Int32.toInt64 r_refused_1.1), r_refused_1.2))
set_option maxRecDepth 100000 in
set_option maxHeartbeats 4000000 in
theorem c_X10_refusedLong (l : Launch) (D : va_G) {q_this q_refusals : Nat} {w_now w_kept w_trial w_row w_letters w_dists w_left w_steps w_partners w_times w_spliced w_piece w_balances w_prices w_hands w_hand w_dealing : Value} {v_hasImage : Int32} {v_rows : Int32} {v_lettered : Int32} {v_stepsMany : Int32} {v_splicedMany : Int32} {v_most : Int32} {v_together : Int32} {v_z : Int32} {v_refusals : (Nat → Int32)} {x1 : Int32} {o : (Int64 × (Nat → Int32))} (h : f_X10_refusedLong x1 v_refusals = some o) : CT l D yX10_refusedLong cX10_refusedLong 2 (Option.some FieldType.long) 1 [.ref q_this, .int x1] (w_X10_refusedLong D q_this q_refusals w_now w_kept w_trial w_row w_letters w_dists w_left w_steps w_partners w_times w_spliced w_piece w_balances w_prices w_hands w_hand w_dealing v_hasImage v_rows v_lettered v_stepsMany v_splicedMany v_most v_together v_z v_refusals) (w_X10_refusedLong D q_this q_refusals w_now w_kept w_trial w_row w_letters w_dists w_left w_steps w_partners w_times w_spliced w_piece w_balances w_prices w_hands w_hand w_dealing v_hasImage v_rows v_lettered v_stepsMany v_splicedMany v_most v_together v_z o.2) (some (.long o.1)) := by
  refine CT.of mk_X10_refusedLong (Nat.le_of_ble_eq_true rfl) (fun g hl hD C E => ?_)
  subst hl
  subst hD
  unfold f_X10_refusedLong at h
  refine j_ldc2 C kw_1373 dX10_refusedLong_0 ?_
  refine j_aload_n C dX10_refusedLong_3 rfl ?_
  refine j_iload_n C dX10_refusedLong_4 rfl ?_
  obtain ⟨r_refused_1, h_1, h⟩ := of_bind h
  refine j_callV1 C mk_X10_refused ms_X10_refused kw_1064 (c_X10_refused (gl g) (gD g) h_1) (by decide) 0 w_X10_refusedLong_g0 rfl [0, 1] (hC_cons w_X10_refusedLong_g0 (hC_cons w_X10_refusedLong_g1 hC_nil)) rfl (w_X10_refused_a.trans w_X10_refused_a.symm) rfl rfl (Nat.le_of_ble_eq_true rfl) dX10_refusedLong_5 (wput_cons w_X10_refusedLong_s0 (wput_cons w_X10_refusedLong_s1 wput_nil)) ?_
  refine j_i2l C dX10_refusedLong_8 ?_
  refine j_lsub C dX10_refusedLong_9 ?_
  have h := Option.some.inj h
  subst h
  exact j_lret C E dX10_refusedLong_10

def w_X10_refusedBelow (D : va_G) (q_this q_refusals : Nat) (w_now w_kept w_trial w_row w_letters w_dists w_left w_steps w_partners w_times w_spliced w_piece w_balances w_prices w_hands w_hand w_dealing : Value) (v_hasImage : Int32) (v_rows : Int32) (v_lettered : Int32) (v_stepsMany : Int32) (v_splicedMany : Int32) (v_most : Int32) (v_together : Int32) (v_z : Int32) (v_refusals : (Nat → Int32)) : va_W := [(q_this, .inr (9, [w_now, w_kept, w_trial, .int v_hasImage, .ref q_refusals, w_row, .int v_rows, w_letters, .int v_lettered, w_dists, w_left, w_steps, .int v_stepsMany, w_partners, w_times, w_spliced, .int v_splicedMany, w_piece, w_balances, w_prices, w_hands, w_hand, w_dealing, .int v_most, .int v_together, .int v_z])), (q_refusals, .inl (D.1 100, 7, .inl v_refusals))]
theorem w_X10_refusedBelow_g0 {D : va_G} {q_this : Nat} {q_refusals : Nat} {w_now : Value} {w_kept : Value} {w_trial : Value} {w_row : Value} {w_letters : Value} {w_dists : Value} {w_left : Value} {w_steps : Value} {w_partners : Value} {w_times : Value} {w_spliced : Value} {w_piece : Value} {w_balances : Value} {w_prices : Value} {w_hands : Value} {w_hand : Value} {w_dealing : Value} {v_hasImage : Int32} {v_rows : Int32} {v_lettered : Int32} {v_stepsMany : Int32} {v_splicedMany : Int32} {v_most : Int32} {v_together : Int32} {v_z : Int32} {v_refusals : (Nat → Int32)} : (w_X10_refusedBelow D q_this q_refusals w_now w_kept w_trial w_row w_letters w_dists w_left w_steps w_partners w_times w_spliced w_piece w_balances w_prices w_hands w_hand w_dealing v_hasImage v_rows v_lettered v_stepsMany v_splicedMany v_most v_together v_z v_refusals)[0]? = some (q_this, .inr (9, [w_now, w_kept, w_trial, .int v_hasImage, .ref q_refusals, w_row, .int v_rows, w_letters, .int v_lettered, w_dists, w_left, w_steps, .int v_stepsMany, w_partners, w_times, w_spliced, .int v_splicedMany, w_piece, w_balances, w_prices, w_hands, w_hand, w_dealing, .int v_most, .int v_together, .int v_z])) := rfl
theorem w_X10_refusedBelow_s0 {D : va_G} {q_this : Nat} {q_refusals : Nat} {w_now : Value} {w_kept : Value} {w_trial : Value} {w_row : Value} {w_letters : Value} {w_dists : Value} {w_left : Value} {w_steps : Value} {w_partners : Value} {w_times : Value} {w_spliced : Value} {w_piece : Value} {w_balances : Value} {w_prices : Value} {w_hands : Value} {w_hand : Value} {w_dealing : Value} {v_hasImage : Int32} {v_rows : Int32} {v_lettered : Int32} {v_stepsMany : Int32} {v_splicedMany : Int32} {v_most : Int32} {v_together : Int32} {v_z : Int32} {v_refusals : (Nat → Int32)} {v_hasImage' : Int32} {v_rows' : Int32} {v_lettered' : Int32} {v_stepsMany' : Int32} {v_splicedMany' : Int32} {v_most' : Int32} {v_together' : Int32} {v_z' : Int32} : (w_X10_refusedBelow D q_this q_refusals w_now w_kept w_trial w_row w_letters w_dists w_left w_steps w_partners w_times w_spliced w_piece w_balances w_prices w_hands w_hand w_dealing v_hasImage v_rows v_lettered v_stepsMany v_splicedMany v_most v_together v_z v_refusals).set 0 (q_this, .inr (9, [w_now, w_kept, w_trial, .int v_hasImage', .ref q_refusals, w_row, .int v_rows', w_letters, .int v_lettered', w_dists, w_left, w_steps, .int v_stepsMany', w_partners, w_times, w_spliced, .int v_splicedMany', w_piece, w_balances, w_prices, w_hands, w_hand, w_dealing, .int v_most', .int v_together', .int v_z'])) = (w_X10_refusedBelow D q_this q_refusals w_now w_kept w_trial w_row w_letters w_dists w_left w_steps w_partners w_times w_spliced w_piece w_balances w_prices w_hands w_hand w_dealing v_hasImage' v_rows' v_lettered' v_stepsMany' v_splicedMany' v_most' v_together' v_z' v_refusals) := rfl
theorem w_X10_refusedBelow_g1 {D : va_G} {q_this : Nat} {q_refusals : Nat} {w_now : Value} {w_kept : Value} {w_trial : Value} {w_row : Value} {w_letters : Value} {w_dists : Value} {w_left : Value} {w_steps : Value} {w_partners : Value} {w_times : Value} {w_spliced : Value} {w_piece : Value} {w_balances : Value} {w_prices : Value} {w_hands : Value} {w_hand : Value} {w_dealing : Value} {v_hasImage : Int32} {v_rows : Int32} {v_lettered : Int32} {v_stepsMany : Int32} {v_splicedMany : Int32} {v_most : Int32} {v_together : Int32} {v_z : Int32} {v_refusals : (Nat → Int32)} : (w_X10_refusedBelow D q_this q_refusals w_now w_kept w_trial w_row w_letters w_dists w_left w_steps w_partners w_times w_spliced w_piece w_balances w_prices w_hands w_hand w_dealing v_hasImage v_rows v_lettered v_stepsMany v_splicedMany v_most v_together v_z v_refusals)[1]? = some (q_refusals, .inl (D.1 100, 7, .inl v_refusals)) := rfl
theorem w_X10_refusedBelow_s1 {D : va_G} {q_this : Nat} {q_refusals : Nat} {w_now : Value} {w_kept : Value} {w_trial : Value} {w_row : Value} {w_letters : Value} {w_dists : Value} {w_left : Value} {w_steps : Value} {w_partners : Value} {w_times : Value} {w_spliced : Value} {w_piece : Value} {w_balances : Value} {w_prices : Value} {w_hands : Value} {w_hand : Value} {w_dealing : Value} {v_hasImage : Int32} {v_rows : Int32} {v_lettered : Int32} {v_stepsMany : Int32} {v_splicedMany : Int32} {v_most : Int32} {v_together : Int32} {v_z : Int32} {v_refusals : (Nat → Int32)} {v_refusals' : (Nat → Int32)} : (w_X10_refusedBelow D q_this q_refusals w_now w_kept w_trial w_row w_letters w_dists w_left w_steps w_partners w_times w_spliced w_piece w_balances w_prices w_hands w_hand w_dealing v_hasImage v_rows v_lettered v_stepsMany v_splicedMany v_most v_together v_z v_refusals).set 1 (q_refusals, .inl (D.1 100, 7, .inl v_refusals')) = (w_X10_refusedBelow D q_this q_refusals w_now w_kept w_trial w_row w_letters w_dists w_left w_steps w_partners w_times w_spliced w_piece w_balances w_prices w_hands w_hand w_dealing v_hasImage v_rows v_lettered v_stepsMany v_splicedMany v_most v_together v_z v_refusals') := rfl
theorem w_X10_refusedBelow_a {D : va_G} {q_this : Nat} {q_refusals : Nat} {w_now : Value} {w_kept : Value} {w_trial : Value} {w_row : Value} {w_letters : Value} {w_dists : Value} {w_left : Value} {w_steps : Value} {w_partners : Value} {w_times : Value} {w_spliced : Value} {w_piece : Value} {w_balances : Value} {w_prices : Value} {w_hands : Value} {w_hand : Value} {w_dealing : Value} {v_hasImage : Int32} {v_rows : Int32} {v_lettered : Int32} {v_stepsMany : Int32} {v_splicedMany : Int32} {v_most : Int32} {v_together : Int32} {v_z : Int32} {v_refusals : (Nat → Int32)} : (w_X10_refusedBelow D q_this q_refusals w_now w_kept w_trial w_row w_letters w_dists w_left w_steps w_partners w_times w_spliced w_piece w_balances w_prices w_hands w_hand w_dealing v_hasImage v_rows v_lettered v_stepsMany v_splicedMany v_most v_together v_z v_refusals).map (fun q => q.1) = [q_this, q_refusals] := rfl
def f_X10_refusedBelow (x1 : Int32) (v_refusals : (Nat → Int32)) : Option (Int32 × (Nat → Int32)) :=
  (f_X10_refused x1 v_refusals).bind (fun r_refused_1 => some ((-100000 : Int32) + r_refused_1.1, r_refused_1.2))
set_option maxRecDepth 100000 in
set_option maxHeartbeats 4000000 in
theorem c_X10_refusedBelow (l : Launch) (D : va_G) {q_this q_refusals : Nat} {w_now w_kept w_trial w_row w_letters w_dists w_left w_steps w_partners w_times w_spliced w_piece w_balances w_prices w_hands w_hand w_dealing : Value} {v_hasImage : Int32} {v_rows : Int32} {v_lettered : Int32} {v_stepsMany : Int32} {v_splicedMany : Int32} {v_most : Int32} {v_together : Int32} {v_z : Int32} {v_refusals : (Nat → Int32)} {x1 : Int32} {o : (Int32 × (Nat → Int32))} (h : f_X10_refusedBelow x1 v_refusals = some o) : CT l D yX10_refusedBelow cX10_refusedBelow 2 (Option.some FieldType.int) 1 [.ref q_this, .int x1] (w_X10_refusedBelow D q_this q_refusals w_now w_kept w_trial w_row w_letters w_dists w_left w_steps w_partners w_times w_spliced w_piece w_balances w_prices w_hands w_hand w_dealing v_hasImage v_rows v_lettered v_stepsMany v_splicedMany v_most v_together v_z v_refusals) (w_X10_refusedBelow D q_this q_refusals w_now w_kept w_trial w_row w_letters w_dists w_left w_steps w_partners w_times w_spliced w_piece w_balances w_prices w_hands w_hand w_dealing v_hasImage v_rows v_lettered v_stepsMany v_splicedMany v_most v_together v_z o.2) (some (.int o.1)) := by
  refine CT.of mk_X10_refusedBelow (Nat.le_of_ble_eq_true rfl) (fun g hl hD C E => ?_)
  subst hl
  subst hD
  unfold f_X10_refusedBelow at h
  refine j_ldc C kw_1250 dX10_refusedBelow_0 ?_
  refine j_aload_n C dX10_refusedBelow_2 rfl ?_
  refine j_iload_n C dX10_refusedBelow_3 rfl ?_
  obtain ⟨r_refused_1, h_1, h⟩ := of_bind h
  refine j_callV1 C mk_X10_refused ms_X10_refused kw_1064 (c_X10_refused (gl g) (gD g) h_1) (by decide) 0 w_X10_refusedBelow_g0 rfl [0, 1] (hC_cons w_X10_refusedBelow_g0 (hC_cons w_X10_refusedBelow_g1 hC_nil)) rfl (w_X10_refused_a.trans w_X10_refused_a.symm) rfl rfl (Nat.le_of_ble_eq_true rfl) dX10_refusedBelow_4 (wput_cons w_X10_refusedBelow_s0 (wput_cons w_X10_refusedBelow_s1 wput_nil)) ?_
  refine j_iadd C dX10_refusedBelow_7 ?_
  have h := Option.some.inj h
  subst h
  exact j_iret C E dX10_refusedBelow_8

def w_X10_copies (D : va_G) (q_p1 q_p2 : Nat) (v_p1 : (Nat → Int32)) (v_p2 : (Nat → Int32)) : va_W := [(q_p1, .inl (D.1 100, 50, .inl v_p1)), (q_p2, .inl (D.1 100, 50, .inl v_p2))]
theorem w_X10_copies_g0 {D : va_G} {q_p1 : Nat} {q_p2 : Nat} {v_p1 : (Nat → Int32)} {v_p2 : (Nat → Int32)} : (w_X10_copies D q_p1 q_p2 v_p1 v_p2)[0]? = some (q_p1, .inl (D.1 100, 50, .inl v_p1)) := rfl
theorem w_X10_copies_s0 {D : va_G} {q_p1 : Nat} {q_p2 : Nat} {v_p1 : (Nat → Int32)} {v_p2 : (Nat → Int32)} {v_p1' : (Nat → Int32)} : (w_X10_copies D q_p1 q_p2 v_p1 v_p2).set 0 (q_p1, .inl (D.1 100, 50, .inl v_p1')) = (w_X10_copies D q_p1 q_p2 v_p1' v_p2) := rfl
theorem w_X10_copies_g1 {D : va_G} {q_p1 : Nat} {q_p2 : Nat} {v_p1 : (Nat → Int32)} {v_p2 : (Nat → Int32)} : (w_X10_copies D q_p1 q_p2 v_p1 v_p2)[1]? = some (q_p2, .inl (D.1 100, 50, .inl v_p2)) := rfl
theorem w_X10_copies_s1 {D : va_G} {q_p1 : Nat} {q_p2 : Nat} {v_p1 : (Nat → Int32)} {v_p2 : (Nat → Int32)} {v_p2' : (Nat → Int32)} : (w_X10_copies D q_p1 q_p2 v_p1 v_p2).set 1 (q_p2, .inl (D.1 100, 50, .inl v_p2')) = (w_X10_copies D q_p1 q_p2 v_p1 v_p2') := rfl
theorem w_X10_copies_a {D : va_G} {q_p1 : Nat} {q_p2 : Nat} {v_p1 : (Nat → Int32)} {v_p2 : (Nat → Int32)} : (w_X10_copies D q_p1 q_p2 v_p1 v_p2).map (fun q => q.1) = [q_p1, q_p2] := rfl
def f_X10_copies_b2 (x2_2 : Int32) (v_p2_2 : (Nat → Int32)) (v_p1 : (Nat → Int32)) : Option ((Int32 × (Nat → Int32)) ⊕ (Nat → Int32)) :=
  (if (50 : Int32) ≤ x2_2 then some (.inr v_p2_2) else ga x2_2 50 (ga x2_2 50 (some (.inl (x2_2 + (1 : Int32), upd v_p2_2 (Int32.toNatClampNeg x2_2) (v_p1 (Int32.toNatClampNeg x2_2)))))))
def f_X10_copies (N : Nat) (v_p1 : (Nat → Int32)) (v_p2 : (Nat → Int32)) : Option (Nat → Int32) :=
  (lp (fun s_2 => f_X10_copies_b2 s_2.1 s_2.2 v_p1) N ((0 : Int32), v_p2)).bind (fun e_2 => some e_2)
set_option maxRecDepth 100000 in
set_option maxHeartbeats 4000000 in
theorem c_X10_copies (l : Launch) (D : va_G) (N : Nat) {q_p1 q_p2 : Nat} {v_p1 : (Nat → Int32)} {v_p2 : (Nat → Int32)} {o : (Nat → Int32)} (h : f_X10_copies N v_p1 v_p2 = some o) : CT l D yX10_copies cX10_copies 3 (Option.none : Option FieldType) 0 [.ref q_p1, .ref q_p2] (w_X10_copies D q_p1 q_p2 v_p1 v_p2) (w_X10_copies D q_p1 q_p2 v_p1 o) (none) := by
  refine CT.of mk_X10_copies (Nat.le_of_ble_eq_true rfl) (fun g hl hD C E => ?_)
  subst hl
  subst hD
  unfold f_X10_copies at h
  refine j_iconst C (0) dX10_copies_0 ki_0 ?_
  refine j_istore_n C dX10_copies_1 (by decide) ?_
  obtain ⟨e_2, hl_2, h⟩ := of_bind h
  have ha_2 : J g (w_X10_copies (gD g) q_p1 q_p2 v_p1 e_2) [] 20 [] := by
    have h := Option.some.inj h
    subst h
    exact j_vret C E dX10_copies_20
  refine j_lv (lv' := [(0, .ref q_p1), (1, .ref q_p2), (2, .int ((0 : Int32)))]) rfl ?_
  refine lp_ind hl_2 (fun s_2 => J g (w_X10_copies (gD g) q_p1 q_p2 v_p1 s_2.2) [(0, .ref q_p1), (1, .ref q_p2), (2, .int (s_2.1))] 2 []) (fun s_2 r_2 h hc_2 hx_2 => ?_)
  unfold f_X10_copies_b2 at h
  refine j_iload_n C dX10_copies_2 rfl ?_
  refine j_bipush C (50) dX10_copies_3 kb_50 ?_
  refine j_icmp_ge C h 20 dX10_copies_5 (by decide) (fun hc h => ?_) (fun hc h => ?_)
  · have h := Option.some.inj h
    subst h
    have h9 := hx_2 _ rfl
    subst h9
    exact j_lw ha_2 rfl
  · refine j_aload_n C dX10_copies_8 rfl ?_
    refine j_iload_n C dX10_copies_9 rfl ?_
    refine j_aload_n C dX10_copies_10 rfl ?_
    refine j_iload_n C dX10_copies_11 rfl ?_
    refine j_iaload 0 C h w_X10_copies_g0 rfl dX10_copies_12 (fun h => ?_)
    refine j_iastore 1 C h w_X10_copies_g1 rfl dX10_copies_13 (fun h => ?_)
    refine j_ws w_X10_copies_s1 ?_
    refine j_inc C (1) dX10_copies_14 rfl ki_1 (by decide) ?_
    refine j_goto C 2 dX10_copies_17 (by decide) ?_
    have h := Option.some.inj h
    subst h
    have hc9 := hc_2 _ rfl
    exact j_lw hc9 rfl

def w_X10_thought (D : va_G) (q_this q_now q_trial : Nat) (w_kept w_refusals w_row w_letters w_dists w_left w_steps w_partners w_times w_spliced w_piece w_balances w_prices w_hands w_hand w_dealing : Value) (v_hasImage : Int32) (v_rows : Int32) (v_lettered : Int32) (v_stepsMany : Int32) (v_splicedMany : Int32) (v_most : Int32) (v_together : Int32) (v_z : Int32) (v_now : (Nat → Int32)) (v_trial : (Nat → Int32)) : va_W := [(q_this, .inr (9, [.ref q_now, w_kept, .ref q_trial, .int v_hasImage, w_refusals, w_row, .int v_rows, w_letters, .int v_lettered, w_dists, w_left, w_steps, .int v_stepsMany, w_partners, w_times, w_spliced, .int v_splicedMany, w_piece, w_balances, w_prices, w_hands, w_hand, w_dealing, .int v_most, .int v_together, .int v_z])), (q_now, .inl (D.1 100, 50, .inl v_now)), (q_trial, .inl (D.1 100, 50, .inl v_trial))]
theorem w_X10_thought_g0 {D : va_G} {q_this : Nat} {q_now : Nat} {q_trial : Nat} {w_kept : Value} {w_refusals : Value} {w_row : Value} {w_letters : Value} {w_dists : Value} {w_left : Value} {w_steps : Value} {w_partners : Value} {w_times : Value} {w_spliced : Value} {w_piece : Value} {w_balances : Value} {w_prices : Value} {w_hands : Value} {w_hand : Value} {w_dealing : Value} {v_hasImage : Int32} {v_rows : Int32} {v_lettered : Int32} {v_stepsMany : Int32} {v_splicedMany : Int32} {v_most : Int32} {v_together : Int32} {v_z : Int32} {v_now : (Nat → Int32)} {v_trial : (Nat → Int32)} : (w_X10_thought D q_this q_now q_trial w_kept w_refusals w_row w_letters w_dists w_left w_steps w_partners w_times w_spliced w_piece w_balances w_prices w_hands w_hand w_dealing v_hasImage v_rows v_lettered v_stepsMany v_splicedMany v_most v_together v_z v_now v_trial)[0]? = some (q_this, .inr (9, [.ref q_now, w_kept, .ref q_trial, .int v_hasImage, w_refusals, w_row, .int v_rows, w_letters, .int v_lettered, w_dists, w_left, w_steps, .int v_stepsMany, w_partners, w_times, w_spliced, .int v_splicedMany, w_piece, w_balances, w_prices, w_hands, w_hand, w_dealing, .int v_most, .int v_together, .int v_z])) := rfl
theorem w_X10_thought_s0 {D : va_G} {q_this : Nat} {q_now : Nat} {q_trial : Nat} {w_kept : Value} {w_refusals : Value} {w_row : Value} {w_letters : Value} {w_dists : Value} {w_left : Value} {w_steps : Value} {w_partners : Value} {w_times : Value} {w_spliced : Value} {w_piece : Value} {w_balances : Value} {w_prices : Value} {w_hands : Value} {w_hand : Value} {w_dealing : Value} {v_hasImage : Int32} {v_rows : Int32} {v_lettered : Int32} {v_stepsMany : Int32} {v_splicedMany : Int32} {v_most : Int32} {v_together : Int32} {v_z : Int32} {v_now : (Nat → Int32)} {v_trial : (Nat → Int32)} {v_hasImage' : Int32} {v_rows' : Int32} {v_lettered' : Int32} {v_stepsMany' : Int32} {v_splicedMany' : Int32} {v_most' : Int32} {v_together' : Int32} {v_z' : Int32} : (w_X10_thought D q_this q_now q_trial w_kept w_refusals w_row w_letters w_dists w_left w_steps w_partners w_times w_spliced w_piece w_balances w_prices w_hands w_hand w_dealing v_hasImage v_rows v_lettered v_stepsMany v_splicedMany v_most v_together v_z v_now v_trial).set 0 (q_this, .inr (9, [.ref q_now, w_kept, .ref q_trial, .int v_hasImage', w_refusals, w_row, .int v_rows', w_letters, .int v_lettered', w_dists, w_left, w_steps, .int v_stepsMany', w_partners, w_times, w_spliced, .int v_splicedMany', w_piece, w_balances, w_prices, w_hands, w_hand, w_dealing, .int v_most', .int v_together', .int v_z'])) = (w_X10_thought D q_this q_now q_trial w_kept w_refusals w_row w_letters w_dists w_left w_steps w_partners w_times w_spliced w_piece w_balances w_prices w_hands w_hand w_dealing v_hasImage' v_rows' v_lettered' v_stepsMany' v_splicedMany' v_most' v_together' v_z' v_now v_trial) := rfl
theorem w_X10_thought_g1 {D : va_G} {q_this : Nat} {q_now : Nat} {q_trial : Nat} {w_kept : Value} {w_refusals : Value} {w_row : Value} {w_letters : Value} {w_dists : Value} {w_left : Value} {w_steps : Value} {w_partners : Value} {w_times : Value} {w_spliced : Value} {w_piece : Value} {w_balances : Value} {w_prices : Value} {w_hands : Value} {w_hand : Value} {w_dealing : Value} {v_hasImage : Int32} {v_rows : Int32} {v_lettered : Int32} {v_stepsMany : Int32} {v_splicedMany : Int32} {v_most : Int32} {v_together : Int32} {v_z : Int32} {v_now : (Nat → Int32)} {v_trial : (Nat → Int32)} : (w_X10_thought D q_this q_now q_trial w_kept w_refusals w_row w_letters w_dists w_left w_steps w_partners w_times w_spliced w_piece w_balances w_prices w_hands w_hand w_dealing v_hasImage v_rows v_lettered v_stepsMany v_splicedMany v_most v_together v_z v_now v_trial)[1]? = some (q_now, .inl (D.1 100, 50, .inl v_now)) := rfl
theorem w_X10_thought_s1 {D : va_G} {q_this : Nat} {q_now : Nat} {q_trial : Nat} {w_kept : Value} {w_refusals : Value} {w_row : Value} {w_letters : Value} {w_dists : Value} {w_left : Value} {w_steps : Value} {w_partners : Value} {w_times : Value} {w_spliced : Value} {w_piece : Value} {w_balances : Value} {w_prices : Value} {w_hands : Value} {w_hand : Value} {w_dealing : Value} {v_hasImage : Int32} {v_rows : Int32} {v_lettered : Int32} {v_stepsMany : Int32} {v_splicedMany : Int32} {v_most : Int32} {v_together : Int32} {v_z : Int32} {v_now : (Nat → Int32)} {v_trial : (Nat → Int32)} {v_now' : (Nat → Int32)} : (w_X10_thought D q_this q_now q_trial w_kept w_refusals w_row w_letters w_dists w_left w_steps w_partners w_times w_spliced w_piece w_balances w_prices w_hands w_hand w_dealing v_hasImage v_rows v_lettered v_stepsMany v_splicedMany v_most v_together v_z v_now v_trial).set 1 (q_now, .inl (D.1 100, 50, .inl v_now')) = (w_X10_thought D q_this q_now q_trial w_kept w_refusals w_row w_letters w_dists w_left w_steps w_partners w_times w_spliced w_piece w_balances w_prices w_hands w_hand w_dealing v_hasImage v_rows v_lettered v_stepsMany v_splicedMany v_most v_together v_z v_now' v_trial) := rfl
theorem w_X10_thought_g2 {D : va_G} {q_this : Nat} {q_now : Nat} {q_trial : Nat} {w_kept : Value} {w_refusals : Value} {w_row : Value} {w_letters : Value} {w_dists : Value} {w_left : Value} {w_steps : Value} {w_partners : Value} {w_times : Value} {w_spliced : Value} {w_piece : Value} {w_balances : Value} {w_prices : Value} {w_hands : Value} {w_hand : Value} {w_dealing : Value} {v_hasImage : Int32} {v_rows : Int32} {v_lettered : Int32} {v_stepsMany : Int32} {v_splicedMany : Int32} {v_most : Int32} {v_together : Int32} {v_z : Int32} {v_now : (Nat → Int32)} {v_trial : (Nat → Int32)} : (w_X10_thought D q_this q_now q_trial w_kept w_refusals w_row w_letters w_dists w_left w_steps w_partners w_times w_spliced w_piece w_balances w_prices w_hands w_hand w_dealing v_hasImage v_rows v_lettered v_stepsMany v_splicedMany v_most v_together v_z v_now v_trial)[2]? = some (q_trial, .inl (D.1 100, 50, .inl v_trial)) := rfl
theorem w_X10_thought_s2 {D : va_G} {q_this : Nat} {q_now : Nat} {q_trial : Nat} {w_kept : Value} {w_refusals : Value} {w_row : Value} {w_letters : Value} {w_dists : Value} {w_left : Value} {w_steps : Value} {w_partners : Value} {w_times : Value} {w_spliced : Value} {w_piece : Value} {w_balances : Value} {w_prices : Value} {w_hands : Value} {w_hand : Value} {w_dealing : Value} {v_hasImage : Int32} {v_rows : Int32} {v_lettered : Int32} {v_stepsMany : Int32} {v_splicedMany : Int32} {v_most : Int32} {v_together : Int32} {v_z : Int32} {v_now : (Nat → Int32)} {v_trial : (Nat → Int32)} {v_trial' : (Nat → Int32)} : (w_X10_thought D q_this q_now q_trial w_kept w_refusals w_row w_letters w_dists w_left w_steps w_partners w_times w_spliced w_piece w_balances w_prices w_hands w_hand w_dealing v_hasImage v_rows v_lettered v_stepsMany v_splicedMany v_most v_together v_z v_now v_trial).set 2 (q_trial, .inl (D.1 100, 50, .inl v_trial')) = (w_X10_thought D q_this q_now q_trial w_kept w_refusals w_row w_letters w_dists w_left w_steps w_partners w_times w_spliced w_piece w_balances w_prices w_hands w_hand w_dealing v_hasImage v_rows v_lettered v_stepsMany v_splicedMany v_most v_together v_z v_now v_trial') := rfl
theorem w_X10_thought_a {D : va_G} {q_this : Nat} {q_now : Nat} {q_trial : Nat} {w_kept : Value} {w_refusals : Value} {w_row : Value} {w_letters : Value} {w_dists : Value} {w_left : Value} {w_steps : Value} {w_partners : Value} {w_times : Value} {w_spliced : Value} {w_piece : Value} {w_balances : Value} {w_prices : Value} {w_hands : Value} {w_hand : Value} {w_dealing : Value} {v_hasImage : Int32} {v_rows : Int32} {v_lettered : Int32} {v_stepsMany : Int32} {v_splicedMany : Int32} {v_most : Int32} {v_together : Int32} {v_z : Int32} {v_now : (Nat → Int32)} {v_trial : (Nat → Int32)} : (w_X10_thought D q_this q_now q_trial w_kept w_refusals w_row w_letters w_dists w_left w_steps w_partners w_times w_spliced w_piece w_balances w_prices w_hands w_hand w_dealing v_hasImage v_rows v_lettered v_stepsMany v_splicedMany v_most v_together v_z v_now v_trial).map (fun q => q.1) = [q_this, q_now, q_trial] := rfl
def f_X10_thought (N : Nat) (v_now : (Nat → Int32)) (v_trial : (Nat → Int32)) : Option (Nat → Int32) :=
  (f_X10_copies N v_now v_trial).bind (fun r_copies_1 => some r_copies_1)
set_option maxRecDepth 100000 in
set_option maxHeartbeats 4000000 in
theorem c_X10_thought (l : Launch) (D : va_G) (N : Nat) {q_this q_now q_trial : Nat} {w_kept w_refusals w_row w_letters w_dists w_left w_steps w_partners w_times w_spliced w_piece w_balances w_prices w_hands w_hand w_dealing : Value} {v_hasImage : Int32} {v_rows : Int32} {v_lettered : Int32} {v_stepsMany : Int32} {v_splicedMany : Int32} {v_most : Int32} {v_together : Int32} {v_z : Int32} {v_now : (Nat → Int32)} {v_trial : (Nat → Int32)} {o : (Nat → Int32)} (h : f_X10_thought N v_now v_trial = some o) : CT l D yX10_thought cX10_thought 1 (Option.some (FieldType.array FieldType.int)) 1 [.ref q_this] (w_X10_thought D q_this q_now q_trial w_kept w_refusals w_row w_letters w_dists w_left w_steps w_partners w_times w_spliced w_piece w_balances w_prices w_hands w_hand w_dealing v_hasImage v_rows v_lettered v_stepsMany v_splicedMany v_most v_together v_z v_now v_trial) (w_X10_thought D q_this q_now q_trial w_kept w_refusals w_row w_letters w_dists w_left w_steps w_partners w_times w_spliced w_piece w_balances w_prices w_hands w_hand w_dealing v_hasImage v_rows v_lettered v_stepsMany v_splicedMany v_most v_together v_z v_now o) (some (.ref q_trial)) := by
  refine CT.of mk_X10_thought (Nat.le_of_ble_eq_true rfl) (fun g hl hD C E => ?_)
  subst hl
  subst hD
  unfold f_X10_thought at h
  refine j_aload_n C dX10_thought_0 rfl ?_
  refine j_get C 0 w_X10_thought_g0 rfl inX10 0 (by decide) kw_981 rfl rfl dX10_thought_1 ?_
  refine j_aload_n C dX10_thought_4 rfl ?_
  refine j_get C 0 w_X10_thought_g0 rfl inX10 2 (by decide) kw_983 rfl rfl dX10_thought_5 ?_
  obtain ⟨r_copies_1, h_1, h⟩ := of_bind h
  refine j_callS0 C mk_X10_copies ms_X10_copies kw_1094 (c_X10_copies (gl g) (gD g) N h_1) (by decide) [1, 2] (hC_cons w_X10_thought_g1 (hC_cons w_X10_thought_g2 hC_nil)) rfl (w_X10_copies_a.trans w_X10_copies_a.symm) rfl rfl (Nat.le_of_ble_eq_true rfl) dX10_thought_8 (wput_cons w_X10_thought_s1 (wput_cons w_X10_thought_s2 wput_nil)) ?_
  refine j_aload_n C dX10_thought_11 rfl ?_
  refine j_get C 0 w_X10_thought_g0 rfl inX10 2 (by decide) kw_983 rfl rfl dX10_thought_12 ?_
  have h := Option.some.inj h
  subst h
  exact j_aret C E (by first | exact Or.inr ⟨_, rfl⟩ | exact Or.inl ⟨_, rfl⟩) dX10_thought_15

def w_X10_isCorner (D : va_G) : va_W := []
theorem w_X10_isCorner_a {D : va_G} : (w_X10_isCorner D).map (fun q => q.1) = [] := rfl
def f_X10_isCorner (x0 : Int32) : Option Int32 :=
  (f_X10_in (Int32.toInt64 x0) (0 : Int64) (5 : Int64)).bind (fun r_in_1 => gb (r_in_1) (some r_in_1))
set_option maxRecDepth 100000 in
set_option maxHeartbeats 4000000 in
theorem c_X10_isCorner (l : Launch) (D : va_G) {x0 : Int32} {o : Int32} (h : f_X10_isCorner x0 = some o) : CT l D yX10_isCorner cX10_isCorner 1 (Option.some FieldType.boolean) 1 [.int x0] (w_X10_isCorner D) (w_X10_isCorner D) (some (.int o)) := by
  refine CT.of mk_X10_isCorner (Nat.le_of_ble_eq_true rfl) (fun g hl hD C E => ?_)
  subst hl
  subst hD
  unfold f_X10_isCorner at h
  refine j_iload_n C dX10_isCorner_0 rfl ?_
  refine j_i2l C dX10_isCorner_1 ?_
  refine j_lconst C 0 dX10_isCorner_2 rfl ?_
  refine j_ldc2 C kw_1111 dX10_isCorner_3 ?_
  obtain ⟨r_in_1, h_1, h⟩ := of_bind h
  refine j_callS1 C mk_X10_in ms_X10_in kw_1085 (c_X10_in (gl g) (gD g) h_1) (by decide) [] hC_nil rfl (w_X10_in_a.trans w_X10_in_a.symm) rfl rfl (Nat.le_of_ble_eq_true rfl) dX10_isCorner_6 wput_nil ?_
  obtain ⟨hz, h⟩ := of_gb h
  have h := Option.some.inj h
  subst h
  exact j_zret C E hz.1 dX10_isCorner_9

def w_X10_isStreet (D : va_G) (q_p1 : Nat) (v_p1 : (Nat → Int32)) : va_W := [(q_p1, .inl (D.1 100, 50, .inl v_p1))]
theorem w_X10_isStreet_g0 {D : va_G} {q_p1 : Nat} {v_p1 : (Nat → Int32)} : (w_X10_isStreet D q_p1 v_p1)[0]? = some (q_p1, .inl (D.1 100, 50, .inl v_p1)) := rfl
theorem w_X10_isStreet_s0 {D : va_G} {q_p1 : Nat} {v_p1 : (Nat → Int32)} {v_p1' : (Nat → Int32)} : (w_X10_isStreet D q_p1 v_p1).set 0 (q_p1, .inl (D.1 100, 50, .inl v_p1')) = (w_X10_isStreet D q_p1 v_p1') := rfl
theorem w_X10_isStreet_a {D : va_G} {q_p1 : Nat} {v_p1 : (Nat → Int32)} : (w_X10_isStreet D q_p1 v_p1).map (fun q => q.1) = [q_p1] := rfl
def f_X10_isStreet (x1 : Int32) (v_p1 : (Nat → Int32)) : Option Int32 :=
  ga (49 : Int32) 50 ((f_X10_in (Int32.toInt64 x1) (0 : Int64) (Int32.toInt64 ((v_p1 (Int32.toNatClampNeg (49 : Int32))) - (1 : Int32)))).bind (fun r_in_1 => gb (r_in_1) (some r_in_1)))
set_option maxRecDepth 100000 in
set_option maxHeartbeats 4000000 in
theorem c_X10_isStreet (l : Launch) (D : va_G) {q_p1 : Nat} {v_p1 : (Nat → Int32)} {x1 : Int32} {o : Int32} (h : f_X10_isStreet x1 v_p1 = some o) : CT l D yX10_isStreet cX10_isStreet 2 (Option.some FieldType.boolean) 1 [.ref q_p1, .int x1] (w_X10_isStreet D q_p1 v_p1) (w_X10_isStreet D q_p1 v_p1) (some (.int o)) := by
  refine CT.of mk_X10_isStreet (Nat.le_of_ble_eq_true rfl) (fun g hl hD C E => ?_)
  subst hl
  subst hD
  unfold f_X10_isStreet at h
  refine j_iload_n C dX10_isStreet_0 rfl ?_
  refine j_i2l C dX10_isStreet_1 ?_
  refine j_lconst C 0 dX10_isStreet_2 rfl ?_
  refine j_aload_n C dX10_isStreet_3 rfl ?_
  refine j_bipush C (49) dX10_isStreet_4 kb_49 ?_
  refine j_iaload 0 C h w_X10_isStreet_g0 rfl dX10_isStreet_6 (fun h => ?_)
  refine j_iconst C (1) dX10_isStreet_7 ki_1 ?_
  refine j_isub C dX10_isStreet_8 ?_
  refine j_i2l C dX10_isStreet_9 ?_
  obtain ⟨r_in_1, h_1, h⟩ := of_bind h
  refine j_callS1 C mk_X10_in ms_X10_in kw_1085 (c_X10_in (gl g) (gD g) h_1) (by decide) [] hC_nil rfl (w_X10_in_a.trans w_X10_in_a.symm) rfl rfl (Nat.le_of_ble_eq_true rfl) dX10_isStreet_10 wput_nil ?_
  obtain ⟨hz, h⟩ := of_gb h
  have h := Option.some.inj h
  subst h
  exact j_zret C E hz.1 dX10_isStreet_13

def w_X10_cost (D : va_G) (q_p1 : Nat) (v_p1 : (Nat → Int32)) : va_W := [(q_p1, .inl (D.1 100, 50, .inl v_p1))]
theorem w_X10_cost_g0 {D : va_G} {q_p1 : Nat} {v_p1 : (Nat → Int32)} : (w_X10_cost D q_p1 v_p1)[0]? = some (q_p1, .inl (D.1 100, 50, .inl v_p1)) := rfl
theorem w_X10_cost_s0 {D : va_G} {q_p1 : Nat} {v_p1 : (Nat → Int32)} {v_p1' : (Nat → Int32)} : (w_X10_cost D q_p1 v_p1).set 0 (q_p1, .inl (D.1 100, 50, .inl v_p1')) = (w_X10_cost D q_p1 v_p1') := rfl
theorem w_X10_cost_a {D : va_G} {q_p1 : Nat} {v_p1 : (Nat → Int32)} : (w_X10_cost D q_p1 v_p1).map (fun q => q.1) = [q_p1] := rfl
def f_X10_cost (x1 : Int32) (v_p1 : (Nat → Int32)) : Option Int32 :=
  ga ((40 : Int32) + (x1 / (2 : Int32))) 50 ((if (v_p1 (Int32.toNatClampNeg ((40 : Int32) + (x1 / (2 : Int32))))) = 0 then some (-9 : Int32) else ga ((16 : Int32) + (x1 / (2 : Int32))) 50 (ga ((32 : Int32) + (x1 / (2 : Int32))) 50 (ga ((24 : Int32) + (x1 / (2 : Int32))) 50 ((if (v_p1 (Int32.toNatClampNeg ((24 : Int32) + (x1 / (2 : Int32))))) = 1 then some (if (if (x1 - x1 / (2 : Int32) * (2 : Int32)) = (1 : Int32) then (1 : Int32) else (0 : Int32)) = 0 then (v_p1 (Int32.toNatClampNeg ((16 : Int32) + (x1 / (2 : Int32))))) else (-9 : Int32)) else (if (v_p1 (Int32.toNatClampNeg ((24 : Int32) + (x1 / (2 : Int32))))) = 2 then some (if (if (x1 - x1 / (2 : Int32) * (2 : Int32)) = (1 : Int32) then (1 : Int32) else (0 : Int32)) = 0 then (v_p1 (Int32.toNatClampNeg ((16 : Int32) + (x1 / (2 : Int32))))) else ((v_p1 (Int32.toNatClampNeg ((16 : Int32) + (x1 / (2 : Int32))))) + (v_p1 (Int32.toNatClampNeg ((32 : Int32) + (x1 / (2 : Int32))))))) else (if (v_p1 (Int32.toNatClampNeg ((24 : Int32) + (x1 / (2 : Int32))))) = 3 then some (if (if (x1 - x1 / (2 : Int32) * (2 : Int32)) = (1 : Int32) then (1 : Int32) else (0 : Int32)) = 0 then ((v_p1 (Int32.toNatClampNeg ((16 : Int32) + (x1 / (2 : Int32))))) + (v_p1 (Int32.toNatClampNeg ((32 : Int32) + (x1 / (2 : Int32)))))) else (-9 : Int32)) else (if (v_p1 (Int32.toNatClampNeg ((24 : Int32) + (x1 / (2 : Int32))))) = 4 then some (if (if (x1 - x1 / (2 : Int32) * (2 : Int32)) = (1 : Int32) then (1 : Int32) else (0 : Int32)) = 0 then ((2 : Int32) * (v_p1 (Int32.toNatClampNeg ((16 : Int32) + (x1 / (2 : Int32)))))) else ((2 : Int32) * ((v_p1 (Int32.toNatClampNeg ((16 : Int32) + (x1 / (2 : Int32))))) + (v_p1 (Int32.toNatClampNeg ((32 : Int32) + (x1 / (2 : Int32)))))))) else some (v_p1 (Int32.toNatClampNeg ((16 : Int32) + (x1 / (2 : Int32))))))))))))))
set_option maxRecDepth 100000 in
set_option maxHeartbeats 4000000 in
theorem c_X10_cost (l : Launch) (D : va_G) {q_p1 : Nat} {v_p1 : (Nat → Int32)} {x1 : Int32} {o : Int32} (h : f_X10_cost x1 v_p1 = some o) : CT l D yX10_cost cX10_cost 6 (Option.some FieldType.int) 0 [.ref q_p1, .int x1] (w_X10_cost D q_p1 v_p1) (w_X10_cost D q_p1 v_p1) (some (.int o)) := by
  refine CT.of mk_X10_cost (Nat.le_of_ble_eq_true rfl) (fun g hl hD C E => ?_)
  subst hl
  subst hD
  unfold f_X10_cost at h
  refine j_iload_n C dX10_cost_0 rfl ?_
  refine j_iconst C (2) dX10_cost_1 ki_2 ?_
  refine j_idivc C (by decide) dX10_cost_2 ?_
  refine j_istore_n C dX10_cost_3 (by decide) ?_
  refine j_iload_n C dX10_cost_4 rfl ?_
  refine j_iconst C (2) dX10_cost_5 ki_2 ?_
  refine j_iremc C (by decide) dX10_cost_6 ?_
  refine j_iconst C (1) dX10_cost_7 ki_1 ?_
  have hj_1 : J g (w_X10_cost (gD g) q_p1 v_p1) [(0, .ref q_p1), (2, .int (x1 / (2 : Int32)))] 16 [.int (if (x1 - x1 / (2 : Int32) * (2 : Int32)) = (1 : Int32) then (1 : Int32) else (0 : Int32))] := by
    refine j_istore_n C dX10_cost_16 (by decide) ?_
    refine j_aload_n C dX10_cost_17 rfl ?_
    refine j_bipush C (40) dX10_cost_18 kb_40 ?_
    refine j_iload_n C dX10_cost_20 rfl ?_
    refine j_iadd C dX10_cost_21 ?_
    refine j_iaload 0 C h w_X10_cost_g0 rfl dX10_cost_22 (fun h => ?_)
    refine j_if_ne C h 29 dX10_cost_23 (by decide) (fun hc h => ?_) (fun hc h => ?_)
    · refine j_bipush C (-9) dX10_cost_26 kb_m9 ?_
      have h := Option.some.inj h
      subst h
      exact j_iret C E dX10_cost_28
    · refine j_aload_n C dX10_cost_29 rfl ?_
      refine j_bipush C (16) dX10_cost_30 kb_16 ?_
      refine j_iload_n C dX10_cost_32 rfl ?_
      refine j_iadd C dX10_cost_33 ?_
      refine j_iaload 0 C h w_X10_cost_g0 rfl dX10_cost_34 (fun h => ?_)
      refine j_istore C dX10_cost_35 (by decide) ?_
      refine j_aload_n C dX10_cost_37 rfl ?_
      refine j_bipush C (32) dX10_cost_38 kb_32 ?_
      refine j_iload_n C dX10_cost_40 rfl ?_
      refine j_iadd C dX10_cost_41 ?_
      refine j_iaload 0 C h w_X10_cost_g0 rfl dX10_cost_42 (fun h => ?_)
      refine j_istore C dX10_cost_43 (by decide) ?_
      refine j_aload_n C dX10_cost_45 rfl ?_
      refine j_bipush C (24) dX10_cost_46 kb_24 ?_
      refine j_iload_n C dX10_cost_48 rfl ?_
      refine j_iadd C dX10_cost_49 ?_
      refine j_iaload 0 C h w_X10_cost_g0 rfl dX10_cost_50 (fun h => ?_)
      refine j_case h (fun hc h => ?_) (fun hn_0 h => ?_)
      · refine j_tableIn C 80 (v := 1) (by rw [hc] <;> decide) dX10_cost_51 (by decide) (by decide) rfl (by decide) ?_
        refine j_iload_n C dX10_cost_80 rfl ?_
        have hj_2 : J g (w_X10_cost (gD g) q_p1 v_p1) [] 91 [.int (if (if (x1 - x1 / (2 : Int32) * (2 : Int32)) = (1 : Int32) then (1 : Int32) else (0 : Int32)) = 0 then (v_p1 (Int32.toNatClampNeg ((16 : Int32) + (x1 / (2 : Int32))))) else (-9 : Int32))] := by
          have h := Option.some.inj h
          subst h
          exact j_iret C E dX10_cost_91
        refine jv_if_eq C 89 dX10_cost_81 (by decide) (fun hc => ?_) (fun hc => ?_)
        · try simp only [if_pos hc] at hj_2
          refine j_iload C dX10_cost_89 rfl ?_
          exact j_lw hj_2 rfl
        · try simp only [if_neg hc] at hj_2
          refine j_bipush C (-9) dX10_cost_84 kb_m9 ?_
          refine j_goto C 91 dX10_cost_86 (by decide) ?_
          exact j_lw hj_2 rfl
      · refine j_case h (fun hc h => ?_) (fun hn_1 h => ?_)
        · refine j_tableIn C 92 (v := 2) (by rw [hc] <;> decide) dX10_cost_51 (by decide) (by decide) rfl (by decide) ?_
          refine j_iload_n C dX10_cost_92 rfl ?_
          have hj_3 : J g (w_X10_cost (gD g) q_p1 v_p1) [] 106 [.int (if (if (x1 - x1 / (2 : Int32) * (2 : Int32)) = (1 : Int32) then (1 : Int32) else (0 : Int32)) = 0 then (v_p1 (Int32.toNatClampNeg ((16 : Int32) + (x1 / (2 : Int32))))) else ((v_p1 (Int32.toNatClampNeg ((16 : Int32) + (x1 / (2 : Int32))))) + (v_p1 (Int32.toNatClampNeg ((32 : Int32) + (x1 / (2 : Int32)))))))] := by
            have h := Option.some.inj h
            subst h
            exact j_iret C E dX10_cost_106
          refine jv_if_eq C 104 dX10_cost_93 (by decide) (fun hc => ?_) (fun hc => ?_)
          · try simp only [if_pos hc] at hj_3
            refine j_iload C dX10_cost_104 rfl ?_
            exact j_lw hj_3 rfl
          · try simp only [if_neg hc] at hj_3
            refine j_iload C dX10_cost_96 rfl ?_
            refine j_iload C dX10_cost_98 rfl ?_
            refine j_iadd C dX10_cost_100 ?_
            refine j_goto C 106 dX10_cost_101 (by decide) ?_
            exact j_lw hj_3 rfl
        · refine j_case h (fun hc h => ?_) (fun hn_2 h => ?_)
          · refine j_tableIn C 107 (v := 3) (by rw [hc] <;> decide) dX10_cost_51 (by decide) (by decide) rfl (by decide) ?_
            refine j_iload_n C dX10_cost_107 rfl ?_
            have hj_4 : J g (w_X10_cost (gD g) q_p1 v_p1) [] 121 [.int (if (if (x1 - x1 / (2 : Int32) * (2 : Int32)) = (1 : Int32) then (1 : Int32) else (0 : Int32)) = 0 then ((v_p1 (Int32.toNatClampNeg ((16 : Int32) + (x1 / (2 : Int32))))) + (v_p1 (Int32.toNatClampNeg ((32 : Int32) + (x1 / (2 : Int32)))))) else (-9 : Int32))] := by
              have h := Option.some.inj h
              subst h
              exact j_iret C E dX10_cost_121
            refine jv_if_eq C 116 dX10_cost_108 (by decide) (fun hc => ?_) (fun hc => ?_)
            · try simp only [if_pos hc] at hj_4
              refine j_iload C dX10_cost_116 rfl ?_
              refine j_iload C dX10_cost_118 rfl ?_
              refine j_iadd C dX10_cost_120 ?_
              exact j_lw hj_4 rfl
            · try simp only [if_neg hc] at hj_4
              refine j_bipush C (-9) dX10_cost_111 kb_m9 ?_
              refine j_goto C 121 dX10_cost_113 (by decide) ?_
              exact j_lw hj_4 rfl
          · refine j_case h (fun hc h => ?_) (fun hn_3 h => ?_)
            · refine j_tableIn C 122 (v := 4) (by rw [hc] <;> decide) dX10_cost_51 (by decide) (by decide) rfl (by decide) ?_
              refine j_iload_n C dX10_cost_122 rfl ?_
              have hj_5 : J g (w_X10_cost (gD g) q_p1 v_p1) [] 140 [.int (if (if (x1 - x1 / (2 : Int32) * (2 : Int32)) = (1 : Int32) then (1 : Int32) else (0 : Int32)) = 0 then ((2 : Int32) * (v_p1 (Int32.toNatClampNeg ((16 : Int32) + (x1 / (2 : Int32)))))) else ((2 : Int32) * ((v_p1 (Int32.toNatClampNeg ((16 : Int32) + (x1 / (2 : Int32))))) + (v_p1 (Int32.toNatClampNeg ((32 : Int32) + (x1 / (2 : Int32))))))))] := by
                have h := Option.some.inj h
                subst h
                exact j_iret C E dX10_cost_140
              refine jv_if_eq C 136 dX10_cost_123 (by decide) (fun hc => ?_) (fun hc => ?_)
              · try simp only [if_pos hc] at hj_5
                refine j_iconst C (2) dX10_cost_136 ki_2 ?_
                refine j_iload C dX10_cost_137 rfl ?_
                refine j_imul C dX10_cost_139 ?_
                exact j_lw hj_5 rfl
              · try simp only [if_neg hc] at hj_5
                refine j_iconst C (2) dX10_cost_126 ki_2 ?_
                refine j_iload C dX10_cost_127 rfl ?_
                refine j_iload C dX10_cost_129 rfl ?_
                refine j_iadd C dX10_cost_131 ?_
                refine j_imul C dX10_cost_132 ?_
                refine j_goto C 140 dX10_cost_133 (by decide) ?_
                exact j_lw hj_5 rfl
            · refine j_tableOut C 141 dX10_cost_51 (by have := i32ne hn_0 (v := 1) (by decide); have := i32ne hn_1 (v := 2) (by decide); have := i32ne hn_2 (v := 3) (by decide); have := i32ne hn_3 (v := 4) (by decide); omega) (by decide) ?_
              refine j_iload C dX10_cost_141 rfl ?_
              have h := Option.some.inj h
              subst h
              exact j_iret C E dX10_cost_143
  refine jv_icmp_ne C 15 dX10_cost_8 (by decide) (fun hc => ?_) (fun hc => ?_)
  · try simp only [if_pos hc] at hj_1
    refine j_iconst C (1) dX10_cost_11 ki_1 ?_
    refine j_goto C 16 dX10_cost_12 (by decide) ?_
    exact j_lw hj_1 rfl
  · try simp only [if_neg hc] at hj_1
    refine j_iconst C (0) dX10_cost_15 ki_0 ?_
    exact j_lw hj_1 rfl

def w_X10_begins (D : va_G) (q_p1 : Nat) (v_p1 : (Nat → Int32)) : va_W := [(q_p1, .inl (D.1 100, 50, .inl v_p1))]
theorem w_X10_begins_g0 {D : va_G} {q_p1 : Nat} {v_p1 : (Nat → Int32)} : (w_X10_begins D q_p1 v_p1)[0]? = some (q_p1, .inl (D.1 100, 50, .inl v_p1)) := rfl
theorem w_X10_begins_s0 {D : va_G} {q_p1 : Nat} {v_p1 : (Nat → Int32)} {v_p1' : (Nat → Int32)} : (w_X10_begins D q_p1 v_p1).set 0 (q_p1, .inl (D.1 100, 50, .inl v_p1')) = (w_X10_begins D q_p1 v_p1') := rfl
theorem w_X10_begins_a {D : va_G} {q_p1 : Nat} {v_p1 : (Nat → Int32)} : (w_X10_begins D q_p1 v_p1).map (fun q => q.1) = [q_p1] := rfl
def f_X10_begins (x1 : Int32) (v_p1 : (Nat → Int32)) : Option Int32 :=
  ga ((if (x1 - x1 / (2 : Int32) * (2 : Int32)) = 0 then (0 : Int32) else (8 : Int32)) + (x1 / (2 : Int32))) 50 (some (v_p1 (Int32.toNatClampNeg ((if (x1 - x1 / (2 : Int32) * (2 : Int32)) = 0 then (0 : Int32) else (8 : Int32)) + (x1 / (2 : Int32))))))
set_option maxRecDepth 100000 in
set_option maxHeartbeats 4000000 in
theorem c_X10_begins (l : Launch) (D : va_G) {q_p1 : Nat} {v_p1 : (Nat → Int32)} {x1 : Int32} {o : Int32} (h : f_X10_begins x1 v_p1 = some o) : CT l D yX10_begins cX10_begins 2 (Option.some FieldType.int) 0 [.ref q_p1, .int x1] (w_X10_begins D q_p1 v_p1) (w_X10_begins D q_p1 v_p1) (some (.int o)) := by
  refine CT.of mk_X10_begins (Nat.le_of_ble_eq_true rfl) (fun g hl hD C E => ?_)
  subst hl
  subst hD
  unfold f_X10_begins at h
  refine j_aload_n C dX10_begins_0 rfl ?_
  refine j_iload_n C dX10_begins_1 rfl ?_
  refine j_iconst C (2) dX10_begins_2 ki_2 ?_
  refine j_iremc C (by decide) dX10_begins_3 ?_
  have hj_1 : J g (w_X10_begins (gD g) q_p1 v_p1) [(1, .int (x1))] 13 [.int (if (x1 - x1 / (2 : Int32) * (2 : Int32)) = 0 then (0 : Int32) else (8 : Int32)), .ref q_p1] := by
    refine j_iload_n C dX10_begins_13 rfl ?_
    refine j_iconst C (2) dX10_begins_14 ki_2 ?_
    refine j_idivc C (by decide) dX10_begins_15 ?_
    refine j_iadd C dX10_begins_16 ?_
    refine j_iaload 0 C h w_X10_begins_g0 rfl dX10_begins_17 (fun h => ?_)
    have h := Option.some.inj h
    subst h
    exact j_iret C E dX10_begins_18
  refine jv_if_ne C 11 dX10_begins_4 (by decide) (fun hc => ?_) (fun hc => ?_)
  · try simp only [if_pos hc] at hj_1
    refine j_iconst C (0) dX10_begins_7 ki_0 ?_
    refine j_goto C 13 dX10_begins_8 (by decide) ?_
    exact j_lw hj_1 rfl
  · try simp only [if_neg hc] at hj_1
    refine j_bipush C (8) dX10_begins_11 kb_8 ?_
    exact j_lw hj_1 rfl

def w_X10_ends (D : va_G) (q_p1 : Nat) (v_p1 : (Nat → Int32)) : va_W := [(q_p1, .inl (D.1 100, 50, .inl v_p1))]
theorem w_X10_ends_g0 {D : va_G} {q_p1 : Nat} {v_p1 : (Nat → Int32)} : (w_X10_ends D q_p1 v_p1)[0]? = some (q_p1, .inl (D.1 100, 50, .inl v_p1)) := rfl
theorem w_X10_ends_s0 {D : va_G} {q_p1 : Nat} {v_p1 : (Nat → Int32)} {v_p1' : (Nat → Int32)} : (w_X10_ends D q_p1 v_p1).set 0 (q_p1, .inl (D.1 100, 50, .inl v_p1')) = (w_X10_ends D q_p1 v_p1') := rfl
theorem w_X10_ends_a {D : va_G} {q_p1 : Nat} {v_p1 : (Nat → Int32)} : (w_X10_ends D q_p1 v_p1).map (fun q => q.1) = [q_p1] := rfl
def f_X10_ends (x1 : Int32) (v_p1 : (Nat → Int32)) : Option Int32 :=
  ga ((if (x1 - x1 / (2 : Int32) * (2 : Int32)) = 0 then (8 : Int32) else (0 : Int32)) + (x1 / (2 : Int32))) 50 (some (v_p1 (Int32.toNatClampNeg ((if (x1 - x1 / (2 : Int32) * (2 : Int32)) = 0 then (8 : Int32) else (0 : Int32)) + (x1 / (2 : Int32))))))
set_option maxRecDepth 100000 in
set_option maxHeartbeats 4000000 in
theorem c_X10_ends (l : Launch) (D : va_G) {q_p1 : Nat} {v_p1 : (Nat → Int32)} {x1 : Int32} {o : Int32} (h : f_X10_ends x1 v_p1 = some o) : CT l D yX10_ends cX10_ends 2 (Option.some FieldType.int) 0 [.ref q_p1, .int x1] (w_X10_ends D q_p1 v_p1) (w_X10_ends D q_p1 v_p1) (some (.int o)) := by
  refine CT.of mk_X10_ends (Nat.le_of_ble_eq_true rfl) (fun g hl hD C E => ?_)
  subst hl
  subst hD
  unfold f_X10_ends at h
  refine j_aload_n C dX10_ends_0 rfl ?_
  refine j_iload_n C dX10_ends_1 rfl ?_
  refine j_iconst C (2) dX10_ends_2 ki_2 ?_
  refine j_iremc C (by decide) dX10_ends_3 ?_
  have hj_1 : J g (w_X10_ends (gD g) q_p1 v_p1) [(1, .int (x1))] 13 [.int (if (x1 - x1 / (2 : Int32) * (2 : Int32)) = 0 then (8 : Int32) else (0 : Int32)), .ref q_p1] := by
    refine j_iload_n C dX10_ends_13 rfl ?_
    refine j_iconst C (2) dX10_ends_14 ki_2 ?_
    refine j_idivc C (by decide) dX10_ends_15 ?_
    refine j_iadd C dX10_ends_16 ?_
    refine j_iaload 0 C h w_X10_ends_g0 rfl dX10_ends_17 (fun h => ?_)
    have h := Option.some.inj h
    subst h
    exact j_iret C E dX10_ends_18
  refine jv_if_ne C 12 dX10_ends_4 (by decide) (fun hc => ?_) (fun hc => ?_)
  · try simp only [if_pos hc] at hj_1
    refine j_bipush C (8) dX10_ends_7 kb_8 ?_
    refine j_goto C 13 dX10_ends_9 (by decide) ?_
    exact j_lw hj_1 rfl
  · try simp only [if_neg hc] at hj_1
    refine j_iconst C (0) dX10_ends_12 ki_0 ?_
    exact j_lw hj_1 rfl

def w_X10_goes (D : va_G) (q_p1 : Nat) (v_p1 : (Nat → Int32)) : va_W := [(q_p1, .inl (D.1 100, 50, .inl v_p1))]
theorem w_X10_goes_g0 {D : va_G} {q_p1 : Nat} {v_p1 : (Nat → Int32)} : (w_X10_goes D q_p1 v_p1)[0]? = some (q_p1, .inl (D.1 100, 50, .inl v_p1)) := rfl
theorem w_X10_goes_s0 {D : va_G} {q_p1 : Nat} {v_p1 : (Nat → Int32)} {v_p1' : (Nat → Int32)} : (w_X10_goes D q_p1 v_p1).set 0 (q_p1, .inl (D.1 100, 50, .inl v_p1')) = (w_X10_goes D q_p1 v_p1') := rfl
theorem w_X10_goes_a {D : va_G} {q_p1 : Nat} {v_p1 : (Nat → Int32)} : (w_X10_goes D q_p1 v_p1).map (fun q => q.1) = [q_p1] := rfl
def f_X10_goes (x1 : Int32) (x2 : Int32) (v_p1 : (Nat → Int32)) : Option Int32 :=
  (f_X10_begins x1 v_p1).bind (fun r_begins_1 => (if r_begins_1 = x2 then (f_X10_cost x1 v_p1).bind (fun r_cost_2 => gb (if r_cost_2 < 0 then (0 : Int32) else (1 : Int32)) (some (if r_cost_2 < 0 then (0 : Int32) else (1 : Int32)))) else some (0 : Int32)))
set_option maxRecDepth 100000 in
set_option maxHeartbeats 4000000 in
theorem c_X10_goes (l : Launch) (D : va_G) {q_p1 : Nat} {v_p1 : (Nat → Int32)} {x1 : Int32} {x2 : Int32} {o : Int32} (h : f_X10_goes x1 x2 v_p1 = some o) : CT l D yX10_goes cX10_goes 3 (Option.some FieldType.boolean) 1 [.ref q_p1, .int x1, .int x2] (w_X10_goes D q_p1 v_p1) (w_X10_goes D q_p1 v_p1) (some (.int o)) := by
  refine CT.of mk_X10_goes (Nat.le_of_ble_eq_true rfl) (fun g hl hD C E => ?_)
  subst hl
  subst hD
  unfold f_X10_goes at h
  refine j_aload_n C dX10_goes_0 rfl ?_
  refine j_iload_n C dX10_goes_1 rfl ?_
  obtain ⟨r_begins_1, h_1, h⟩ := of_bind h
  refine j_callS1 C mk_X10_begins ms_X10_begins kw_1161 (c_X10_begins (gl g) (gD g) h_1) (by decide) [0] (hC_cons w_X10_goes_g0 hC_nil) rfl (w_X10_begins_a.trans w_X10_begins_a.symm) rfl rfl (Nat.le_of_ble_eq_true rfl) dX10_goes_2 (wput_cons w_X10_goes_s0 wput_nil) ?_
  refine j_iload_n C dX10_goes_5 rfl ?_
  refine j_icmp_ne C h 21 dX10_goes_6 (by decide) (fun hc h => ?_) (fun hc h => ?_)
  · refine j_aload_n C dX10_goes_9 rfl ?_
    refine j_iload_n C dX10_goes_10 rfl ?_
    obtain ⟨r_cost_2, h_2, h⟩ := of_bind h
    refine j_callS1 C mk_X10_cost ms_X10_cost kw_1142 (c_X10_cost (gl g) (gD g) h_2) (by decide) [0] (hC_cons w_X10_goes_g0 hC_nil) rfl (w_X10_cost_a.trans w_X10_cost_a.symm) rfl rfl (Nat.le_of_ble_eq_true rfl) dX10_goes_11 (wput_cons w_X10_goes_s0 wput_nil) ?_
    have hj_3 : J g (w_X10_goes (gD g) q_p1 v_p1) [] 22 [.int (if r_cost_2 < 0 then (0 : Int32) else (1 : Int32))] := by
      obtain ⟨hz, h⟩ := of_gb h
      have h := Option.some.inj h
      subst h
      exact j_zret C E hz.1 dX10_goes_22
    refine jv_if_lt C 21 dX10_goes_14 (by decide) (fun hc => ?_) (fun hc => ?_)
    · try simp only [if_pos hc] at hj_3
      refine j_iconst C (0) dX10_goes_21 ki_0 ?_
      exact j_lw hj_3 rfl
    · try simp only [if_neg hc] at hj_3
      refine j_iconst C (1) dX10_goes_17 ki_1 ?_
      refine j_goto C 22 dX10_goes_18 (by decide) ?_
      exact j_lw hj_3 rfl
  · refine j_iconst C (0) dX10_goes_21 ki_0 ?_
    have h := Option.some.inj h
    subst h
    exact j_zret C E rfl dX10_goes_22

def w_X10_isDue (D : va_G) (q_p1 : Nat) (v_p1 : (Nat → Int32)) : va_W := [(q_p1, .inl (D.1 100, 50, .inl v_p1))]
theorem w_X10_isDue_g0 {D : va_G} {q_p1 : Nat} {v_p1 : (Nat → Int32)} : (w_X10_isDue D q_p1 v_p1)[0]? = some (q_p1, .inl (D.1 100, 50, .inl v_p1)) := rfl
theorem w_X10_isDue_s0 {D : va_G} {q_p1 : Nat} {v_p1 : (Nat → Int32)} {v_p1' : (Nat → Int32)} : (w_X10_isDue D q_p1 v_p1).set 0 (q_p1, .inl (D.1 100, 50, .inl v_p1')) = (w_X10_isDue D q_p1 v_p1') := rfl
theorem w_X10_isDue_a {D : va_G} {q_p1 : Nat} {v_p1 : (Nat → Int32)} : (w_X10_isDue D q_p1 v_p1).map (fun q => q.1) = [q_p1] := rfl
def f_X10_isDue (x1 : Int32) (v_p1 : (Nat → Int32)) : Option Int32 :=
  ga ((40 : Int32) + x1) 50 ((if (v_p1 (Int32.toNatClampNeg ((40 : Int32) + x1))) = (1 : Int32) then ga ((24 : Int32) + x1) 50 (gb (if (v_p1 (Int32.toNatClampNeg ((24 : Int32) + x1))) = (5 : Int32) then (0 : Int32) else (1 : Int32)) (some (if (v_p1 (Int32.toNatClampNeg ((24 : Int32) + x1))) = (5 : Int32) then (0 : Int32) else (1 : Int32)))) else some (0 : Int32)))
set_option maxRecDepth 100000 in
set_option maxHeartbeats 4000000 in
theorem c_X10_isDue (l : Launch) (D : va_G) {q_p1 : Nat} {v_p1 : (Nat → Int32)} {x1 : Int32} {o : Int32} (h : f_X10_isDue x1 v_p1 = some o) : CT l D yX10_isDue cX10_isDue 2 (Option.some FieldType.boolean) 0 [.ref q_p1, .int x1] (w_X10_isDue D q_p1 v_p1) (w_X10_isDue D q_p1 v_p1) (some (.int o)) := by
  refine CT.of mk_X10_isDue (Nat.le_of_ble_eq_true rfl) (fun g hl hD C E => ?_)
  subst hl
  subst hD
  unfold f_X10_isDue at h
  refine j_aload_n C dX10_isDue_0 rfl ?_
  refine j_bipush C (40) dX10_isDue_1 kb_40 ?_
  refine j_iload_n C dX10_isDue_3 rfl ?_
  refine j_iadd C dX10_isDue_4 ?_
  refine j_iaload 0 C h w_X10_isDue_g0 rfl dX10_isDue_5 (fun h => ?_)
  refine j_iconst C (1) dX10_isDue_6 ki_1 ?_
  refine j_icmp_ne C h 24 dX10_isDue_7 (by decide) (fun hc h => ?_) (fun hc h => ?_)
  · refine j_aload_n C dX10_isDue_10 rfl ?_
    refine j_bipush C (24) dX10_isDue_11 kb_24 ?_
    refine j_iload_n C dX10_isDue_13 rfl ?_
    refine j_iadd C dX10_isDue_14 ?_
    refine j_iaload 0 C h w_X10_isDue_g0 rfl dX10_isDue_15 (fun h => ?_)
    refine j_iconst C (5) dX10_isDue_16 ki_5 ?_
    have hj_1 : J g (w_X10_isDue (gD g) q_p1 v_p1) [] 25 [.int (if (v_p1 (Int32.toNatClampNeg ((24 : Int32) + x1))) = (5 : Int32) then (0 : Int32) else (1 : Int32))] := by
      obtain ⟨hz, h⟩ := of_gb h
      have h := Option.some.inj h
      subst h
      exact j_zret C E hz.1 dX10_isDue_25
    refine jv_icmp_eq C 24 dX10_isDue_17 (by decide) (fun hc => ?_) (fun hc => ?_)
    · try simp only [if_pos hc] at hj_1
      refine j_iconst C (0) dX10_isDue_24 ki_0 ?_
      exact j_lw hj_1 rfl
    · try simp only [if_neg hc] at hj_1
      refine j_iconst C (1) dX10_isDue_20 ki_1 ?_
      refine j_goto C 25 dX10_isDue_21 (by decide) ?_
      exact j_lw hj_1 rfl
  · refine j_iconst C (0) dX10_isDue_24 ki_0 ?_
    have h := Option.some.inj h
    subst h
    exact j_zret C E rfl dX10_isDue_25

def w_X10_due (D : va_G) (q_p1 : Nat) (v_p1 : (Nat → Int32)) : va_W := [(q_p1, .inl (D.1 100, 50, .inl v_p1))]
theorem w_X10_due_g0 {D : va_G} {q_p1 : Nat} {v_p1 : (Nat → Int32)} : (w_X10_due D q_p1 v_p1)[0]? = some (q_p1, .inl (D.1 100, 50, .inl v_p1)) := rfl
theorem w_X10_due_s0 {D : va_G} {q_p1 : Nat} {v_p1 : (Nat → Int32)} {v_p1' : (Nat → Int32)} : (w_X10_due D q_p1 v_p1).set 0 (q_p1, .inl (D.1 100, 50, .inl v_p1')) = (w_X10_due D q_p1 v_p1') := rfl
theorem w_X10_due_a {D : va_G} {q_p1 : Nat} {v_p1 : (Nat → Int32)} : (w_X10_due D q_p1 v_p1).map (fun q => q.1) = [q_p1] := rfl
def f_X10_due_b4 (v_p1 : (Nat → Int32)) (x2_4 : Int32) (x1_4 : Int32) : Option ((Int32 × Int32) ⊕ Int32) :=
  ga (49 : Int32) 50 ((if (v_p1 (Int32.toNatClampNeg (49 : Int32))) ≤ x2_4 then some (.inr x1_4) else (f_X10_isDue x2_4 v_p1).bind (fun r_isDue_1 => some (.inl (x1_4 ||| (if r_isDue_1 = 0 then (0 : Int32) else ((1 : Int32) <<< (x2_4 &&& 31))), x2_4 + (1 : Int32))))))
def f_X10_due (N : Nat) (v_p1 : (Nat → Int32)) : Option Int32 :=
  (lp (fun s_4 => f_X10_due_b4 v_p1 s_4.2 s_4.1) N ((0 : Int32), (0 : Int32))).bind (fun e_4 => some e_4)
set_option maxRecDepth 100000 in
set_option maxHeartbeats 4000000 in
theorem c_X10_due (l : Launch) (D : va_G) (N : Nat) {q_p1 : Nat} {v_p1 : (Nat → Int32)} {o : Int32} (h : f_X10_due N v_p1 = some o) : CT l D yX10_due cX10_due 3 (Option.some FieldType.int) 1 [.ref q_p1] (w_X10_due D q_p1 v_p1) (w_X10_due D q_p1 v_p1) (some (.int o)) := by
  refine CT.of mk_X10_due (Nat.le_of_ble_eq_true rfl) (fun g hl hD C E => ?_)
  subst hl
  subst hD
  unfold f_X10_due at h
  refine j_iconst C (0) dX10_due_0 ki_0 ?_
  refine j_istore_n C dX10_due_1 (by decide) ?_
  refine j_iconst C (0) dX10_due_2 ki_0 ?_
  refine j_istore_n C dX10_due_3 (by decide) ?_
  obtain ⟨e_4, hl_4, h⟩ := of_bind h
  have ha_4 : J g (w_X10_due (gD g) q_p1 v_p1) [(1, .int (e_4))] 36 [] := by
    refine j_iload_n C dX10_due_36 rfl ?_
    have h := Option.some.inj h
    subst h
    exact j_iret C E dX10_due_37
  refine j_lv (lv' := [(0, .ref q_p1), (1, .int ((0 : Int32))), (2, .int ((0 : Int32)))]) rfl ?_
  refine lp_ind hl_4 (fun s_4 => J g (w_X10_due (gD g) q_p1 v_p1) [(0, .ref q_p1), (1, .int (s_4.1)), (2, .int (s_4.2))] 4 []) (fun s_4 r_4 h hc_4 hx_4 => ?_)
  unfold f_X10_due_b4 at h
  refine j_iload_n C dX10_due_4 rfl ?_
  refine j_aload_n C dX10_due_5 rfl ?_
  refine j_bipush C (49) dX10_due_6 kb_49 ?_
  refine j_iaload 0 C h w_X10_due_g0 rfl dX10_due_8 (fun h => ?_)
  refine j_icmp_ge C h 36 dX10_due_9 (by decide) (fun hc h => ?_) (fun hc h => ?_)
  · have h := Option.some.inj h
    subst h
    have h9 := hx_4 _ rfl
    subst h9
    exact j_lw ha_4 rfl
  · refine j_iload_n C dX10_due_12 rfl ?_
    refine j_aload_n C dX10_due_13 rfl ?_
    refine j_iload_n C dX10_due_14 rfl ?_
    obtain ⟨r_isDue_1, h_1, h⟩ := of_bind h
    refine j_callS1 C mk_X10_isDue ms_X10_isDue kw_1153 (c_X10_isDue (gl g) (gD g) h_1) (by decide) [0] (hC_cons w_X10_due_g0 hC_nil) rfl (w_X10_isDue_a.trans w_X10_isDue_a.symm) rfl rfl (Nat.le_of_ble_eq_true rfl) dX10_due_15 (wput_cons w_X10_due_s0 wput_nil) ?_
    have hj_2 : J g (w_X10_due (gD g) q_p1 v_p1) [(0, .ref q_p1), (2, .int (s_4.2))] 28 [.int (if r_isDue_1 = 0 then (0 : Int32) else ((1 : Int32) <<< (s_4.2 &&& 31))), .int (s_4.1)] := by
      refine j_ior C dX10_due_28 ?_
      refine j_istore_n C dX10_due_29 (by decide) ?_
      refine j_inc C (1) dX10_due_30 rfl ki_1 (by decide) ?_
      refine j_goto C 4 dX10_due_33 (by decide) ?_
      have h := Option.some.inj h
      subst h
      have hc9 := hc_4 _ rfl
      exact j_lw hc9 rfl
    refine jv_if_eq C 27 dX10_due_18 (by decide) (fun hc => ?_) (fun hc => ?_)
    · try simp only [if_pos hc] at hj_2
      refine j_iconst C (0) dX10_due_27 ki_0 ?_
      exact j_lw hj_2 rfl
    · try simp only [if_neg hc] at hj_2
      refine j_iconst C (1) dX10_due_21 ki_1 ?_
      refine j_iload_n C dX10_due_22 rfl ?_
      refine j_ishl C dX10_due_23 ?_
      refine j_goto C 28 dX10_due_24 (by decide) ?_
      exact j_lw hj_2 rfl

def w_X10_comes (D : va_G) (q_p1 : Nat) (v_p1 : (Nat → Int32)) : va_W := [(q_p1, .inl (D.1 100, 50, .inl v_p1))]
theorem w_X10_comes_g0 {D : va_G} {q_p1 : Nat} {v_p1 : (Nat → Int32)} : (w_X10_comes D q_p1 v_p1)[0]? = some (q_p1, .inl (D.1 100, 50, .inl v_p1)) := rfl
theorem w_X10_comes_s0 {D : va_G} {q_p1 : Nat} {v_p1 : (Nat → Int32)} {v_p1' : (Nat → Int32)} : (w_X10_comes D q_p1 v_p1).set 0 (q_p1, .inl (D.1 100, 50, .inl v_p1')) = (w_X10_comes D q_p1 v_p1') := rfl
theorem w_X10_comes_a {D : va_G} {q_p1 : Nat} {v_p1 : (Nat → Int32)} : (w_X10_comes D q_p1 v_p1).map (fun q => q.1) = [q_p1] := rfl
def f_X10_comes (x1 : Int32) (x2 : Int32) (x3 : Int32) (v_p1 : (Nat → Int32)) : Option (Int32 × (Nat → Int32)) :=
  (f_X10_isCorner x1).bind (fun r_isCorner_1 => (if r_isCorner_1 = 0 then some ((0 : Int32), v_p1) else (f_X10_isCorner x2).bind (fun r_isCorner_2 => (if r_isCorner_2 = 0 then some ((0 : Int32), v_p1) else (if x1 = x2 then some ((0 : Int32), v_p1) else (f_X10_in (Int32.toInt64 x3) (1 : Int64) (99 : Int64)).bind (fun r_in_3 => (if r_in_3 = 0 then some ((0 : Int32), v_p1) else ga (49 : Int32) 50 ((if (v_p1 (Int32.toNatClampNeg (49 : Int32))) = (8 : Int32) then some ((0 : Int32), v_p1) else ga (49 : Int32) 50 (ga ((0 : Int32) + (v_p1 (Int32.toNatClampNeg (49 : Int32)))) 50 (ga ((8 : Int32) + (v_p1 (Int32.toNatClampNeg (49 : Int32)))) 50 (ga ((16 : Int32) + (v_p1 (Int32.toNatClampNeg (49 : Int32)))) 50 (ga ((24 : Int32) + (v_p1 (Int32.toNatClampNeg (49 : Int32)))) 50 (ga ((32 : Int32) + (v_p1 (Int32.toNatClampNeg (49 : Int32)))) 50 (ga ((40 : Int32) + (v_p1 (Int32.toNatClampNeg (49 : Int32)))) 50 (ga (49 : Int32) 50 (ga (49 : Int32) 50 (some ((1 : Int32), upd (upd (upd (upd (upd (upd (upd v_p1 (Int32.toNatClampNeg ((0 : Int32) + (v_p1 (Int32.toNatClampNeg (49 : Int32))))) x1) (Int32.toNatClampNeg ((8 : Int32) + (v_p1 (Int32.toNatClampNeg (49 : Int32))))) x2) (Int32.toNatClampNeg ((16 : Int32) + (v_p1 (Int32.toNatClampNeg (49 : Int32))))) x3) (Int32.toNatClampNeg ((24 : Int32) + (v_p1 (Int32.toNatClampNeg (49 : Int32))))) (0 : Int32)) (Int32.toNatClampNeg ((32 : Int32) + (v_p1 (Int32.toNatClampNeg (49 : Int32))))) (0 : Int32)) (Int32.toNatClampNeg ((40 : Int32) + (v_p1 (Int32.toNatClampNeg (49 : Int32))))) (1 : Int32)) (Int32.toNatClampNeg (49 : Int32)) (((upd (upd (upd (upd (upd (upd v_p1 (Int32.toNatClampNeg ((0 : Int32) + (v_p1 (Int32.toNatClampNeg (49 : Int32))))) x1) (Int32.toNatClampNeg ((8 : Int32) + (v_p1 (Int32.toNatClampNeg (49 : Int32))))) x2) (Int32.toNatClampNeg ((16 : Int32) + (v_p1 (Int32.toNatClampNeg (49 : Int32))))) x3) (Int32.toNatClampNeg ((24 : Int32) + (v_p1 (Int32.toNatClampNeg (49 : Int32))))) (0 : Int32)) (Int32.toNatClampNeg ((32 : Int32) + (v_p1 (Int32.toNatClampNeg (49 : Int32))))) (0 : Int32)) (Int32.toNatClampNeg ((40 : Int32) + (v_p1 (Int32.toNatClampNeg (49 : Int32))))) (1 : Int32)) (Int32.toNatClampNeg (49 : Int32))) + (1 : Int32)))))))))))))))))))))
set_option maxRecDepth 100000 in
set_option maxHeartbeats 4000000 in
theorem c_X10_comes (l : Launch) (D : va_G) {q_p1 : Nat} {v_p1 : (Nat → Int32)} {x1 : Int32} {x2 : Int32} {x3 : Int32} {o : (Int32 × (Nat → Int32))} (h : f_X10_comes x1 x2 x3 v_p1 = some o) : CT l D yX10_comes cX10_comes 5 (Option.some FieldType.boolean) 2 [.ref q_p1, .int x1, .int x2, .int x3] (w_X10_comes D q_p1 v_p1) (w_X10_comes D q_p1 o.2) (some (.int o.1)) := by
  refine CT.of mk_X10_comes (Nat.le_of_ble_eq_true rfl) (fun g hl hD C E => ?_)
  subst hl
  subst hD
  unfold f_X10_comes at h
  refine j_iload_n C dX10_comes_0 rfl ?_
  obtain ⟨r_isCorner_1, h_1, h⟩ := of_bind h
  refine j_callS1 C mk_X10_isCorner ms_X10_isCorner kw_1108 (c_X10_isCorner (gl g) (gD g) h_1) (by decide) [] hC_nil rfl (w_X10_isCorner_a.trans w_X10_isCorner_a.symm) rfl rfl (Nat.le_of_ble_eq_true rfl) dX10_comes_1 wput_nil ?_
  refine j_if_eq C h 40 dX10_comes_4 (by decide) (fun hc h => ?_) (fun hc h => ?_)
  · refine j_iconst C (0) dX10_comes_40 ki_0 ?_
    have h := Option.some.inj h
    subst h
    exact j_zret C E rfl dX10_comes_41
  · refine j_iload_n C dX10_comes_7 rfl ?_
    obtain ⟨r_isCorner_2, h_2, h⟩ := of_bind h
    refine j_callS1 C mk_X10_isCorner ms_X10_isCorner kw_1108 (c_X10_isCorner (gl g) (gD g) h_2) (by decide) [] hC_nil rfl (w_X10_isCorner_a.trans w_X10_isCorner_a.symm) rfl rfl (Nat.le_of_ble_eq_true rfl) dX10_comes_8 wput_nil ?_
    refine j_if_eq C h 40 dX10_comes_11 (by decide) (fun hc h => ?_) (fun hc h => ?_)
    · refine j_iconst C (0) dX10_comes_40 ki_0 ?_
      have h := Option.some.inj h
      subst h
      exact j_zret C E rfl dX10_comes_41
    · refine j_iload_n C dX10_comes_14 rfl ?_
      refine j_iload_n C dX10_comes_15 rfl ?_
      refine j_icmp_eq C h 40 dX10_comes_16 (by decide) (fun hc h => ?_) (fun hc h => ?_)
      · refine j_iconst C (0) dX10_comes_40 ki_0 ?_
        have h := Option.some.inj h
        subst h
        exact j_zret C E rfl dX10_comes_41
      · refine j_iload_n C dX10_comes_19 rfl ?_
        refine j_i2l C dX10_comes_20 ?_
        refine j_lconst C 1 dX10_comes_21 rfl ?_
        refine j_ldc2 C kw_1112 dX10_comes_22 ?_
        obtain ⟨r_in_3, h_3, h⟩ := of_bind h
        refine j_callS1 C mk_X10_in ms_X10_in kw_1085 (c_X10_in (gl g) (gD g) h_3) (by decide) [] hC_nil rfl (w_X10_in_a.trans w_X10_in_a.symm) rfl rfl (Nat.le_of_ble_eq_true rfl) dX10_comes_25 wput_nil ?_
        refine j_if_eq C h 40 dX10_comes_28 (by decide) (fun hc h => ?_) (fun hc h => ?_)
        · refine j_iconst C (0) dX10_comes_40 ki_0 ?_
          have h := Option.some.inj h
          subst h
          exact j_zret C E rfl dX10_comes_41
        · refine j_aload_n C dX10_comes_31 rfl ?_
          refine j_bipush C (49) dX10_comes_32 kb_49 ?_
          refine j_iaload 0 C h w_X10_comes_g0 rfl dX10_comes_34 (fun h => ?_)
          refine j_bipush C (8) dX10_comes_35 kb_8 ?_
          refine j_icmp_ne C h 42 dX10_comes_37 (by decide) (fun hc h => ?_) (fun hc h => ?_)
          · refine j_iconst C (0) dX10_comes_40 ki_0 ?_
            have h := Option.some.inj h
            subst h
            exact j_zret C E rfl dX10_comes_41
          · refine j_aload_n C dX10_comes_42 rfl ?_
            refine j_bipush C (49) dX10_comes_43 kb_49 ?_
            refine j_iaload 0 C h w_X10_comes_g0 rfl dX10_comes_45 (fun h => ?_)
            refine j_istore C dX10_comes_46 (by decide) ?_
            refine j_aload_n C dX10_comes_48 rfl ?_
            refine j_iconst C (0) dX10_comes_49 ki_0 ?_
            refine j_iload C dX10_comes_50 rfl ?_
            refine j_iadd C dX10_comes_52 ?_
            refine j_iload_n C dX10_comes_53 rfl ?_
            refine j_iastore 0 C h w_X10_comes_g0 rfl dX10_comes_54 (fun h => ?_)
            refine j_ws w_X10_comes_s0 ?_
            refine j_aload_n C dX10_comes_55 rfl ?_
            refine j_bipush C (8) dX10_comes_56 kb_8 ?_
            refine j_iload C dX10_comes_58 rfl ?_
            refine j_iadd C dX10_comes_60 ?_
            refine j_iload_n C dX10_comes_61 rfl ?_
            refine j_iastore 0 C h w_X10_comes_g0 rfl dX10_comes_62 (fun h => ?_)
            refine j_ws w_X10_comes_s0 ?_
            refine j_aload_n C dX10_comes_63 rfl ?_
            refine j_bipush C (16) dX10_comes_64 kb_16 ?_
            refine j_iload C dX10_comes_66 rfl ?_
            refine j_iadd C dX10_comes_68 ?_
            refine j_iload_n C dX10_comes_69 rfl ?_
            refine j_iastore 0 C h w_X10_comes_g0 rfl dX10_comes_70 (fun h => ?_)
            refine j_ws w_X10_comes_s0 ?_
            refine j_aload_n C dX10_comes_71 rfl ?_
            refine j_bipush C (24) dX10_comes_72 kb_24 ?_
            refine j_iload C dX10_comes_74 rfl ?_
            refine j_iadd C dX10_comes_76 ?_
            refine j_iconst C (0) dX10_comes_77 ki_0 ?_
            refine j_iastore 0 C h w_X10_comes_g0 rfl dX10_comes_78 (fun h => ?_)
            refine j_ws w_X10_comes_s0 ?_
            refine j_aload_n C dX10_comes_79 rfl ?_
            refine j_bipush C (32) dX10_comes_80 kb_32 ?_
            refine j_iload C dX10_comes_82 rfl ?_
            refine j_iadd C dX10_comes_84 ?_
            refine j_iconst C (0) dX10_comes_85 ki_0 ?_
            refine j_iastore 0 C h w_X10_comes_g0 rfl dX10_comes_86 (fun h => ?_)
            refine j_ws w_X10_comes_s0 ?_
            refine j_aload_n C dX10_comes_87 rfl ?_
            refine j_bipush C (40) dX10_comes_88 kb_40 ?_
            refine j_iload C dX10_comes_90 rfl ?_
            refine j_iadd C dX10_comes_92 ?_
            refine j_iconst C (1) dX10_comes_93 ki_1 ?_
            refine j_iastore 0 C h w_X10_comes_g0 rfl dX10_comes_94 (fun h => ?_)
            refine j_ws w_X10_comes_s0 ?_
            refine j_aload_n C dX10_comes_95 rfl ?_
            refine j_bipush C (49) dX10_comes_96 kb_49 ?_
            refine j_dup2 C dX10_comes_98 rfl rfl ?_
            refine j_iaload 0 C h w_X10_comes_g0 rfl dX10_comes_99 (fun h => ?_)
            refine j_iconst C (1) dX10_comes_100 ki_1 ?_
            refine j_iadd C dX10_comes_101 ?_
            refine j_iastore 0 C h w_X10_comes_g0 rfl dX10_comes_102 (fun h => ?_)
            refine j_ws w_X10_comes_s0 ?_
            refine j_iconst C (1) dX10_comes_103 ki_1 ?_
            have h := Option.some.inj h
            subst h
            exact j_zret C E rfl dX10_comes_104

def w_X10_measures (D : va_G) (q_this q_dists q_p1 : Nat) (w_now w_kept w_trial w_refusals w_row w_letters w_left w_steps w_partners w_times w_spliced w_piece w_balances w_prices w_hands w_hand w_dealing : Value) (v_hasImage : Int32) (v_rows : Int32) (v_lettered : Int32) (v_stepsMany : Int32) (v_splicedMany : Int32) (v_most : Int32) (v_together : Int32) (v_z : Int32) (v_dists : (Nat → Int32)) (v_p1 : (Nat → Int32)) : va_W := [(q_this, .inr (9, [w_now, w_kept, w_trial, .int v_hasImage, w_refusals, w_row, .int v_rows, w_letters, .int v_lettered, .ref q_dists, w_left, w_steps, .int v_stepsMany, w_partners, w_times, w_spliced, .int v_splicedMany, w_piece, w_balances, w_prices, w_hands, w_hand, w_dealing, .int v_most, .int v_together, .int v_z])), (q_dists, .inl (D.1 100, 36, .inl v_dists)), (q_p1, .inl (D.1 100, 50, .inl v_p1))]
theorem w_X10_measures_g0 {D : va_G} {q_this : Nat} {q_dists : Nat} {q_p1 : Nat} {w_now : Value} {w_kept : Value} {w_trial : Value} {w_refusals : Value} {w_row : Value} {w_letters : Value} {w_left : Value} {w_steps : Value} {w_partners : Value} {w_times : Value} {w_spliced : Value} {w_piece : Value} {w_balances : Value} {w_prices : Value} {w_hands : Value} {w_hand : Value} {w_dealing : Value} {v_hasImage : Int32} {v_rows : Int32} {v_lettered : Int32} {v_stepsMany : Int32} {v_splicedMany : Int32} {v_most : Int32} {v_together : Int32} {v_z : Int32} {v_dists : (Nat → Int32)} {v_p1 : (Nat → Int32)} : (w_X10_measures D q_this q_dists q_p1 w_now w_kept w_trial w_refusals w_row w_letters w_left w_steps w_partners w_times w_spliced w_piece w_balances w_prices w_hands w_hand w_dealing v_hasImage v_rows v_lettered v_stepsMany v_splicedMany v_most v_together v_z v_dists v_p1)[0]? = some (q_this, .inr (9, [w_now, w_kept, w_trial, .int v_hasImage, w_refusals, w_row, .int v_rows, w_letters, .int v_lettered, .ref q_dists, w_left, w_steps, .int v_stepsMany, w_partners, w_times, w_spliced, .int v_splicedMany, w_piece, w_balances, w_prices, w_hands, w_hand, w_dealing, .int v_most, .int v_together, .int v_z])) := rfl
theorem w_X10_measures_s0 {D : va_G} {q_this : Nat} {q_dists : Nat} {q_p1 : Nat} {w_now : Value} {w_kept : Value} {w_trial : Value} {w_refusals : Value} {w_row : Value} {w_letters : Value} {w_left : Value} {w_steps : Value} {w_partners : Value} {w_times : Value} {w_spliced : Value} {w_piece : Value} {w_balances : Value} {w_prices : Value} {w_hands : Value} {w_hand : Value} {w_dealing : Value} {v_hasImage : Int32} {v_rows : Int32} {v_lettered : Int32} {v_stepsMany : Int32} {v_splicedMany : Int32} {v_most : Int32} {v_together : Int32} {v_z : Int32} {v_dists : (Nat → Int32)} {v_p1 : (Nat → Int32)} {v_hasImage' : Int32} {v_rows' : Int32} {v_lettered' : Int32} {v_stepsMany' : Int32} {v_splicedMany' : Int32} {v_most' : Int32} {v_together' : Int32} {v_z' : Int32} : (w_X10_measures D q_this q_dists q_p1 w_now w_kept w_trial w_refusals w_row w_letters w_left w_steps w_partners w_times w_spliced w_piece w_balances w_prices w_hands w_hand w_dealing v_hasImage v_rows v_lettered v_stepsMany v_splicedMany v_most v_together v_z v_dists v_p1).set 0 (q_this, .inr (9, [w_now, w_kept, w_trial, .int v_hasImage', w_refusals, w_row, .int v_rows', w_letters, .int v_lettered', .ref q_dists, w_left, w_steps, .int v_stepsMany', w_partners, w_times, w_spliced, .int v_splicedMany', w_piece, w_balances, w_prices, w_hands, w_hand, w_dealing, .int v_most', .int v_together', .int v_z'])) = (w_X10_measures D q_this q_dists q_p1 w_now w_kept w_trial w_refusals w_row w_letters w_left w_steps w_partners w_times w_spliced w_piece w_balances w_prices w_hands w_hand w_dealing v_hasImage' v_rows' v_lettered' v_stepsMany' v_splicedMany' v_most' v_together' v_z' v_dists v_p1) := rfl
theorem w_X10_measures_g1 {D : va_G} {q_this : Nat} {q_dists : Nat} {q_p1 : Nat} {w_now : Value} {w_kept : Value} {w_trial : Value} {w_refusals : Value} {w_row : Value} {w_letters : Value} {w_left : Value} {w_steps : Value} {w_partners : Value} {w_times : Value} {w_spliced : Value} {w_piece : Value} {w_balances : Value} {w_prices : Value} {w_hands : Value} {w_hand : Value} {w_dealing : Value} {v_hasImage : Int32} {v_rows : Int32} {v_lettered : Int32} {v_stepsMany : Int32} {v_splicedMany : Int32} {v_most : Int32} {v_together : Int32} {v_z : Int32} {v_dists : (Nat → Int32)} {v_p1 : (Nat → Int32)} : (w_X10_measures D q_this q_dists q_p1 w_now w_kept w_trial w_refusals w_row w_letters w_left w_steps w_partners w_times w_spliced w_piece w_balances w_prices w_hands w_hand w_dealing v_hasImage v_rows v_lettered v_stepsMany v_splicedMany v_most v_together v_z v_dists v_p1)[1]? = some (q_dists, .inl (D.1 100, 36, .inl v_dists)) := rfl
theorem w_X10_measures_s1 {D : va_G} {q_this : Nat} {q_dists : Nat} {q_p1 : Nat} {w_now : Value} {w_kept : Value} {w_trial : Value} {w_refusals : Value} {w_row : Value} {w_letters : Value} {w_left : Value} {w_steps : Value} {w_partners : Value} {w_times : Value} {w_spliced : Value} {w_piece : Value} {w_balances : Value} {w_prices : Value} {w_hands : Value} {w_hand : Value} {w_dealing : Value} {v_hasImage : Int32} {v_rows : Int32} {v_lettered : Int32} {v_stepsMany : Int32} {v_splicedMany : Int32} {v_most : Int32} {v_together : Int32} {v_z : Int32} {v_dists : (Nat → Int32)} {v_p1 : (Nat → Int32)} {v_dists' : (Nat → Int32)} : (w_X10_measures D q_this q_dists q_p1 w_now w_kept w_trial w_refusals w_row w_letters w_left w_steps w_partners w_times w_spliced w_piece w_balances w_prices w_hands w_hand w_dealing v_hasImage v_rows v_lettered v_stepsMany v_splicedMany v_most v_together v_z v_dists v_p1).set 1 (q_dists, .inl (D.1 100, 36, .inl v_dists')) = (w_X10_measures D q_this q_dists q_p1 w_now w_kept w_trial w_refusals w_row w_letters w_left w_steps w_partners w_times w_spliced w_piece w_balances w_prices w_hands w_hand w_dealing v_hasImage v_rows v_lettered v_stepsMany v_splicedMany v_most v_together v_z v_dists' v_p1) := rfl
theorem w_X10_measures_g2 {D : va_G} {q_this : Nat} {q_dists : Nat} {q_p1 : Nat} {w_now : Value} {w_kept : Value} {w_trial : Value} {w_refusals : Value} {w_row : Value} {w_letters : Value} {w_left : Value} {w_steps : Value} {w_partners : Value} {w_times : Value} {w_spliced : Value} {w_piece : Value} {w_balances : Value} {w_prices : Value} {w_hands : Value} {w_hand : Value} {w_dealing : Value} {v_hasImage : Int32} {v_rows : Int32} {v_lettered : Int32} {v_stepsMany : Int32} {v_splicedMany : Int32} {v_most : Int32} {v_together : Int32} {v_z : Int32} {v_dists : (Nat → Int32)} {v_p1 : (Nat → Int32)} : (w_X10_measures D q_this q_dists q_p1 w_now w_kept w_trial w_refusals w_row w_letters w_left w_steps w_partners w_times w_spliced w_piece w_balances w_prices w_hands w_hand w_dealing v_hasImage v_rows v_lettered v_stepsMany v_splicedMany v_most v_together v_z v_dists v_p1)[2]? = some (q_p1, .inl (D.1 100, 50, .inl v_p1)) := rfl
theorem w_X10_measures_s2 {D : va_G} {q_this : Nat} {q_dists : Nat} {q_p1 : Nat} {w_now : Value} {w_kept : Value} {w_trial : Value} {w_refusals : Value} {w_row : Value} {w_letters : Value} {w_left : Value} {w_steps : Value} {w_partners : Value} {w_times : Value} {w_spliced : Value} {w_piece : Value} {w_balances : Value} {w_prices : Value} {w_hands : Value} {w_hand : Value} {w_dealing : Value} {v_hasImage : Int32} {v_rows : Int32} {v_lettered : Int32} {v_stepsMany : Int32} {v_splicedMany : Int32} {v_most : Int32} {v_together : Int32} {v_z : Int32} {v_dists : (Nat → Int32)} {v_p1 : (Nat → Int32)} {v_p1' : (Nat → Int32)} : (w_X10_measures D q_this q_dists q_p1 w_now w_kept w_trial w_refusals w_row w_letters w_left w_steps w_partners w_times w_spliced w_piece w_balances w_prices w_hands w_hand w_dealing v_hasImage v_rows v_lettered v_stepsMany v_splicedMany v_most v_together v_z v_dists v_p1).set 2 (q_p1, .inl (D.1 100, 50, .inl v_p1')) = (w_X10_measures D q_this q_dists q_p1 w_now w_kept w_trial w_refusals w_row w_letters w_left w_steps w_partners w_times w_spliced w_piece w_balances w_prices w_hands w_hand w_dealing v_hasImage v_rows v_lettered v_stepsMany v_splicedMany v_most v_together v_z v_dists v_p1') := rfl
theorem w_X10_measures_a {D : va_G} {q_this : Nat} {q_dists : Nat} {q_p1 : Nat} {w_now : Value} {w_kept : Value} {w_trial : Value} {w_refusals : Value} {w_row : Value} {w_letters : Value} {w_left : Value} {w_steps : Value} {w_partners : Value} {w_times : Value} {w_spliced : Value} {w_piece : Value} {w_balances : Value} {w_prices : Value} {w_hands : Value} {w_hand : Value} {w_dealing : Value} {v_hasImage : Int32} {v_rows : Int32} {v_lettered : Int32} {v_stepsMany : Int32} {v_splicedMany : Int32} {v_most : Int32} {v_together : Int32} {v_z : Int32} {v_dists : (Nat → Int32)} {v_p1 : (Nat → Int32)} : (w_X10_measures D q_this q_dists q_p1 w_now w_kept w_trial w_refusals w_row w_letters w_left w_steps w_partners w_times w_spliced w_piece w_balances w_prices w_hands w_hand w_dealing v_hasImage v_rows v_lettered v_stepsMany v_splicedMany v_most v_together v_z v_dists v_p1).map (fun q => q.1) = [q_this, q_dists, q_p1] := rfl
def f_X10_measures_b2 (x2_2 : Int32) (v_dists_2 : (Nat → Int32)) : Option ((Int32 × (Nat → Int32)) ⊕ (Nat → Int32)) :=
  (if (36 : Int32) ≤ x2_2 then some (.inr v_dists_2) else ga x2_2 36 (some (.inl (x2_2 + (1 : Int32), upd v_dists_2 (Int32.toNatClampNeg x2_2) (if (x2_2 / (6 : Int32)) = (x2_2 - x2_2 / (6 : Int32) * (6 : Int32)) then (0 : Int32) else (1000000 : Int32))))))
def f_X10_measures_b39 (v_p1 : (Nat → Int32)) (x2_39 : Int32) (v_dists_39 : (Nat → Int32)) : Option ((Int32 × (Nat → Int32)) ⊕ (Nat → Int32)) :=
  ga (49 : Int32) 50 ((if ((2 : Int32) * (v_p1 (Int32.toNatClampNeg (49 : Int32)))) ≤ x2_39 then some (.inr v_dists_39) else (f_X10_cost x2_39 v_p1).bind (fun r_cost_2 => (f_X10_begins x2_39 v_p1).bind (fun r_begins_3 => (f_X10_ends x2_39 v_p1).bind (fun r_ends_4 => (if r_cost_2 < 0 then some (.inl (x2_39 + (1 : Int32), v_dists_39)) else ga (((6 : Int32) * r_begins_3) + r_ends_4) 36 ((if (v_dists_39 (Int32.toNatClampNeg (((6 : Int32) * r_begins_3) + r_ends_4))) ≤ r_cost_2 then some (.inl (x2_39 + (1 : Int32), v_dists_39)) else ga (((6 : Int32) * r_begins_3) + r_ends_4) 36 (some (.inl (x2_39 + (1 : Int32), upd v_dists_39 (Int32.toNatClampNeg (((6 : Int32) * r_begins_3) + r_ends_4)) r_cost_2)))))))))))
def f_X10_measures_b110 (x3_110 : Int32) (v_dists_110 : (Nat → Int32)) (x2_102 : Int32) : Option ((Int32 × (Nat → Int32)) ⊕ (Nat → Int32)) :=
  (if (36 : Int32) ≤ x3_110 then some (.inr v_dists_110) else ga (((x3_110 / (6 : Int32)) * (6 : Int32)) + x2_102) 36 (ga ((x2_102 * (6 : Int32)) + (x3_110 - x3_110 / (6 : Int32) * (6 : Int32))) 36 (ga x3_110 36 (ga x3_110 36 (some (.inl (x3_110 + (1 : Int32), upd v_dists_110 (Int32.toNatClampNeg x3_110) (if ((v_dists_110 (Int32.toNatClampNeg (((x3_110 / (6 : Int32)) * (6 : Int32)) + x2_102))) + (v_dists_110 (Int32.toNatClampNeg ((x2_102 * (6 : Int32)) + (x3_110 - x3_110 / (6 : Int32) * (6 : Int32)))))) < (v_dists_110 (Int32.toNatClampNeg x3_110)) then ((v_dists_110 (Int32.toNatClampNeg (((x3_110 / (6 : Int32)) * (6 : Int32)) + x2_102))) + (v_dists_110 (Int32.toNatClampNeg ((x2_102 * (6 : Int32)) + (x3_110 - x3_110 / (6 : Int32) * (6 : Int32)))))) else (v_dists_110 (Int32.toNatClampNeg x3_110))))))))))
def f_X10_measures_b102 (N : Nat) (x2_102 : Int32) (v_dists_102 : (Nat → Int32)) : Option ((Int32 × (Nat → Int32)) ⊕ (Nat → Int32)) :=
  (if (6 : Int32) ≤ x2_102 then some (.inr v_dists_102) else (lp (fun s_110 => f_X10_measures_b110 s_110.1 s_110.2 x2_102) N ((0 : Int32), v_dists_102)).bind (fun e_110 => some (.inl (x2_102 + (1 : Int32), e_110))))
def f_X10_measures (N : Nat) (v_dists : (Nat → Int32)) (v_p1 : (Nat → Int32)) : Option (Nat → Int32) :=
  (lp (fun s_2 => f_X10_measures_b2 s_2.1 s_2.2) N ((0 : Int32), v_dists)).bind (fun e_2 => (lp (fun s_39 => f_X10_measures_b39 v_p1 s_39.1 s_39.2) N ((0 : Int32), e_2)).bind (fun e_39 => (lp (fun s_102 => f_X10_measures_b102 N s_102.1 s_102.2) N ((0 : Int32), e_39)).bind (fun e_102 => some e_102)))
set_option maxRecDepth 100000 in
set_option maxHeartbeats 4000000 in
theorem c_X10_measures (l : Launch) (D : va_G) (N : Nat) {q_this q_dists q_p1 : Nat} {w_now w_kept w_trial w_refusals w_row w_letters w_left w_steps w_partners w_times w_spliced w_piece w_balances w_prices w_hands w_hand w_dealing : Value} {v_hasImage : Int32} {v_rows : Int32} {v_lettered : Int32} {v_stepsMany : Int32} {v_splicedMany : Int32} {v_most : Int32} {v_together : Int32} {v_z : Int32} {v_dists : (Nat → Int32)} {v_p1 : (Nat → Int32)} {o : (Nat → Int32)} (h : f_X10_measures N v_dists v_p1 = some o) : CT l D yX10_measures cX10_measures 5 (Option.none : Option FieldType) 1 [.ref q_this, .ref q_p1] (w_X10_measures D q_this q_dists q_p1 w_now w_kept w_trial w_refusals w_row w_letters w_left w_steps w_partners w_times w_spliced w_piece w_balances w_prices w_hands w_hand w_dealing v_hasImage v_rows v_lettered v_stepsMany v_splicedMany v_most v_together v_z v_dists v_p1) (w_X10_measures D q_this q_dists q_p1 w_now w_kept w_trial w_refusals w_row w_letters w_left w_steps w_partners w_times w_spliced w_piece w_balances w_prices w_hands w_hand w_dealing v_hasImage v_rows v_lettered v_stepsMany v_splicedMany v_most v_together v_z o v_p1) (none) := by
  refine CT.of mk_X10_measures (Nat.le_of_ble_eq_true rfl) (fun g hl hD C E => ?_)
  subst hl
  subst hD
  unfold f_X10_measures at h
  refine j_iconst C (0) dX10_measures_0 ki_0 ?_
  refine j_istore_n C dX10_measures_1 (by decide) ?_
  obtain ⟨e_2, hl_2, h⟩ := of_bind h
  have ha_2 : J g (w_X10_measures (gD g) q_this q_dists q_p1 w_now w_kept w_trial w_refusals w_row w_letters w_left w_steps w_partners w_times w_spliced w_piece w_balances w_prices w_hands w_hand w_dealing v_hasImage v_rows v_lettered v_stepsMany v_splicedMany v_most v_together v_z e_2 v_p1) [(0, .ref q_this), (1, .ref q_p1)] 37 [] := by
    refine j_iconst C (0) dX10_measures_37 ki_0 ?_
    refine j_istore_n C dX10_measures_38 (by decide) ?_
    obtain ⟨e_39, hl_39, h⟩ := of_bind h
    have ha_39 : J g (w_X10_measures (gD g) q_this q_dists q_p1 w_now w_kept w_trial w_refusals w_row w_letters w_left w_steps w_partners w_times w_spliced w_piece w_balances w_prices w_hands w_hand w_dealing v_hasImage v_rows v_lettered v_stepsMany v_splicedMany v_most v_together v_z e_39 v_p1) [(0, .ref q_this)] 100 [] := by
      refine j_iconst C (0) dX10_measures_100 ki_0 ?_
      refine j_istore_n C dX10_measures_101 (by decide) ?_
      obtain ⟨e_102, hl_102, h⟩ := of_bind h
      have ha_102 : J g (w_X10_measures (gD g) q_this q_dists q_p1 w_now w_kept w_trial w_refusals w_row w_letters w_left w_steps w_partners w_times w_spliced w_piece w_balances w_prices w_hands w_hand w_dealing v_hasImage v_rows v_lettered v_stepsMany v_splicedMany v_most v_together v_z e_102 v_p1) [] 176 [] := by
        have h := Option.some.inj h
        subst h
        exact j_vret C E dX10_measures_176
      refine j_lv (lv' := [(0, .ref q_this), (2, .int ((0 : Int32)))]) rfl ?_
      refine lp_ind hl_102 (fun s_102 => J g (w_X10_measures (gD g) q_this q_dists q_p1 w_now w_kept w_trial w_refusals w_row w_letters w_left w_steps w_partners w_times w_spliced w_piece w_balances w_prices w_hands w_hand w_dealing v_hasImage v_rows v_lettered v_stepsMany v_splicedMany v_most v_together v_z s_102.2 v_p1) [(0, .ref q_this), (2, .int (s_102.1))] 102 []) (fun s_102 r_102 h hc_102 hx_102 => ?_)
      unfold f_X10_measures_b102 at h
      refine j_iload_n C dX10_measures_102 rfl ?_
      refine j_bipush C (6) dX10_measures_103 kb_6 ?_
      refine j_icmp_ge C h 176 dX10_measures_105 (by decide) (fun hc h => ?_) (fun hc h => ?_)
      · have h := Option.some.inj h
        subst h
        have h9 := hx_102 _ rfl
        subst h9
        exact j_lw ha_102 rfl
      · refine j_iconst C (0) dX10_measures_108 ki_0 ?_
        refine j_istore_n C dX10_measures_109 (by decide) ?_
        obtain ⟨e_110, hl_110, h⟩ := of_bind h
        have ha_110 : J g (w_X10_measures (gD g) q_this q_dists q_p1 w_now w_kept w_trial w_refusals w_row w_letters w_left w_steps w_partners w_times w_spliced w_piece w_balances w_prices w_hands w_hand w_dealing v_hasImage v_rows v_lettered v_stepsMany v_splicedMany v_most v_together v_z e_110 v_p1) [(0, .ref q_this), (2, .int (s_102.1))] 170 [] := by
          refine j_inc C (1) dX10_measures_170 rfl ki_1 (by decide) ?_
          refine j_goto C 102 dX10_measures_173 (by decide) ?_
          have h := Option.some.inj h
          subst h
          have hc9 := hc_102 _ rfl
          exact j_lw hc9 rfl
        refine j_lv (lv' := [(0, .ref q_this), (2, .int (s_102.1)), (3, .int ((0 : Int32)))]) rfl ?_
        refine lp_ind hl_110 (fun s_110 => J g (w_X10_measures (gD g) q_this q_dists q_p1 w_now w_kept w_trial w_refusals w_row w_letters w_left w_steps w_partners w_times w_spliced w_piece w_balances w_prices w_hands w_hand w_dealing v_hasImage v_rows v_lettered v_stepsMany v_splicedMany v_most v_together v_z s_110.2 v_p1) [(0, .ref q_this), (2, .int (s_102.1)), (3, .int (s_110.1))] 110 []) (fun s_110 r_110 h hc_110 hx_110 => ?_)
        unfold f_X10_measures_b110 at h
        refine j_iload_n C dX10_measures_110 rfl ?_
        refine j_bipush C (36) dX10_measures_111 kb_36 ?_
        refine j_icmp_ge C h 170 dX10_measures_113 (by decide) (fun hc h => ?_) (fun hc h => ?_)
        · have h := Option.some.inj h
          subst h
          have h9 := hx_110 _ rfl
          subst h9
          exact j_lw ha_110 rfl
        · refine j_aload_n C dX10_measures_116 rfl ?_
          refine j_get C 0 w_X10_measures_g0 rfl inX10 9 (by decide) kw_990 rfl rfl dX10_measures_117 ?_
          refine j_iload_n C dX10_measures_120 rfl ?_
          refine j_bipush C (6) dX10_measures_121 kb_6 ?_
          refine j_idivc C (by decide) dX10_measures_123 ?_
          refine j_bipush C (6) dX10_measures_124 kb_6 ?_
          refine j_imul C dX10_measures_126 ?_
          refine j_iload_n C dX10_measures_127 rfl ?_
          refine j_iadd C dX10_measures_128 ?_
          refine j_iaload 1 C h w_X10_measures_g1 rfl dX10_measures_129 (fun h => ?_)
          refine j_aload_n C dX10_measures_130 rfl ?_
          refine j_get C 0 w_X10_measures_g0 rfl inX10 9 (by decide) kw_990 rfl rfl dX10_measures_131 ?_
          refine j_iload_n C dX10_measures_134 rfl ?_
          refine j_bipush C (6) dX10_measures_135 kb_6 ?_
          refine j_imul C dX10_measures_137 ?_
          refine j_iload_n C dX10_measures_138 rfl ?_
          refine j_bipush C (6) dX10_measures_139 kb_6 ?_
          refine j_iremc C (by decide) dX10_measures_141 ?_
          refine j_iadd C dX10_measures_142 ?_
          refine j_iaload 1 C h w_X10_measures_g1 rfl dX10_measures_143 (fun h => ?_)
          refine j_iadd C dX10_measures_144 ?_
          refine j_istore C dX10_measures_145 (by decide) ?_
          refine j_aload_n C dX10_measures_147 rfl ?_
          refine j_get C 0 w_X10_measures_g0 rfl inX10 9 (by decide) kw_990 rfl rfl dX10_measures_148 ?_
          refine j_iload_n C dX10_measures_151 rfl ?_
          refine j_aload_n C dX10_measures_152 rfl ?_
          refine j_get C 0 w_X10_measures_g0 rfl inX10 9 (by decide) kw_990 rfl rfl dX10_measures_153 ?_
          refine j_iload_n C dX10_measures_156 rfl ?_
          refine j_iaload 1 C h w_X10_measures_g1 rfl dX10_measures_157 (fun h => ?_)
          refine j_iload C dX10_measures_158 rfl ?_
          refine j_mmin C (by decide) kw_1167 kw_636 kw_19 kw_637 (Nat.le_of_ble_eq_true rfl) dX10_measures_160 ?_
          refine j_iastore 1 C h w_X10_measures_g1 rfl dX10_measures_163 (fun h => ?_)
          refine j_ws w_X10_measures_s1 ?_
          refine j_inc C (1) dX10_measures_164 rfl ki_1 (by decide) ?_
          refine j_goto C 110 dX10_measures_167 (by decide) ?_
          have h := Option.some.inj h
          subst h
          have hc9 := hc_110 _ rfl
          exact j_lw hc9 rfl
    refine j_lv (lv' := [(0, .ref q_this), (1, .ref q_p1), (2, .int ((0 : Int32)))]) rfl ?_
    refine lp_ind hl_39 (fun s_39 => J g (w_X10_measures (gD g) q_this q_dists q_p1 w_now w_kept w_trial w_refusals w_row w_letters w_left w_steps w_partners w_times w_spliced w_piece w_balances w_prices w_hands w_hand w_dealing v_hasImage v_rows v_lettered v_stepsMany v_splicedMany v_most v_together v_z s_39.2 v_p1) [(0, .ref q_this), (1, .ref q_p1), (2, .int (s_39.1))] 39 []) (fun s_39 r_39 h hc_39 hx_39 => ?_)
    unfold f_X10_measures_b39 at h
    refine j_iload_n C dX10_measures_39 rfl ?_
    refine j_iconst C (2) dX10_measures_40 ki_2 ?_
    refine j_aload_n C dX10_measures_41 rfl ?_
    refine j_bipush C (49) dX10_measures_42 kb_49 ?_
    refine j_iaload 2 C h w_X10_measures_g2 rfl dX10_measures_44 (fun h => ?_)
    refine j_imul C dX10_measures_45 ?_
    refine j_icmp_ge C h 100 dX10_measures_46 (by decide) (fun hc h => ?_) (fun hc h => ?_)
    · have h := Option.some.inj h
      subst h
      have h9 := hx_39 _ rfl
      subst h9
      exact j_lw ha_39 rfl
    · refine j_aload_n C dX10_measures_49 rfl ?_
      refine j_iload_n C dX10_measures_50 rfl ?_
      obtain ⟨r_cost_2, h_2, h⟩ := of_bind h
      refine j_callS1 C mk_X10_cost ms_X10_cost kw_1142 (c_X10_cost (gl g) (gD g) h_2) (by decide) [2] (hC_cons w_X10_measures_g2 hC_nil) rfl (w_X10_cost_a.trans w_X10_cost_a.symm) rfl rfl (Nat.le_of_ble_eq_true rfl) dX10_measures_51 (wput_cons w_X10_measures_s2 wput_nil) ?_
      refine j_istore_n C dX10_measures_54 (by decide) ?_
      refine j_bipush C (6) dX10_measures_55 kb_6 ?_
      refine j_aload_n C dX10_measures_57 rfl ?_
      refine j_iload_n C dX10_measures_58 rfl ?_
      obtain ⟨r_begins_3, h_3, h⟩ := of_bind h
      refine j_callS1 C mk_X10_begins ms_X10_begins kw_1161 (c_X10_begins (gl g) (gD g) h_3) (by decide) [2] (hC_cons w_X10_measures_g2 hC_nil) rfl (w_X10_begins_a.trans w_X10_begins_a.symm) rfl rfl (Nat.le_of_ble_eq_true rfl) dX10_measures_59 (wput_cons w_X10_measures_s2 wput_nil) ?_
      refine j_imul C dX10_measures_62 ?_
      refine j_aload_n C dX10_measures_63 rfl ?_
      refine j_iload_n C dX10_measures_64 rfl ?_
      obtain ⟨r_ends_4, h_4, h⟩ := of_bind h
      refine j_callS1 C mk_X10_ends ms_X10_ends kw_1164 (c_X10_ends (gl g) (gD g) h_4) (by decide) [2] (hC_cons w_X10_measures_g2 hC_nil) rfl (w_X10_ends_a.trans w_X10_ends_a.symm) rfl rfl (Nat.le_of_ble_eq_true rfl) dX10_measures_65 (wput_cons w_X10_measures_s2 wput_nil) ?_
      refine j_iadd C dX10_measures_68 ?_
      refine j_istore C dX10_measures_69 (by decide) ?_
      refine j_iload_n C dX10_measures_71 rfl ?_
      refine j_if_lt C h 94 dX10_measures_72 (by decide) (fun hc h => ?_) (fun hc h => ?_)
      · refine j_inc C (1) dX10_measures_94 rfl ki_1 (by decide) ?_
        refine j_goto C 39 dX10_measures_97 (by decide) ?_
        have h := Option.some.inj h
        subst h
        have hc9 := hc_39 _ rfl
        exact j_lw hc9 rfl
      · refine j_iload_n C dX10_measures_75 rfl ?_
        refine j_aload_n C dX10_measures_76 rfl ?_
        refine j_get C 0 w_X10_measures_g0 rfl inX10 9 (by decide) kw_990 rfl rfl dX10_measures_77 ?_
        refine j_iload C dX10_measures_80 rfl ?_
        refine j_iaload 1 C h w_X10_measures_g1 rfl dX10_measures_82 (fun h => ?_)
        refine j_icmp_ge C h 94 dX10_measures_83 (by decide) (fun hc h => ?_) (fun hc h => ?_)
        · refine j_inc C (1) dX10_measures_94 rfl ki_1 (by decide) ?_
          refine j_goto C 39 dX10_measures_97 (by decide) ?_
          have h := Option.some.inj h
          subst h
          have hc9 := hc_39 _ rfl
          exact j_lw hc9 rfl
        · refine j_aload_n C dX10_measures_86 rfl ?_
          refine j_get C 0 w_X10_measures_g0 rfl inX10 9 (by decide) kw_990 rfl rfl dX10_measures_87 ?_
          refine j_iload C dX10_measures_90 rfl ?_
          refine j_iload_n C dX10_measures_92 rfl ?_
          refine j_iastore 1 C h w_X10_measures_g1 rfl dX10_measures_93 (fun h => ?_)
          refine j_ws w_X10_measures_s1 ?_
          refine j_inc C (1) dX10_measures_94 rfl ki_1 (by decide) ?_
          refine j_goto C 39 dX10_measures_97 (by decide) ?_
          have h := Option.some.inj h
          subst h
          have hc9 := hc_39 _ rfl
          exact j_lw hc9 rfl
  refine j_lv (lv' := [(0, .ref q_this), (1, .ref q_p1), (2, .int ((0 : Int32)))]) rfl ?_
  refine lp_ind hl_2 (fun s_2 => J g (w_X10_measures (gD g) q_this q_dists q_p1 w_now w_kept w_trial w_refusals w_row w_letters w_left w_steps w_partners w_times w_spliced w_piece w_balances w_prices w_hands w_hand w_dealing v_hasImage v_rows v_lettered v_stepsMany v_splicedMany v_most v_together v_z s_2.2 v_p1) [(0, .ref q_this), (1, .ref q_p1), (2, .int (s_2.1))] 2 []) (fun s_2 r_2 h hc_2 hx_2 => ?_)
  unfold f_X10_measures_b2 at h
  refine j_iload_n C dX10_measures_2 rfl ?_
  refine j_bipush C (36) dX10_measures_3 kb_36 ?_
  refine j_icmp_ge C h 37 dX10_measures_5 (by decide) (fun hc h => ?_) (fun hc h => ?_)
  · have h := Option.some.inj h
    subst h
    have h9 := hx_2 _ rfl
    subst h9
    exact j_lw ha_2 rfl
  · refine j_aload_n C dX10_measures_8 rfl ?_
    refine j_get C 0 w_X10_measures_g0 rfl inX10 9 (by decide) kw_990 rfl rfl dX10_measures_9 ?_
    refine j_iload_n C dX10_measures_12 rfl ?_
    refine j_iload_n C dX10_measures_13 rfl ?_
    refine j_bipush C (6) dX10_measures_14 kb_6 ?_
    refine j_idivc C (by decide) dX10_measures_16 ?_
    refine j_iload_n C dX10_measures_17 rfl ?_
    refine j_bipush C (6) dX10_measures_18 kb_6 ?_
    refine j_iremc C (by decide) dX10_measures_20 ?_
    have hj_1 : J g (w_X10_measures (gD g) q_this q_dists q_p1 w_now w_kept w_trial w_refusals w_row w_letters w_left w_steps w_partners w_times w_spliced w_piece w_balances w_prices w_hands w_hand w_dealing v_hasImage v_rows v_lettered v_stepsMany v_splicedMany v_most v_together v_z s_2.2 v_p1) [(0, .ref q_this), (1, .ref q_p1), (2, .int (s_2.1))] 30 [.int (if (s_2.1 / (6 : Int32)) = (s_2.1 - s_2.1 / (6 : Int32) * (6 : Int32)) then (0 : Int32) else (1000000 : Int32)), .int (s_2.1), .ref q_dists] := by
      refine j_iastore 1 C h w_X10_measures_g1 rfl dX10_measures_30 (fun h => ?_)
      refine j_ws w_X10_measures_s1 ?_
      refine j_inc C (1) dX10_measures_31 rfl ki_1 (by decide) ?_
      refine j_goto C 2 dX10_measures_34 (by decide) ?_
      have h := Option.some.inj h
      subst h
      have hc9 := hc_2 _ rfl
      exact j_lw hc9 rfl
    refine jv_icmp_ne C 28 dX10_measures_21 (by decide) (fun hc => ?_) (fun hc => ?_)
    · try simp only [if_pos hc] at hj_1
      refine j_iconst C (0) dX10_measures_24 ki_0 ?_
      refine j_goto C 30 dX10_measures_25 (by decide) ?_
      exact j_lw hj_1 rfl
    · try simp only [if_neg hc] at hj_1
      refine j_ldc C kw_1160 dX10_measures_28 ?_
      exact j_lw hj_1 rfl

def w_X10_dist (D : va_G) (q_this q_dists : Nat) (w_now w_kept w_trial w_refusals w_row w_letters w_left w_steps w_partners w_times w_spliced w_piece w_balances w_prices w_hands w_hand w_dealing : Value) (v_hasImage : Int32) (v_rows : Int32) (v_lettered : Int32) (v_stepsMany : Int32) (v_splicedMany : Int32) (v_most : Int32) (v_together : Int32) (v_z : Int32) (v_dists : (Nat → Int32)) : va_W := [(q_this, .inr (9, [w_now, w_kept, w_trial, .int v_hasImage, w_refusals, w_row, .int v_rows, w_letters, .int v_lettered, .ref q_dists, w_left, w_steps, .int v_stepsMany, w_partners, w_times, w_spliced, .int v_splicedMany, w_piece, w_balances, w_prices, w_hands, w_hand, w_dealing, .int v_most, .int v_together, .int v_z])), (q_dists, .inl (D.1 100, 36, .inl v_dists))]
theorem w_X10_dist_g0 {D : va_G} {q_this : Nat} {q_dists : Nat} {w_now : Value} {w_kept : Value} {w_trial : Value} {w_refusals : Value} {w_row : Value} {w_letters : Value} {w_left : Value} {w_steps : Value} {w_partners : Value} {w_times : Value} {w_spliced : Value} {w_piece : Value} {w_balances : Value} {w_prices : Value} {w_hands : Value} {w_hand : Value} {w_dealing : Value} {v_hasImage : Int32} {v_rows : Int32} {v_lettered : Int32} {v_stepsMany : Int32} {v_splicedMany : Int32} {v_most : Int32} {v_together : Int32} {v_z : Int32} {v_dists : (Nat → Int32)} : (w_X10_dist D q_this q_dists w_now w_kept w_trial w_refusals w_row w_letters w_left w_steps w_partners w_times w_spliced w_piece w_balances w_prices w_hands w_hand w_dealing v_hasImage v_rows v_lettered v_stepsMany v_splicedMany v_most v_together v_z v_dists)[0]? = some (q_this, .inr (9, [w_now, w_kept, w_trial, .int v_hasImage, w_refusals, w_row, .int v_rows, w_letters, .int v_lettered, .ref q_dists, w_left, w_steps, .int v_stepsMany, w_partners, w_times, w_spliced, .int v_splicedMany, w_piece, w_balances, w_prices, w_hands, w_hand, w_dealing, .int v_most, .int v_together, .int v_z])) := rfl
theorem w_X10_dist_s0 {D : va_G} {q_this : Nat} {q_dists : Nat} {w_now : Value} {w_kept : Value} {w_trial : Value} {w_refusals : Value} {w_row : Value} {w_letters : Value} {w_left : Value} {w_steps : Value} {w_partners : Value} {w_times : Value} {w_spliced : Value} {w_piece : Value} {w_balances : Value} {w_prices : Value} {w_hands : Value} {w_hand : Value} {w_dealing : Value} {v_hasImage : Int32} {v_rows : Int32} {v_lettered : Int32} {v_stepsMany : Int32} {v_splicedMany : Int32} {v_most : Int32} {v_together : Int32} {v_z : Int32} {v_dists : (Nat → Int32)} {v_hasImage' : Int32} {v_rows' : Int32} {v_lettered' : Int32} {v_stepsMany' : Int32} {v_splicedMany' : Int32} {v_most' : Int32} {v_together' : Int32} {v_z' : Int32} : (w_X10_dist D q_this q_dists w_now w_kept w_trial w_refusals w_row w_letters w_left w_steps w_partners w_times w_spliced w_piece w_balances w_prices w_hands w_hand w_dealing v_hasImage v_rows v_lettered v_stepsMany v_splicedMany v_most v_together v_z v_dists).set 0 (q_this, .inr (9, [w_now, w_kept, w_trial, .int v_hasImage', w_refusals, w_row, .int v_rows', w_letters, .int v_lettered', .ref q_dists, w_left, w_steps, .int v_stepsMany', w_partners, w_times, w_spliced, .int v_splicedMany', w_piece, w_balances, w_prices, w_hands, w_hand, w_dealing, .int v_most', .int v_together', .int v_z'])) = (w_X10_dist D q_this q_dists w_now w_kept w_trial w_refusals w_row w_letters w_left w_steps w_partners w_times w_spliced w_piece w_balances w_prices w_hands w_hand w_dealing v_hasImage' v_rows' v_lettered' v_stepsMany' v_splicedMany' v_most' v_together' v_z' v_dists) := rfl
theorem w_X10_dist_g1 {D : va_G} {q_this : Nat} {q_dists : Nat} {w_now : Value} {w_kept : Value} {w_trial : Value} {w_refusals : Value} {w_row : Value} {w_letters : Value} {w_left : Value} {w_steps : Value} {w_partners : Value} {w_times : Value} {w_spliced : Value} {w_piece : Value} {w_balances : Value} {w_prices : Value} {w_hands : Value} {w_hand : Value} {w_dealing : Value} {v_hasImage : Int32} {v_rows : Int32} {v_lettered : Int32} {v_stepsMany : Int32} {v_splicedMany : Int32} {v_most : Int32} {v_together : Int32} {v_z : Int32} {v_dists : (Nat → Int32)} : (w_X10_dist D q_this q_dists w_now w_kept w_trial w_refusals w_row w_letters w_left w_steps w_partners w_times w_spliced w_piece w_balances w_prices w_hands w_hand w_dealing v_hasImage v_rows v_lettered v_stepsMany v_splicedMany v_most v_together v_z v_dists)[1]? = some (q_dists, .inl (D.1 100, 36, .inl v_dists)) := rfl
theorem w_X10_dist_s1 {D : va_G} {q_this : Nat} {q_dists : Nat} {w_now : Value} {w_kept : Value} {w_trial : Value} {w_refusals : Value} {w_row : Value} {w_letters : Value} {w_left : Value} {w_steps : Value} {w_partners : Value} {w_times : Value} {w_spliced : Value} {w_piece : Value} {w_balances : Value} {w_prices : Value} {w_hands : Value} {w_hand : Value} {w_dealing : Value} {v_hasImage : Int32} {v_rows : Int32} {v_lettered : Int32} {v_stepsMany : Int32} {v_splicedMany : Int32} {v_most : Int32} {v_together : Int32} {v_z : Int32} {v_dists : (Nat → Int32)} {v_dists' : (Nat → Int32)} : (w_X10_dist D q_this q_dists w_now w_kept w_trial w_refusals w_row w_letters w_left w_steps w_partners w_times w_spliced w_piece w_balances w_prices w_hands w_hand w_dealing v_hasImage v_rows v_lettered v_stepsMany v_splicedMany v_most v_together v_z v_dists).set 1 (q_dists, .inl (D.1 100, 36, .inl v_dists')) = (w_X10_dist D q_this q_dists w_now w_kept w_trial w_refusals w_row w_letters w_left w_steps w_partners w_times w_spliced w_piece w_balances w_prices w_hands w_hand w_dealing v_hasImage v_rows v_lettered v_stepsMany v_splicedMany v_most v_together v_z v_dists') := rfl
theorem w_X10_dist_a {D : va_G} {q_this : Nat} {q_dists : Nat} {w_now : Value} {w_kept : Value} {w_trial : Value} {w_refusals : Value} {w_row : Value} {w_letters : Value} {w_left : Value} {w_steps : Value} {w_partners : Value} {w_times : Value} {w_spliced : Value} {w_piece : Value} {w_balances : Value} {w_prices : Value} {w_hands : Value} {w_hand : Value} {w_dealing : Value} {v_hasImage : Int32} {v_rows : Int32} {v_lettered : Int32} {v_stepsMany : Int32} {v_splicedMany : Int32} {v_most : Int32} {v_together : Int32} {v_z : Int32} {v_dists : (Nat → Int32)} : (w_X10_dist D q_this q_dists w_now w_kept w_trial w_refusals w_row w_letters w_left w_steps w_partners w_times w_spliced w_piece w_balances w_prices w_hands w_hand w_dealing v_hasImage v_rows v_lettered v_stepsMany v_splicedMany v_most v_together v_z v_dists).map (fun q => q.1) = [q_this, q_dists] := rfl
def f_X10_dist (x1 : Int32) (x2 : Int32) (v_dists : (Nat → Int32)) : Option Int32 :=
  ga (((6 : Int32) * x1) + x2) 36 (some (v_dists (Int32.toNatClampNeg (((6 : Int32) * x1) + x2))))
set_option maxRecDepth 100000 in
set_option maxHeartbeats 4000000 in
theorem c_X10_dist (l : Launch) (D : va_G) {q_this q_dists : Nat} {w_now w_kept w_trial w_refusals w_row w_letters w_left w_steps w_partners w_times w_spliced w_piece w_balances w_prices w_hands w_hand w_dealing : Value} {v_hasImage : Int32} {v_rows : Int32} {v_lettered : Int32} {v_stepsMany : Int32} {v_splicedMany : Int32} {v_most : Int32} {v_together : Int32} {v_z : Int32} {v_dists : (Nat → Int32)} {x1 : Int32} {x2 : Int32} {o : Int32} (h : f_X10_dist x1 x2 v_dists = some o) : CT l D yX10_dist cX10_dist 3 (Option.some FieldType.int) 0 [.ref q_this, .int x1, .int x2] (w_X10_dist D q_this q_dists w_now w_kept w_trial w_refusals w_row w_letters w_left w_steps w_partners w_times w_spliced w_piece w_balances w_prices w_hands w_hand w_dealing v_hasImage v_rows v_lettered v_stepsMany v_splicedMany v_most v_together v_z v_dists) (w_X10_dist D q_this q_dists w_now w_kept w_trial w_refusals w_row w_letters w_left w_steps w_partners w_times w_spliced w_piece w_balances w_prices w_hands w_hand w_dealing v_hasImage v_rows v_lettered v_stepsMany v_splicedMany v_most v_together v_z v_dists) (some (.int o)) := by
  refine CT.of mk_X10_dist (Nat.le_of_ble_eq_true rfl) (fun g hl hD C E => ?_)
  subst hl
  subst hD
  unfold f_X10_dist at h
  refine j_aload_n C dX10_dist_0 rfl ?_
  refine j_get C 0 w_X10_dist_g0 rfl inX10 9 (by decide) kw_990 rfl rfl dX10_dist_1 ?_
  refine j_bipush C (6) dX10_dist_4 kb_6 ?_
  refine j_iload_n C dX10_dist_6 rfl ?_
  refine j_imul C dX10_dist_7 ?_
  refine j_iload_n C dX10_dist_8 rfl ?_
  refine j_iadd C dX10_dist_9 ?_
  refine j_iaload 1 C h w_X10_dist_g1 rfl dX10_dist_10 (fun h => ?_)
  have h := Option.some.inj h
  subst h
  exact j_iret C E dX10_dist_11

def w_X10_nextStep (D : va_G) (q_this q_dists q_p1 : Nat) (w_now w_kept w_trial w_refusals w_row w_letters w_left w_steps w_partners w_times w_spliced w_piece w_balances w_prices w_hands w_hand w_dealing : Value) (v_hasImage : Int32) (v_rows : Int32) (v_lettered : Int32) (v_stepsMany : Int32) (v_splicedMany : Int32) (v_most : Int32) (v_together : Int32) (v_z : Int32) (v_dists : (Nat → Int32)) (v_p1 : (Nat → Int32)) : va_W := [(q_this, .inr (9, [w_now, w_kept, w_trial, .int v_hasImage, w_refusals, w_row, .int v_rows, w_letters, .int v_lettered, .ref q_dists, w_left, w_steps, .int v_stepsMany, w_partners, w_times, w_spliced, .int v_splicedMany, w_piece, w_balances, w_prices, w_hands, w_hand, w_dealing, .int v_most, .int v_together, .int v_z])), (q_dists, .inl (D.1 100, 36, .inl v_dists)), (q_p1, .inl (D.1 100, 50, .inl v_p1))]
theorem w_X10_nextStep_g0 {D : va_G} {q_this : Nat} {q_dists : Nat} {q_p1 : Nat} {w_now : Value} {w_kept : Value} {w_trial : Value} {w_refusals : Value} {w_row : Value} {w_letters : Value} {w_left : Value} {w_steps : Value} {w_partners : Value} {w_times : Value} {w_spliced : Value} {w_piece : Value} {w_balances : Value} {w_prices : Value} {w_hands : Value} {w_hand : Value} {w_dealing : Value} {v_hasImage : Int32} {v_rows : Int32} {v_lettered : Int32} {v_stepsMany : Int32} {v_splicedMany : Int32} {v_most : Int32} {v_together : Int32} {v_z : Int32} {v_dists : (Nat → Int32)} {v_p1 : (Nat → Int32)} : (w_X10_nextStep D q_this q_dists q_p1 w_now w_kept w_trial w_refusals w_row w_letters w_left w_steps w_partners w_times w_spliced w_piece w_balances w_prices w_hands w_hand w_dealing v_hasImage v_rows v_lettered v_stepsMany v_splicedMany v_most v_together v_z v_dists v_p1)[0]? = some (q_this, .inr (9, [w_now, w_kept, w_trial, .int v_hasImage, w_refusals, w_row, .int v_rows, w_letters, .int v_lettered, .ref q_dists, w_left, w_steps, .int v_stepsMany, w_partners, w_times, w_spliced, .int v_splicedMany, w_piece, w_balances, w_prices, w_hands, w_hand, w_dealing, .int v_most, .int v_together, .int v_z])) := rfl
theorem w_X10_nextStep_s0 {D : va_G} {q_this : Nat} {q_dists : Nat} {q_p1 : Nat} {w_now : Value} {w_kept : Value} {w_trial : Value} {w_refusals : Value} {w_row : Value} {w_letters : Value} {w_left : Value} {w_steps : Value} {w_partners : Value} {w_times : Value} {w_spliced : Value} {w_piece : Value} {w_balances : Value} {w_prices : Value} {w_hands : Value} {w_hand : Value} {w_dealing : Value} {v_hasImage : Int32} {v_rows : Int32} {v_lettered : Int32} {v_stepsMany : Int32} {v_splicedMany : Int32} {v_most : Int32} {v_together : Int32} {v_z : Int32} {v_dists : (Nat → Int32)} {v_p1 : (Nat → Int32)} {v_hasImage' : Int32} {v_rows' : Int32} {v_lettered' : Int32} {v_stepsMany' : Int32} {v_splicedMany' : Int32} {v_most' : Int32} {v_together' : Int32} {v_z' : Int32} : (w_X10_nextStep D q_this q_dists q_p1 w_now w_kept w_trial w_refusals w_row w_letters w_left w_steps w_partners w_times w_spliced w_piece w_balances w_prices w_hands w_hand w_dealing v_hasImage v_rows v_lettered v_stepsMany v_splicedMany v_most v_together v_z v_dists v_p1).set 0 (q_this, .inr (9, [w_now, w_kept, w_trial, .int v_hasImage', w_refusals, w_row, .int v_rows', w_letters, .int v_lettered', .ref q_dists, w_left, w_steps, .int v_stepsMany', w_partners, w_times, w_spliced, .int v_splicedMany', w_piece, w_balances, w_prices, w_hands, w_hand, w_dealing, .int v_most', .int v_together', .int v_z'])) = (w_X10_nextStep D q_this q_dists q_p1 w_now w_kept w_trial w_refusals w_row w_letters w_left w_steps w_partners w_times w_spliced w_piece w_balances w_prices w_hands w_hand w_dealing v_hasImage' v_rows' v_lettered' v_stepsMany' v_splicedMany' v_most' v_together' v_z' v_dists v_p1) := rfl
theorem w_X10_nextStep_g1 {D : va_G} {q_this : Nat} {q_dists : Nat} {q_p1 : Nat} {w_now : Value} {w_kept : Value} {w_trial : Value} {w_refusals : Value} {w_row : Value} {w_letters : Value} {w_left : Value} {w_steps : Value} {w_partners : Value} {w_times : Value} {w_spliced : Value} {w_piece : Value} {w_balances : Value} {w_prices : Value} {w_hands : Value} {w_hand : Value} {w_dealing : Value} {v_hasImage : Int32} {v_rows : Int32} {v_lettered : Int32} {v_stepsMany : Int32} {v_splicedMany : Int32} {v_most : Int32} {v_together : Int32} {v_z : Int32} {v_dists : (Nat → Int32)} {v_p1 : (Nat → Int32)} : (w_X10_nextStep D q_this q_dists q_p1 w_now w_kept w_trial w_refusals w_row w_letters w_left w_steps w_partners w_times w_spliced w_piece w_balances w_prices w_hands w_hand w_dealing v_hasImage v_rows v_lettered v_stepsMany v_splicedMany v_most v_together v_z v_dists v_p1)[1]? = some (q_dists, .inl (D.1 100, 36, .inl v_dists)) := rfl
theorem w_X10_nextStep_s1 {D : va_G} {q_this : Nat} {q_dists : Nat} {q_p1 : Nat} {w_now : Value} {w_kept : Value} {w_trial : Value} {w_refusals : Value} {w_row : Value} {w_letters : Value} {w_left : Value} {w_steps : Value} {w_partners : Value} {w_times : Value} {w_spliced : Value} {w_piece : Value} {w_balances : Value} {w_prices : Value} {w_hands : Value} {w_hand : Value} {w_dealing : Value} {v_hasImage : Int32} {v_rows : Int32} {v_lettered : Int32} {v_stepsMany : Int32} {v_splicedMany : Int32} {v_most : Int32} {v_together : Int32} {v_z : Int32} {v_dists : (Nat → Int32)} {v_p1 : (Nat → Int32)} {v_dists' : (Nat → Int32)} : (w_X10_nextStep D q_this q_dists q_p1 w_now w_kept w_trial w_refusals w_row w_letters w_left w_steps w_partners w_times w_spliced w_piece w_balances w_prices w_hands w_hand w_dealing v_hasImage v_rows v_lettered v_stepsMany v_splicedMany v_most v_together v_z v_dists v_p1).set 1 (q_dists, .inl (D.1 100, 36, .inl v_dists')) = (w_X10_nextStep D q_this q_dists q_p1 w_now w_kept w_trial w_refusals w_row w_letters w_left w_steps w_partners w_times w_spliced w_piece w_balances w_prices w_hands w_hand w_dealing v_hasImage v_rows v_lettered v_stepsMany v_splicedMany v_most v_together v_z v_dists' v_p1) := rfl
theorem w_X10_nextStep_g2 {D : va_G} {q_this : Nat} {q_dists : Nat} {q_p1 : Nat} {w_now : Value} {w_kept : Value} {w_trial : Value} {w_refusals : Value} {w_row : Value} {w_letters : Value} {w_left : Value} {w_steps : Value} {w_partners : Value} {w_times : Value} {w_spliced : Value} {w_piece : Value} {w_balances : Value} {w_prices : Value} {w_hands : Value} {w_hand : Value} {w_dealing : Value} {v_hasImage : Int32} {v_rows : Int32} {v_lettered : Int32} {v_stepsMany : Int32} {v_splicedMany : Int32} {v_most : Int32} {v_together : Int32} {v_z : Int32} {v_dists : (Nat → Int32)} {v_p1 : (Nat → Int32)} : (w_X10_nextStep D q_this q_dists q_p1 w_now w_kept w_trial w_refusals w_row w_letters w_left w_steps w_partners w_times w_spliced w_piece w_balances w_prices w_hands w_hand w_dealing v_hasImage v_rows v_lettered v_stepsMany v_splicedMany v_most v_together v_z v_dists v_p1)[2]? = some (q_p1, .inl (D.1 100, 50, .inl v_p1)) := rfl
theorem w_X10_nextStep_s2 {D : va_G} {q_this : Nat} {q_dists : Nat} {q_p1 : Nat} {w_now : Value} {w_kept : Value} {w_trial : Value} {w_refusals : Value} {w_row : Value} {w_letters : Value} {w_left : Value} {w_steps : Value} {w_partners : Value} {w_times : Value} {w_spliced : Value} {w_piece : Value} {w_balances : Value} {w_prices : Value} {w_hands : Value} {w_hand : Value} {w_dealing : Value} {v_hasImage : Int32} {v_rows : Int32} {v_lettered : Int32} {v_stepsMany : Int32} {v_splicedMany : Int32} {v_most : Int32} {v_together : Int32} {v_z : Int32} {v_dists : (Nat → Int32)} {v_p1 : (Nat → Int32)} {v_p1' : (Nat → Int32)} : (w_X10_nextStep D q_this q_dists q_p1 w_now w_kept w_trial w_refusals w_row w_letters w_left w_steps w_partners w_times w_spliced w_piece w_balances w_prices w_hands w_hand w_dealing v_hasImage v_rows v_lettered v_stepsMany v_splicedMany v_most v_together v_z v_dists v_p1).set 2 (q_p1, .inl (D.1 100, 50, .inl v_p1')) = (w_X10_nextStep D q_this q_dists q_p1 w_now w_kept w_trial w_refusals w_row w_letters w_left w_steps w_partners w_times w_spliced w_piece w_balances w_prices w_hands w_hand w_dealing v_hasImage v_rows v_lettered v_stepsMany v_splicedMany v_most v_together v_z v_dists v_p1') := rfl
theorem w_X10_nextStep_a {D : va_G} {q_this : Nat} {q_dists : Nat} {q_p1 : Nat} {w_now : Value} {w_kept : Value} {w_trial : Value} {w_refusals : Value} {w_row : Value} {w_letters : Value} {w_left : Value} {w_steps : Value} {w_partners : Value} {w_times : Value} {w_spliced : Value} {w_piece : Value} {w_balances : Value} {w_prices : Value} {w_hands : Value} {w_hand : Value} {w_dealing : Value} {v_hasImage : Int32} {v_rows : Int32} {v_lettered : Int32} {v_stepsMany : Int32} {v_splicedMany : Int32} {v_most : Int32} {v_together : Int32} {v_z : Int32} {v_dists : (Nat → Int32)} {v_p1 : (Nat → Int32)} : (w_X10_nextStep D q_this q_dists q_p1 w_now w_kept w_trial w_refusals w_row w_letters w_left w_steps w_partners w_times w_spliced w_piece w_balances w_prices w_hands w_hand w_dealing v_hasImage v_rows v_lettered v_stepsMany v_splicedMany v_most v_together v_z v_dists v_p1).map (fun q => q.1) = [q_this, q_dists, q_p1] := rfl
def f_X10_nextStep_b22 (x4_22 : Int32) (x2 : Int32) (v_p1 : (Nat → Int32)) (x3 : Int32) (v_dists : (Nat → Int32)) : Option (Int32 ⊕ Int32) :=
  (f_X10_goes x4_22 x2 v_p1).bind (fun r_goes_2 => (if r_goes_2 = 0 then some (.inl (x4_22 + (1 : Int32))) else (f_X10_cost x4_22 v_p1).bind (fun r_cost_3 => (f_X10_ends x4_22 v_p1).bind (fun r_ends_4 => (f_X10_dist r_ends_4 x3 v_dists).bind (fun r_dist_5 => (f_X10_dist x2 x3 v_dists).bind (fun r_dist_6 => (if (r_cost_3 + r_dist_5) = r_dist_6 then some (.inr x4_22) else some (.inl (x4_22 + (1 : Int32))))))))))
def f_X10_nextStep (N : Nat) (x2 : Int32) (x3 : Int32) (v_dists : (Nat → Int32)) (v_p1 : (Nat → Int32)) : Option Int32 :=
  (if x2 = x3 then some (-9 : Int32) else (f_X10_dist x2 x3 v_dists).bind (fun r_dist_1 => (if r_dist_1 < (1000000 : Int32) then (lp (fun s_22 => f_X10_nextStep_b22 s_22 x2 v_p1 x3 v_dists) N ((0 : Int32))).bind (fun e_22 => some e_22) else some (-9 : Int32))))
set_option maxRecDepth 100000 in
set_option maxHeartbeats 4000000 in
theorem c_X10_nextStep (l : Launch) (D : va_G) (N : Nat) {q_this q_dists q_p1 : Nat} {w_now w_kept w_trial w_refusals w_row w_letters w_left w_steps w_partners w_times w_spliced w_piece w_balances w_prices w_hands w_hand w_dealing : Value} {v_hasImage : Int32} {v_rows : Int32} {v_lettered : Int32} {v_stepsMany : Int32} {v_splicedMany : Int32} {v_most : Int32} {v_together : Int32} {v_z : Int32} {v_dists : (Nat → Int32)} {v_p1 : (Nat → Int32)} {x2 : Int32} {x3 : Int32} {o : Int32} (h : f_X10_nextStep N x2 x3 v_dists v_p1 = some o) : CT l D yX10_nextStep cX10_nextStep 5 (Option.some FieldType.int) 2 [.ref q_this, .ref q_p1, .int x2, .int x3] (w_X10_nextStep D q_this q_dists q_p1 w_now w_kept w_trial w_refusals w_row w_letters w_left w_steps w_partners w_times w_spliced w_piece w_balances w_prices w_hands w_hand w_dealing v_hasImage v_rows v_lettered v_stepsMany v_splicedMany v_most v_together v_z v_dists v_p1) (w_X10_nextStep D q_this q_dists q_p1 w_now w_kept w_trial w_refusals w_row w_letters w_left w_steps w_partners w_times w_spliced w_piece w_balances w_prices w_hands w_hand w_dealing v_hasImage v_rows v_lettered v_stepsMany v_splicedMany v_most v_together v_z v_dists v_p1) (some (.int o)) := by
  refine CT.of mk_X10_nextStep (Nat.le_of_ble_eq_true rfl) (fun g hl hD C E => ?_)
  subst hl
  subst hD
  unfold f_X10_nextStep at h
  refine j_iload_n C dX10_nextStep_0 rfl ?_
  refine j_iload_n C dX10_nextStep_1 rfl ?_
  refine j_icmp_eq C h 16 dX10_nextStep_2 (by decide) (fun hc h => ?_) (fun hc h => ?_)
  · refine j_bipush C (-9) dX10_nextStep_16 kb_m9 ?_
    have h := Option.some.inj h
    subst h
    exact j_iret C E dX10_nextStep_18
  · refine j_aload_n C dX10_nextStep_5 rfl ?_
    refine j_iload_n C dX10_nextStep_6 rfl ?_
    refine j_iload_n C dX10_nextStep_7 rfl ?_
    obtain ⟨r_dist_1, h_1, h⟩ := of_bind h
    refine j_callV1 C mk_X10_dist ms_X10_dist kw_1168 (c_X10_dist (gl g) (gD g) h_1) (by decide) 0 w_X10_nextStep_g0 rfl [0, 1] (hC_cons w_X10_nextStep_g0 (hC_cons w_X10_nextStep_g1 hC_nil)) rfl (w_X10_dist_a.trans w_X10_dist_a.symm) rfl rfl (Nat.le_of_ble_eq_true rfl) dX10_nextStep_8 (wput_cons w_X10_nextStep_s0 (wput_cons w_X10_nextStep_s1 wput_nil)) ?_
    refine j_ldc C kw_1160 dX10_nextStep_11 ?_
    refine j_icmp_lt C h 19 dX10_nextStep_13 (by decide) (fun hc h => ?_) (fun hc h => ?_)
    · refine j_iconst C (0) dX10_nextStep_19 ki_0 ?_
      refine j_istore C dX10_nextStep_20 (by decide) ?_
      obtain ⟨e_22, hl_22, h⟩ := of_bind h
      have ha_22 : J g (w_X10_nextStep (gD g) q_this q_dists q_p1 w_now w_kept w_trial w_refusals w_row w_letters w_left w_steps w_partners w_times w_spliced w_piece w_balances w_prices w_hands w_hand w_dealing v_hasImage v_rows v_lettered v_stepsMany v_splicedMany v_most v_together v_z v_dists v_p1) [(4, .int (e_22))] 65 [] := by
        refine j_iload C dX10_nextStep_65 rfl ?_
        have h := Option.some.inj h
        subst h
        exact j_iret C E dX10_nextStep_67
      refine j_lv (lv' := [(0, .ref q_this), (1, .ref q_p1), (2, .int (x2)), (3, .int (x3)), (4, .int ((0 : Int32)))]) rfl ?_
      refine lp_ind hl_22 (fun s_22 => J g (w_X10_nextStep (gD g) q_this q_dists q_p1 w_now w_kept w_trial w_refusals w_row w_letters w_left w_steps w_partners w_times w_spliced w_piece w_balances w_prices w_hands w_hand w_dealing v_hasImage v_rows v_lettered v_stepsMany v_splicedMany v_most v_together v_z v_dists v_p1) [(0, .ref q_this), (1, .ref q_p1), (2, .int (x2)), (3, .int (x3)), (4, .int (s_22))] 22 []) (fun s_22 r_22 h hc_22 hx_22 => ?_)
      unfold f_X10_nextStep_b22 at h
      refine j_aload_n C dX10_nextStep_22 rfl ?_
      refine j_iload C dX10_nextStep_23 rfl ?_
      refine j_iload_n C dX10_nextStep_25 rfl ?_
      obtain ⟨r_goes_2, h_2, h⟩ := of_bind h
      refine j_callS1 C mk_X10_goes ms_X10_goes kw_1184 (c_X10_goes (gl g) (gD g) h_2) (by decide) [2] (hC_cons w_X10_nextStep_g2 hC_nil) rfl (w_X10_goes_a.trans w_X10_goes_a.symm) rfl rfl (Nat.le_of_ble_eq_true rfl) dX10_nextStep_26 (wput_cons w_X10_nextStep_s2 wput_nil) ?_
      refine j_if_eq C h 59 dX10_nextStep_29 (by decide) (fun hc h => ?_) (fun hc h => ?_)
      · refine j_inc C (1) dX10_nextStep_59 rfl ki_1 (by decide) ?_
        refine j_goto C 22 dX10_nextStep_62 (by decide) ?_
        have h := Option.some.inj h
        subst h
        have hc9 := hc_22 _ rfl
        exact j_lw hc9 rfl
      · refine j_aload_n C dX10_nextStep_32 rfl ?_
        refine j_iload C dX10_nextStep_33 rfl ?_
        obtain ⟨r_cost_3, h_3, h⟩ := of_bind h
        refine j_callS1 C mk_X10_cost ms_X10_cost kw_1142 (c_X10_cost (gl g) (gD g) h_3) (by decide) [2] (hC_cons w_X10_nextStep_g2 hC_nil) rfl (w_X10_cost_a.trans w_X10_cost_a.symm) rfl rfl (Nat.le_of_ble_eq_true rfl) dX10_nextStep_35 (wput_cons w_X10_nextStep_s2 wput_nil) ?_
        refine j_aload_n C dX10_nextStep_38 rfl ?_
        refine j_aload_n C dX10_nextStep_39 rfl ?_
        refine j_iload C dX10_nextStep_40 rfl ?_
        obtain ⟨r_ends_4, h_4, h⟩ := of_bind h
        refine j_callS1 C mk_X10_ends ms_X10_ends kw_1164 (c_X10_ends (gl g) (gD g) h_4) (by decide) [2] (hC_cons w_X10_nextStep_g2 hC_nil) rfl (w_X10_ends_a.trans w_X10_ends_a.symm) rfl rfl (Nat.le_of_ble_eq_true rfl) dX10_nextStep_42 (wput_cons w_X10_nextStep_s2 wput_nil) ?_
        refine j_iload_n C dX10_nextStep_45 rfl ?_
        obtain ⟨r_dist_5, h_5, h⟩ := of_bind h
        refine j_callV1 C mk_X10_dist ms_X10_dist kw_1168 (c_X10_dist (gl g) (gD g) h_5) (by decide) 0 w_X10_nextStep_g0 rfl [0, 1] (hC_cons w_X10_nextStep_g0 (hC_cons w_X10_nextStep_g1 hC_nil)) rfl (w_X10_dist_a.trans w_X10_dist_a.symm) rfl rfl (Nat.le_of_ble_eq_true rfl) dX10_nextStep_46 (wput_cons w_X10_nextStep_s0 (wput_cons w_X10_nextStep_s1 wput_nil)) ?_
        refine j_iadd C dX10_nextStep_49 ?_
        refine j_aload_n C dX10_nextStep_50 rfl ?_
        refine j_iload_n C dX10_nextStep_51 rfl ?_
        refine j_iload_n C dX10_nextStep_52 rfl ?_
        obtain ⟨r_dist_6, h_6, h⟩ := of_bind h
        refine j_callV1 C mk_X10_dist ms_X10_dist kw_1168 (c_X10_dist (gl g) (gD g) h_6) (by decide) 0 w_X10_nextStep_g0 rfl [0, 1] (hC_cons w_X10_nextStep_g0 (hC_cons w_X10_nextStep_g1 hC_nil)) rfl (w_X10_dist_a.trans w_X10_dist_a.symm) rfl rfl (Nat.le_of_ble_eq_true rfl) dX10_nextStep_53 (wput_cons w_X10_nextStep_s0 (wput_cons w_X10_nextStep_s1 wput_nil)) ?_
        refine j_icmp_eq C h 65 dX10_nextStep_56 (by decide) (fun hc h => ?_) (fun hc h => ?_)
        · have h := Option.some.inj h
          subst h
          have h9 := hx_22 _ rfl
          subst h9
          exact j_lw ha_22 rfl
        · refine j_inc C (1) dX10_nextStep_59 rfl ki_1 (by decide) ?_
          refine j_goto C 22 dX10_nextStep_62 (by decide) ?_
          have h := Option.some.inj h
          subst h
          have hc9 := hc_22 _ rfl
          exact j_lw hc9 rfl
    · refine j_bipush C (-9) dX10_nextStep_16 kb_m9 ?_
      have h := Option.some.inj h
      subst h
      exact j_iret C E dX10_nextStep_18

def w_X10_leaves (D : va_G) (q_this q_left q_p1 : Nat) (w_now w_kept w_trial w_refusals w_row w_letters w_dists w_steps w_partners w_times w_spliced w_piece w_balances w_prices w_hands w_hand w_dealing : Value) (v_hasImage : Int32) (v_rows : Int32) (v_lettered : Int32) (v_stepsMany : Int32) (v_splicedMany : Int32) (v_most : Int32) (v_together : Int32) (v_z : Int32) (v_left : (Nat → Int32)) (v_p1 : (Nat → Int32)) : va_W := [(q_this, .inr (9, [w_now, w_kept, w_trial, .int v_hasImage, w_refusals, w_row, .int v_rows, w_letters, .int v_lettered, w_dists, .ref q_left, w_steps, .int v_stepsMany, w_partners, w_times, w_spliced, .int v_splicedMany, w_piece, w_balances, w_prices, w_hands, w_hand, w_dealing, .int v_most, .int v_together, .int v_z])), (q_left, .inl (D.1 100, 1536, .inl v_left)), (q_p1, .inl (D.1 100, 50, .inl v_p1))]
theorem w_X10_leaves_g0 {D : va_G} {q_this : Nat} {q_left : Nat} {q_p1 : Nat} {w_now : Value} {w_kept : Value} {w_trial : Value} {w_refusals : Value} {w_row : Value} {w_letters : Value} {w_dists : Value} {w_steps : Value} {w_partners : Value} {w_times : Value} {w_spliced : Value} {w_piece : Value} {w_balances : Value} {w_prices : Value} {w_hands : Value} {w_hand : Value} {w_dealing : Value} {v_hasImage : Int32} {v_rows : Int32} {v_lettered : Int32} {v_stepsMany : Int32} {v_splicedMany : Int32} {v_most : Int32} {v_together : Int32} {v_z : Int32} {v_left : (Nat → Int32)} {v_p1 : (Nat → Int32)} : (w_X10_leaves D q_this q_left q_p1 w_now w_kept w_trial w_refusals w_row w_letters w_dists w_steps w_partners w_times w_spliced w_piece w_balances w_prices w_hands w_hand w_dealing v_hasImage v_rows v_lettered v_stepsMany v_splicedMany v_most v_together v_z v_left v_p1)[0]? = some (q_this, .inr (9, [w_now, w_kept, w_trial, .int v_hasImage, w_refusals, w_row, .int v_rows, w_letters, .int v_lettered, w_dists, .ref q_left, w_steps, .int v_stepsMany, w_partners, w_times, w_spliced, .int v_splicedMany, w_piece, w_balances, w_prices, w_hands, w_hand, w_dealing, .int v_most, .int v_together, .int v_z])) := rfl
theorem w_X10_leaves_s0 {D : va_G} {q_this : Nat} {q_left : Nat} {q_p1 : Nat} {w_now : Value} {w_kept : Value} {w_trial : Value} {w_refusals : Value} {w_row : Value} {w_letters : Value} {w_dists : Value} {w_steps : Value} {w_partners : Value} {w_times : Value} {w_spliced : Value} {w_piece : Value} {w_balances : Value} {w_prices : Value} {w_hands : Value} {w_hand : Value} {w_dealing : Value} {v_hasImage : Int32} {v_rows : Int32} {v_lettered : Int32} {v_stepsMany : Int32} {v_splicedMany : Int32} {v_most : Int32} {v_together : Int32} {v_z : Int32} {v_left : (Nat → Int32)} {v_p1 : (Nat → Int32)} {v_hasImage' : Int32} {v_rows' : Int32} {v_lettered' : Int32} {v_stepsMany' : Int32} {v_splicedMany' : Int32} {v_most' : Int32} {v_together' : Int32} {v_z' : Int32} : (w_X10_leaves D q_this q_left q_p1 w_now w_kept w_trial w_refusals w_row w_letters w_dists w_steps w_partners w_times w_spliced w_piece w_balances w_prices w_hands w_hand w_dealing v_hasImage v_rows v_lettered v_stepsMany v_splicedMany v_most v_together v_z v_left v_p1).set 0 (q_this, .inr (9, [w_now, w_kept, w_trial, .int v_hasImage', w_refusals, w_row, .int v_rows', w_letters, .int v_lettered', w_dists, .ref q_left, w_steps, .int v_stepsMany', w_partners, w_times, w_spliced, .int v_splicedMany', w_piece, w_balances, w_prices, w_hands, w_hand, w_dealing, .int v_most', .int v_together', .int v_z'])) = (w_X10_leaves D q_this q_left q_p1 w_now w_kept w_trial w_refusals w_row w_letters w_dists w_steps w_partners w_times w_spliced w_piece w_balances w_prices w_hands w_hand w_dealing v_hasImage' v_rows' v_lettered' v_stepsMany' v_splicedMany' v_most' v_together' v_z' v_left v_p1) := rfl
theorem w_X10_leaves_g1 {D : va_G} {q_this : Nat} {q_left : Nat} {q_p1 : Nat} {w_now : Value} {w_kept : Value} {w_trial : Value} {w_refusals : Value} {w_row : Value} {w_letters : Value} {w_dists : Value} {w_steps : Value} {w_partners : Value} {w_times : Value} {w_spliced : Value} {w_piece : Value} {w_balances : Value} {w_prices : Value} {w_hands : Value} {w_hand : Value} {w_dealing : Value} {v_hasImage : Int32} {v_rows : Int32} {v_lettered : Int32} {v_stepsMany : Int32} {v_splicedMany : Int32} {v_most : Int32} {v_together : Int32} {v_z : Int32} {v_left : (Nat → Int32)} {v_p1 : (Nat → Int32)} : (w_X10_leaves D q_this q_left q_p1 w_now w_kept w_trial w_refusals w_row w_letters w_dists w_steps w_partners w_times w_spliced w_piece w_balances w_prices w_hands w_hand w_dealing v_hasImage v_rows v_lettered v_stepsMany v_splicedMany v_most v_together v_z v_left v_p1)[1]? = some (q_left, .inl (D.1 100, 1536, .inl v_left)) := rfl
theorem w_X10_leaves_s1 {D : va_G} {q_this : Nat} {q_left : Nat} {q_p1 : Nat} {w_now : Value} {w_kept : Value} {w_trial : Value} {w_refusals : Value} {w_row : Value} {w_letters : Value} {w_dists : Value} {w_steps : Value} {w_partners : Value} {w_times : Value} {w_spliced : Value} {w_piece : Value} {w_balances : Value} {w_prices : Value} {w_hands : Value} {w_hand : Value} {w_dealing : Value} {v_hasImage : Int32} {v_rows : Int32} {v_lettered : Int32} {v_stepsMany : Int32} {v_splicedMany : Int32} {v_most : Int32} {v_together : Int32} {v_z : Int32} {v_left : (Nat → Int32)} {v_p1 : (Nat → Int32)} {v_left' : (Nat → Int32)} : (w_X10_leaves D q_this q_left q_p1 w_now w_kept w_trial w_refusals w_row w_letters w_dists w_steps w_partners w_times w_spliced w_piece w_balances w_prices w_hands w_hand w_dealing v_hasImage v_rows v_lettered v_stepsMany v_splicedMany v_most v_together v_z v_left v_p1).set 1 (q_left, .inl (D.1 100, 1536, .inl v_left')) = (w_X10_leaves D q_this q_left q_p1 w_now w_kept w_trial w_refusals w_row w_letters w_dists w_steps w_partners w_times w_spliced w_piece w_balances w_prices w_hands w_hand w_dealing v_hasImage v_rows v_lettered v_stepsMany v_splicedMany v_most v_together v_z v_left' v_p1) := rfl
theorem w_X10_leaves_g2 {D : va_G} {q_this : Nat} {q_left : Nat} {q_p1 : Nat} {w_now : Value} {w_kept : Value} {w_trial : Value} {w_refusals : Value} {w_row : Value} {w_letters : Value} {w_dists : Value} {w_steps : Value} {w_partners : Value} {w_times : Value} {w_spliced : Value} {w_piece : Value} {w_balances : Value} {w_prices : Value} {w_hands : Value} {w_hand : Value} {w_dealing : Value} {v_hasImage : Int32} {v_rows : Int32} {v_lettered : Int32} {v_stepsMany : Int32} {v_splicedMany : Int32} {v_most : Int32} {v_together : Int32} {v_z : Int32} {v_left : (Nat → Int32)} {v_p1 : (Nat → Int32)} : (w_X10_leaves D q_this q_left q_p1 w_now w_kept w_trial w_refusals w_row w_letters w_dists w_steps w_partners w_times w_spliced w_piece w_balances w_prices w_hands w_hand w_dealing v_hasImage v_rows v_lettered v_stepsMany v_splicedMany v_most v_together v_z v_left v_p1)[2]? = some (q_p1, .inl (D.1 100, 50, .inl v_p1)) := rfl
theorem w_X10_leaves_s2 {D : va_G} {q_this : Nat} {q_left : Nat} {q_p1 : Nat} {w_now : Value} {w_kept : Value} {w_trial : Value} {w_refusals : Value} {w_row : Value} {w_letters : Value} {w_dists : Value} {w_steps : Value} {w_partners : Value} {w_times : Value} {w_spliced : Value} {w_piece : Value} {w_balances : Value} {w_prices : Value} {w_hands : Value} {w_hand : Value} {w_dealing : Value} {v_hasImage : Int32} {v_rows : Int32} {v_lettered : Int32} {v_stepsMany : Int32} {v_splicedMany : Int32} {v_most : Int32} {v_together : Int32} {v_z : Int32} {v_left : (Nat → Int32)} {v_p1 : (Nat → Int32)} {v_p1' : (Nat → Int32)} : (w_X10_leaves D q_this q_left q_p1 w_now w_kept w_trial w_refusals w_row w_letters w_dists w_steps w_partners w_times w_spliced w_piece w_balances w_prices w_hands w_hand w_dealing v_hasImage v_rows v_lettered v_stepsMany v_splicedMany v_most v_together v_z v_left v_p1).set 2 (q_p1, .inl (D.1 100, 50, .inl v_p1')) = (w_X10_leaves D q_this q_left q_p1 w_now w_kept w_trial w_refusals w_row w_letters w_dists w_steps w_partners w_times w_spliced w_piece w_balances w_prices w_hands w_hand w_dealing v_hasImage v_rows v_lettered v_stepsMany v_splicedMany v_most v_together v_z v_left v_p1') := rfl
theorem w_X10_leaves_a {D : va_G} {q_this : Nat} {q_left : Nat} {q_p1 : Nat} {w_now : Value} {w_kept : Value} {w_trial : Value} {w_refusals : Value} {w_row : Value} {w_letters : Value} {w_dists : Value} {w_steps : Value} {w_partners : Value} {w_times : Value} {w_spliced : Value} {w_piece : Value} {w_balances : Value} {w_prices : Value} {w_hands : Value} {w_hand : Value} {w_dealing : Value} {v_hasImage : Int32} {v_rows : Int32} {v_lettered : Int32} {v_stepsMany : Int32} {v_splicedMany : Int32} {v_most : Int32} {v_together : Int32} {v_z : Int32} {v_left : (Nat → Int32)} {v_p1 : (Nat → Int32)} : (w_X10_leaves D q_this q_left q_p1 w_now w_kept w_trial w_refusals w_row w_letters w_dists w_steps w_partners w_times w_spliced w_piece w_balances w_prices w_hands w_hand w_dealing v_hasImage v_rows v_lettered v_stepsMany v_splicedMany v_most v_together v_z v_left v_p1).map (fun q => q.1) = [q_this, q_left, q_p1] := rfl
def f_X10_leaves (x2 : Int32) (x3 : Int32) (x4 : Int32) (v_left : (Nat → Int32)) (v_p1 : (Nat → Int32)) : Option Int32 :=
  (f_X10_cost x4 v_p1).bind (fun r_cost_1 => (f_X10_ends x4 v_p1).bind (fun r_ends_2 => ga (((6 : Int32) * (x3 ||| (x2 &&& ((1 : Int32) <<< ((x4 / (2 : Int32)) &&& 31))))) + r_ends_2) 1536 (some (r_cost_1 + (v_left (Int32.toNatClampNeg (((6 : Int32) * (x3 ||| (x2 &&& ((1 : Int32) <<< ((x4 / (2 : Int32)) &&& 31))))) + r_ends_2)))))))
set_option maxRecDepth 100000 in
set_option maxHeartbeats 4000000 in
theorem c_X10_leaves (l : Launch) (D : va_G) {q_this q_left q_p1 : Nat} {w_now w_kept w_trial w_refusals w_row w_letters w_dists w_steps w_partners w_times w_spliced w_piece w_balances w_prices w_hands w_hand w_dealing : Value} {v_hasImage : Int32} {v_rows : Int32} {v_lettered : Int32} {v_stepsMany : Int32} {v_splicedMany : Int32} {v_most : Int32} {v_together : Int32} {v_z : Int32} {v_left : (Nat → Int32)} {v_p1 : (Nat → Int32)} {x2 : Int32} {x3 : Int32} {x4 : Int32} {o : Int32} (h : f_X10_leaves x2 x3 x4 v_left v_p1 = some o) : CT l D yX10_leaves cX10_leaves 6 (Option.some FieldType.int) 1 [.ref q_this, .ref q_p1, .int x2, .int x3, .int x4] (w_X10_leaves D q_this q_left q_p1 w_now w_kept w_trial w_refusals w_row w_letters w_dists w_steps w_partners w_times w_spliced w_piece w_balances w_prices w_hands w_hand w_dealing v_hasImage v_rows v_lettered v_stepsMany v_splicedMany v_most v_together v_z v_left v_p1) (w_X10_leaves D q_this q_left q_p1 w_now w_kept w_trial w_refusals w_row w_letters w_dists w_steps w_partners w_times w_spliced w_piece w_balances w_prices w_hands w_hand w_dealing v_hasImage v_rows v_lettered v_stepsMany v_splicedMany v_most v_together v_z v_left v_p1) (some (.int o)) := by
  refine CT.of mk_X10_leaves (Nat.le_of_ble_eq_true rfl) (fun g hl hD C E => ?_)
  subst hl
  subst hD
  unfold f_X10_leaves at h
  refine j_iload_n C dX10_leaves_0 rfl ?_
  refine j_iload_n C dX10_leaves_1 rfl ?_
  refine j_iconst C (1) dX10_leaves_2 ki_1 ?_
  refine j_iload C dX10_leaves_3 rfl ?_
  refine j_iconst C (2) dX10_leaves_5 ki_2 ?_
  refine j_idivc C (by decide) dX10_leaves_6 ?_
  refine j_ishl C dX10_leaves_7 ?_
  refine j_iand C dX10_leaves_8 ?_
  refine j_ior C dX10_leaves_9 ?_
  refine j_istore C dX10_leaves_10 (by decide) ?_
  refine j_aload_n C dX10_leaves_12 rfl ?_
  refine j_iload C dX10_leaves_13 rfl ?_
  obtain ⟨r_cost_1, h_1, h⟩ := of_bind h
  refine j_callS1 C mk_X10_cost ms_X10_cost kw_1142 (c_X10_cost (gl g) (gD g) h_1) (by decide) [2] (hC_cons w_X10_leaves_g2 hC_nil) rfl (w_X10_cost_a.trans w_X10_cost_a.symm) rfl rfl (Nat.le_of_ble_eq_true rfl) dX10_leaves_15 (wput_cons w_X10_leaves_s2 wput_nil) ?_
  refine j_aload_n C dX10_leaves_18 rfl ?_
  refine j_get C 0 w_X10_leaves_g0 rfl inX10 10 (by decide) kw_991 rfl rfl dX10_leaves_19 ?_
  refine j_bipush C (6) dX10_leaves_22 kb_6 ?_
  refine j_iload C dX10_leaves_24 rfl ?_
  refine j_imul C dX10_leaves_26 ?_
  refine j_aload_n C dX10_leaves_27 rfl ?_
  refine j_iload C dX10_leaves_28 rfl ?_
  obtain ⟨r_ends_2, h_2, h⟩ := of_bind h
  refine j_callS1 C mk_X10_ends ms_X10_ends kw_1164 (c_X10_ends (gl g) (gD g) h_2) (by decide) [2] (hC_cons w_X10_leaves_g2 hC_nil) rfl (w_X10_ends_a.trans w_X10_ends_a.symm) rfl rfl (Nat.le_of_ble_eq_true rfl) dX10_leaves_30 (wput_cons w_X10_leaves_s2 wput_nil) ?_
  refine j_iadd C dX10_leaves_33 ?_
  refine j_iaload 1 C h w_X10_leaves_g1 rfl dX10_leaves_34 (fun h => ?_)
  refine j_iadd C dX10_leaves_35 ?_
  have h := Option.some.inj h
  subst h
  exact j_iret C E dX10_leaves_36

def w_X10_fillsSet (D : va_G) (q_this q_left q_p1 : Nat) (w_now w_kept w_trial w_refusals w_row w_letters w_dists w_steps w_partners w_times w_spliced w_piece w_balances w_prices w_hands w_hand w_dealing : Value) (v_hasImage : Int32) (v_rows : Int32) (v_lettered : Int32) (v_stepsMany : Int32) (v_splicedMany : Int32) (v_most : Int32) (v_together : Int32) (v_z : Int32) (v_left : (Nat → Int32)) (v_p1 : (Nat → Int32)) : va_W := [(q_this, .inr (9, [w_now, w_kept, w_trial, .int v_hasImage, w_refusals, w_row, .int v_rows, w_letters, .int v_lettered, w_dists, .ref q_left, w_steps, .int v_stepsMany, w_partners, w_times, w_spliced, .int v_splicedMany, w_piece, w_balances, w_prices, w_hands, w_hand, w_dealing, .int v_most, .int v_together, .int v_z])), (q_left, .inl (D.1 100, 1536, .inl v_left)), (q_p1, .inl (D.1 100, 50, .inl v_p1))]
theorem w_X10_fillsSet_g0 {D : va_G} {q_this : Nat} {q_left : Nat} {q_p1 : Nat} {w_now : Value} {w_kept : Value} {w_trial : Value} {w_refusals : Value} {w_row : Value} {w_letters : Value} {w_dists : Value} {w_steps : Value} {w_partners : Value} {w_times : Value} {w_spliced : Value} {w_piece : Value} {w_balances : Value} {w_prices : Value} {w_hands : Value} {w_hand : Value} {w_dealing : Value} {v_hasImage : Int32} {v_rows : Int32} {v_lettered : Int32} {v_stepsMany : Int32} {v_splicedMany : Int32} {v_most : Int32} {v_together : Int32} {v_z : Int32} {v_left : (Nat → Int32)} {v_p1 : (Nat → Int32)} : (w_X10_fillsSet D q_this q_left q_p1 w_now w_kept w_trial w_refusals w_row w_letters w_dists w_steps w_partners w_times w_spliced w_piece w_balances w_prices w_hands w_hand w_dealing v_hasImage v_rows v_lettered v_stepsMany v_splicedMany v_most v_together v_z v_left v_p1)[0]? = some (q_this, .inr (9, [w_now, w_kept, w_trial, .int v_hasImage, w_refusals, w_row, .int v_rows, w_letters, .int v_lettered, w_dists, .ref q_left, w_steps, .int v_stepsMany, w_partners, w_times, w_spliced, .int v_splicedMany, w_piece, w_balances, w_prices, w_hands, w_hand, w_dealing, .int v_most, .int v_together, .int v_z])) := rfl
theorem w_X10_fillsSet_s0 {D : va_G} {q_this : Nat} {q_left : Nat} {q_p1 : Nat} {w_now : Value} {w_kept : Value} {w_trial : Value} {w_refusals : Value} {w_row : Value} {w_letters : Value} {w_dists : Value} {w_steps : Value} {w_partners : Value} {w_times : Value} {w_spliced : Value} {w_piece : Value} {w_balances : Value} {w_prices : Value} {w_hands : Value} {w_hand : Value} {w_dealing : Value} {v_hasImage : Int32} {v_rows : Int32} {v_lettered : Int32} {v_stepsMany : Int32} {v_splicedMany : Int32} {v_most : Int32} {v_together : Int32} {v_z : Int32} {v_left : (Nat → Int32)} {v_p1 : (Nat → Int32)} {v_hasImage' : Int32} {v_rows' : Int32} {v_lettered' : Int32} {v_stepsMany' : Int32} {v_splicedMany' : Int32} {v_most' : Int32} {v_together' : Int32} {v_z' : Int32} : (w_X10_fillsSet D q_this q_left q_p1 w_now w_kept w_trial w_refusals w_row w_letters w_dists w_steps w_partners w_times w_spliced w_piece w_balances w_prices w_hands w_hand w_dealing v_hasImage v_rows v_lettered v_stepsMany v_splicedMany v_most v_together v_z v_left v_p1).set 0 (q_this, .inr (9, [w_now, w_kept, w_trial, .int v_hasImage', w_refusals, w_row, .int v_rows', w_letters, .int v_lettered', w_dists, .ref q_left, w_steps, .int v_stepsMany', w_partners, w_times, w_spliced, .int v_splicedMany', w_piece, w_balances, w_prices, w_hands, w_hand, w_dealing, .int v_most', .int v_together', .int v_z'])) = (w_X10_fillsSet D q_this q_left q_p1 w_now w_kept w_trial w_refusals w_row w_letters w_dists w_steps w_partners w_times w_spliced w_piece w_balances w_prices w_hands w_hand w_dealing v_hasImage' v_rows' v_lettered' v_stepsMany' v_splicedMany' v_most' v_together' v_z' v_left v_p1) := rfl
theorem w_X10_fillsSet_g1 {D : va_G} {q_this : Nat} {q_left : Nat} {q_p1 : Nat} {w_now : Value} {w_kept : Value} {w_trial : Value} {w_refusals : Value} {w_row : Value} {w_letters : Value} {w_dists : Value} {w_steps : Value} {w_partners : Value} {w_times : Value} {w_spliced : Value} {w_piece : Value} {w_balances : Value} {w_prices : Value} {w_hands : Value} {w_hand : Value} {w_dealing : Value} {v_hasImage : Int32} {v_rows : Int32} {v_lettered : Int32} {v_stepsMany : Int32} {v_splicedMany : Int32} {v_most : Int32} {v_together : Int32} {v_z : Int32} {v_left : (Nat → Int32)} {v_p1 : (Nat → Int32)} : (w_X10_fillsSet D q_this q_left q_p1 w_now w_kept w_trial w_refusals w_row w_letters w_dists w_steps w_partners w_times w_spliced w_piece w_balances w_prices w_hands w_hand w_dealing v_hasImage v_rows v_lettered v_stepsMany v_splicedMany v_most v_together v_z v_left v_p1)[1]? = some (q_left, .inl (D.1 100, 1536, .inl v_left)) := rfl
theorem w_X10_fillsSet_s1 {D : va_G} {q_this : Nat} {q_left : Nat} {q_p1 : Nat} {w_now : Value} {w_kept : Value} {w_trial : Value} {w_refusals : Value} {w_row : Value} {w_letters : Value} {w_dists : Value} {w_steps : Value} {w_partners : Value} {w_times : Value} {w_spliced : Value} {w_piece : Value} {w_balances : Value} {w_prices : Value} {w_hands : Value} {w_hand : Value} {w_dealing : Value} {v_hasImage : Int32} {v_rows : Int32} {v_lettered : Int32} {v_stepsMany : Int32} {v_splicedMany : Int32} {v_most : Int32} {v_together : Int32} {v_z : Int32} {v_left : (Nat → Int32)} {v_p1 : (Nat → Int32)} {v_left' : (Nat → Int32)} : (w_X10_fillsSet D q_this q_left q_p1 w_now w_kept w_trial w_refusals w_row w_letters w_dists w_steps w_partners w_times w_spliced w_piece w_balances w_prices w_hands w_hand w_dealing v_hasImage v_rows v_lettered v_stepsMany v_splicedMany v_most v_together v_z v_left v_p1).set 1 (q_left, .inl (D.1 100, 1536, .inl v_left')) = (w_X10_fillsSet D q_this q_left q_p1 w_now w_kept w_trial w_refusals w_row w_letters w_dists w_steps w_partners w_times w_spliced w_piece w_balances w_prices w_hands w_hand w_dealing v_hasImage v_rows v_lettered v_stepsMany v_splicedMany v_most v_together v_z v_left' v_p1) := rfl
theorem w_X10_fillsSet_g2 {D : va_G} {q_this : Nat} {q_left : Nat} {q_p1 : Nat} {w_now : Value} {w_kept : Value} {w_trial : Value} {w_refusals : Value} {w_row : Value} {w_letters : Value} {w_dists : Value} {w_steps : Value} {w_partners : Value} {w_times : Value} {w_spliced : Value} {w_piece : Value} {w_balances : Value} {w_prices : Value} {w_hands : Value} {w_hand : Value} {w_dealing : Value} {v_hasImage : Int32} {v_rows : Int32} {v_lettered : Int32} {v_stepsMany : Int32} {v_splicedMany : Int32} {v_most : Int32} {v_together : Int32} {v_z : Int32} {v_left : (Nat → Int32)} {v_p1 : (Nat → Int32)} : (w_X10_fillsSet D q_this q_left q_p1 w_now w_kept w_trial w_refusals w_row w_letters w_dists w_steps w_partners w_times w_spliced w_piece w_balances w_prices w_hands w_hand w_dealing v_hasImage v_rows v_lettered v_stepsMany v_splicedMany v_most v_together v_z v_left v_p1)[2]? = some (q_p1, .inl (D.1 100, 50, .inl v_p1)) := rfl
theorem w_X10_fillsSet_s2 {D : va_G} {q_this : Nat} {q_left : Nat} {q_p1 : Nat} {w_now : Value} {w_kept : Value} {w_trial : Value} {w_refusals : Value} {w_row : Value} {w_letters : Value} {w_dists : Value} {w_steps : Value} {w_partners : Value} {w_times : Value} {w_spliced : Value} {w_piece : Value} {w_balances : Value} {w_prices : Value} {w_hands : Value} {w_hand : Value} {w_dealing : Value} {v_hasImage : Int32} {v_rows : Int32} {v_lettered : Int32} {v_stepsMany : Int32} {v_splicedMany : Int32} {v_most : Int32} {v_together : Int32} {v_z : Int32} {v_left : (Nat → Int32)} {v_p1 : (Nat → Int32)} {v_p1' : (Nat → Int32)} : (w_X10_fillsSet D q_this q_left q_p1 w_now w_kept w_trial w_refusals w_row w_letters w_dists w_steps w_partners w_times w_spliced w_piece w_balances w_prices w_hands w_hand w_dealing v_hasImage v_rows v_lettered v_stepsMany v_splicedMany v_most v_together v_z v_left v_p1).set 2 (q_p1, .inl (D.1 100, 50, .inl v_p1')) = (w_X10_fillsSet D q_this q_left q_p1 w_now w_kept w_trial w_refusals w_row w_letters w_dists w_steps w_partners w_times w_spliced w_piece w_balances w_prices w_hands w_hand w_dealing v_hasImage v_rows v_lettered v_stepsMany v_splicedMany v_most v_together v_z v_left v_p1') := rfl
theorem w_X10_fillsSet_a {D : va_G} {q_this : Nat} {q_left : Nat} {q_p1 : Nat} {w_now : Value} {w_kept : Value} {w_trial : Value} {w_refusals : Value} {w_row : Value} {w_letters : Value} {w_dists : Value} {w_steps : Value} {w_partners : Value} {w_times : Value} {w_spliced : Value} {w_piece : Value} {w_balances : Value} {w_prices : Value} {w_hands : Value} {w_hand : Value} {w_dealing : Value} {v_hasImage : Int32} {v_rows : Int32} {v_lettered : Int32} {v_stepsMany : Int32} {v_splicedMany : Int32} {v_most : Int32} {v_together : Int32} {v_z : Int32} {v_left : (Nat → Int32)} {v_p1 : (Nat → Int32)} : (w_X10_fillsSet D q_this q_left q_p1 w_now w_kept w_trial w_refusals w_row w_letters w_dists w_steps w_partners w_times w_spliced w_piece w_balances w_prices w_hands w_hand w_dealing v_hasImage v_rows v_lettered v_stepsMany v_splicedMany v_most v_together v_z v_left v_p1).map (fun q => q.1) = [q_this, q_left, q_p1] := rfl
def f_X10_fillsSet_b3 (x5_3 : Int32) (v_left_3 : (Nat → Int32)) (x3 : Int32) (x2 : Int32) (x4 : Int32) : Option ((Int32 × (Nat → Int32)) ⊕ (Nat → Int32)) :=
  (if (6 : Int32) ≤ x5_3 then some (.inr v_left_3) else ga (((6 : Int32) * x3) + x5_3) 1536 (some (.inl (x5_3 + (1 : Int32), upd v_left_3 (Int32.toNatClampNeg (((6 : Int32) * x3) + x5_3)) (if x3 = x2 then (if x5_3 = x4 then (0 : Int32) else (1000000 : Int32)) else (1000000 : Int32))))))
def f_X10_fillsSet_b60 (v_p1 : (Nat → Int32)) (x6_60 : Int32) (x5_60 : Int32) (v_left_60 : (Nat → Int32)) (x2 : Int32) (x3 : Int32) : Option ((Int32 × Int32 × (Nat → Int32)) ⊕ (Int32 × (Nat → Int32))) :=
  ga (49 : Int32) 50 ((if ((2 : Int32) * (v_p1 (Int32.toNatClampNeg (49 : Int32)))) ≤ x6_60 then some (.inr (x5_60, v_left_60)) else (f_X10_cost x6_60 v_p1).bind (fun r_cost_2 => (if 0 ≤ r_cost_2 then (f_X10_begins x6_60 v_p1).bind (fun r_begins_3 => (f_X10_leaves x2 x3 x6_60 v_left_60 v_p1).bind (fun r_leaves_4 => ga (((6 : Int32) * x3) + r_begins_3) 1536 ((if (v_left_60 (Int32.toNatClampNeg (((6 : Int32) * x3) + r_begins_3))) ≤ r_leaves_4 then some (.inl (x5_60, x6_60 + (1 : Int32), v_left_60)) else ga (((6 : Int32) * x3) + r_begins_3) 1536 (some (.inl ((1 : Int32), x6_60 + (1 : Int32), upd v_left_60 (Int32.toNatClampNeg (((6 : Int32) * x3) + r_begins_3)) r_leaves_4))))))) else some (.inl (x5_60, x6_60 + (1 : Int32), v_left_60))))))
def f_X10_fillsSet_b49 (N : Nat) (x5_49 : Int32) (v_left_49 : (Nat → Int32)) (v_p1 : (Nat → Int32)) (x2 : Int32) (x3 : Int32) : Option ((Int32 × (Nat → Int32)) ⊕ (Nat → Int32)) :=
  (if x5_49 = 0 then some (.inr v_left_49) else (lp (fun s_60 => f_X10_fillsSet_b60 v_p1 s_60.2.1 s_60.1 s_60.2.2 x2 x3) N ((0 : Int32), (0 : Int32), v_left_49)).bind (fun e_60 => some (.inl (e_60.1, e_60.2))))
def f_X10_fillsSet (N : Nat) (x2 : Int32) (x3 : Int32) (x4 : Int32) (v_left : (Nat → Int32)) (v_p1 : (Nat → Int32)) : Option (Nat → Int32) :=
  (lp (fun s_3 => f_X10_fillsSet_b3 s_3.1 s_3.2 x3 x2 x4) N ((0 : Int32), v_left)).bind (fun e_3 => (lp (fun s_49 => f_X10_fillsSet_b49 N s_49.1 s_49.2 v_p1 x2 x3) N ((1 : Int32), e_3)).bind (fun e_49 => some e_49))
set_option maxRecDepth 100000 in
set_option maxHeartbeats 4000000 in
theorem c_X10_fillsSet (l : Launch) (D : va_G) (N : Nat) {q_this q_left q_p1 : Nat} {w_now w_kept w_trial w_refusals w_row w_letters w_dists w_steps w_partners w_times w_spliced w_piece w_balances w_prices w_hands w_hand w_dealing : Value} {v_hasImage : Int32} {v_rows : Int32} {v_lettered : Int32} {v_stepsMany : Int32} {v_splicedMany : Int32} {v_most : Int32} {v_together : Int32} {v_z : Int32} {v_left : (Nat → Int32)} {v_p1 : (Nat → Int32)} {x2 : Int32} {x3 : Int32} {x4 : Int32} {o : (Nat → Int32)} (h : f_X10_fillsSet N x2 x3 x4 v_left v_p1 = some o) : CT l D yX10_fillsSet cX10_fillsSet 9 (Option.none : Option FieldType) 2 [.ref q_this, .ref q_p1, .int x2, .int x3, .int x4] (w_X10_fillsSet D q_this q_left q_p1 w_now w_kept w_trial w_refusals w_row w_letters w_dists w_steps w_partners w_times w_spliced w_piece w_balances w_prices w_hands w_hand w_dealing v_hasImage v_rows v_lettered v_stepsMany v_splicedMany v_most v_together v_z v_left v_p1) (w_X10_fillsSet D q_this q_left q_p1 w_now w_kept w_trial w_refusals w_row w_letters w_dists w_steps w_partners w_times w_spliced w_piece w_balances w_prices w_hands w_hand w_dealing v_hasImage v_rows v_lettered v_stepsMany v_splicedMany v_most v_together v_z o v_p1) (none) := by
  refine CT.of mk_X10_fillsSet (Nat.le_of_ble_eq_true rfl) (fun g hl hD C E => ?_)
  subst hl
  subst hD
  unfold f_X10_fillsSet at h
  refine j_iconst C (0) dX10_fillsSet_0 ki_0 ?_
  refine j_istore C dX10_fillsSet_1 (by decide) ?_
  obtain ⟨e_3, hl_3, h⟩ := of_bind h
  have ha_3 : J g (w_X10_fillsSet (gD g) q_this q_left q_p1 w_now w_kept w_trial w_refusals w_row w_letters w_dists w_steps w_partners w_times w_spliced w_piece w_balances w_prices w_hands w_hand w_dealing v_hasImage v_rows v_lettered v_stepsMany v_splicedMany v_most v_together v_z e_3 v_p1) [(0, .ref q_this), (1, .ref q_p1), (2, .int (x2)), (3, .int (x3))] 46 [] := by
    refine j_iconst C (1) dX10_fillsSet_46 ki_1 ?_
    refine j_istore C dX10_fillsSet_47 (by decide) ?_
    obtain ⟨e_49, hl_49, h⟩ := of_bind h
    have ha_49 : J g (w_X10_fillsSet (gD g) q_this q_left q_p1 w_now w_kept w_trial w_refusals w_row w_letters w_dists w_steps w_partners w_times w_spliced w_piece w_balances w_prices w_hands w_hand w_dealing v_hasImage v_rows v_lettered v_stepsMany v_splicedMany v_most v_together v_z e_49 v_p1) [] 140 [] := by
      have h := Option.some.inj h
      subst h
      exact j_vret C E dX10_fillsSet_140
    refine j_lv (lv' := [(0, .ref q_this), (1, .ref q_p1), (2, .int (x2)), (3, .int (x3)), (5, .int ((1 : Int32)))]) rfl ?_
    refine lp_ind hl_49 (fun s_49 => J g (w_X10_fillsSet (gD g) q_this q_left q_p1 w_now w_kept w_trial w_refusals w_row w_letters w_dists w_steps w_partners w_times w_spliced w_piece w_balances w_prices w_hands w_hand w_dealing v_hasImage v_rows v_lettered v_stepsMany v_splicedMany v_most v_together v_z s_49.2 v_p1) [(0, .ref q_this), (1, .ref q_p1), (2, .int (x2)), (3, .int (x3)), (5, .int (s_49.1))] 49 []) (fun s_49 r_49 h hc_49 hx_49 => ?_)
    unfold f_X10_fillsSet_b49 at h
    refine j_iload C dX10_fillsSet_49 rfl ?_
    refine j_if_eq C h 140 dX10_fillsSet_51 (by decide) (fun hc h => ?_) (fun hc h => ?_)
    · have h := Option.some.inj h
      subst h
      have h9 := hx_49 _ rfl
      subst h9
      exact j_lw ha_49 rfl
    · refine j_iconst C (0) dX10_fillsSet_54 ki_0 ?_
      refine j_istore C dX10_fillsSet_55 (by decide) ?_
      refine j_iconst C (0) dX10_fillsSet_57 ki_0 ?_
      refine j_istore C dX10_fillsSet_58 (by decide) ?_
      obtain ⟨e_60, hl_60, h⟩ := of_bind h
      have ha_60 : J g (w_X10_fillsSet (gD g) q_this q_left q_p1 w_now w_kept w_trial w_refusals w_row w_letters w_dists w_steps w_partners w_times w_spliced w_piece w_balances w_prices w_hands w_hand w_dealing v_hasImage v_rows v_lettered v_stepsMany v_splicedMany v_most v_together v_z e_60.2 v_p1) [(0, .ref q_this), (1, .ref q_p1), (2, .int (x2)), (3, .int (x3)), (5, .int (e_60.1))] 137 [] := by
        refine j_goto C 49 dX10_fillsSet_137 (by decide) ?_
        have h := Option.some.inj h
        subst h
        have hc9 := hc_49 _ rfl
        exact j_lw hc9 rfl
      refine j_lv (lv' := [(0, .ref q_this), (1, .ref q_p1), (2, .int (x2)), (3, .int (x3)), (5, .int ((0 : Int32))), (6, .int ((0 : Int32)))]) rfl ?_
      refine lp_ind hl_60 (fun s_60 => J g (w_X10_fillsSet (gD g) q_this q_left q_p1 w_now w_kept w_trial w_refusals w_row w_letters w_dists w_steps w_partners w_times w_spliced w_piece w_balances w_prices w_hands w_hand w_dealing v_hasImage v_rows v_lettered v_stepsMany v_splicedMany v_most v_together v_z s_60.2.2 v_p1) [(0, .ref q_this), (1, .ref q_p1), (2, .int (x2)), (3, .int (x3)), (5, .int (s_60.1)), (6, .int (s_60.2.1))] 60 []) (fun s_60 r_60 h hc_60 hx_60 => ?_)
      unfold f_X10_fillsSet_b60 at h
      refine j_iload C dX10_fillsSet_60 rfl ?_
      refine j_iconst C (2) dX10_fillsSet_62 ki_2 ?_
      refine j_aload_n C dX10_fillsSet_63 rfl ?_
      refine j_bipush C (49) dX10_fillsSet_64 kb_49 ?_
      refine j_iaload 2 C h w_X10_fillsSet_g2 rfl dX10_fillsSet_66 (fun h => ?_)
      refine j_imul C dX10_fillsSet_67 ?_
      refine j_icmp_ge C h 137 dX10_fillsSet_68 (by decide) (fun hc h => ?_) (fun hc h => ?_)
      · have h := Option.some.inj h
        subst h
        have h9 := hx_60 _ rfl
        subst h9
        exact j_lw ha_60 rfl
      · refine j_aload_n C dX10_fillsSet_71 rfl ?_
        refine j_iload C dX10_fillsSet_72 rfl ?_
        obtain ⟨r_cost_2, h_2, h⟩ := of_bind h
        refine j_callS1 C mk_X10_cost ms_X10_cost kw_1142 (c_X10_cost (gl g) (gD g) h_2) (by decide) [2] (hC_cons w_X10_fillsSet_g2 hC_nil) rfl (w_X10_cost_a.trans w_X10_cost_a.symm) rfl rfl (Nat.le_of_ble_eq_true rfl) dX10_fillsSet_74 (wput_cons w_X10_fillsSet_s2 wput_nil) ?_
        refine j_if_ge C h 83 dX10_fillsSet_77 (by decide) (fun hc h => ?_) (fun hc h => ?_)
        · refine j_bipush C (6) dX10_fillsSet_83 kb_6 ?_
          refine j_iload_n C dX10_fillsSet_85 rfl ?_
          refine j_imul C dX10_fillsSet_86 ?_
          refine j_aload_n C dX10_fillsSet_87 rfl ?_
          refine j_iload C dX10_fillsSet_88 rfl ?_
          obtain ⟨r_begins_3, h_3, h⟩ := of_bind h
          refine j_callS1 C mk_X10_begins ms_X10_begins kw_1161 (c_X10_begins (gl g) (gD g) h_3) (by decide) [2] (hC_cons w_X10_fillsSet_g2 hC_nil) rfl (w_X10_begins_a.trans w_X10_begins_a.symm) rfl rfl (Nat.le_of_ble_eq_true rfl) dX10_fillsSet_90 (wput_cons w_X10_fillsSet_s2 wput_nil) ?_
          refine j_iadd C dX10_fillsSet_93 ?_
          refine j_istore C dX10_fillsSet_94 (by decide) ?_
          refine j_aload_n C dX10_fillsSet_96 rfl ?_
          refine j_aload_n C dX10_fillsSet_97 rfl ?_
          refine j_iload_n C dX10_fillsSet_98 rfl ?_
          refine j_iload_n C dX10_fillsSet_99 rfl ?_
          refine j_iload C dX10_fillsSet_100 rfl ?_
          obtain ⟨r_leaves_4, h_4, h⟩ := of_bind h
          refine j_callV1 C mk_X10_leaves ms_X10_leaves kw_1211 (c_X10_leaves (gl g) (gD g) h_4) (by decide) 0 w_X10_fillsSet_g0 rfl [0, 1, 2] (hC_cons w_X10_fillsSet_g0 (hC_cons w_X10_fillsSet_g1 (hC_cons w_X10_fillsSet_g2 hC_nil))) rfl (w_X10_leaves_a.trans w_X10_leaves_a.symm) rfl rfl (Nat.le_of_ble_eq_true rfl) dX10_fillsSet_102 (wput_cons w_X10_fillsSet_s0 (wput_cons w_X10_fillsSet_s1 (wput_cons w_X10_fillsSet_s2 wput_nil))) ?_
          refine j_istore C dX10_fillsSet_105 (by decide) ?_
          refine j_iload C dX10_fillsSet_107 rfl ?_
          refine j_aload_n C dX10_fillsSet_109 rfl ?_
          refine j_get C 0 w_X10_fillsSet_g0 rfl inX10 10 (by decide) kw_991 rfl rfl dX10_fillsSet_110 ?_
          refine j_iload C dX10_fillsSet_113 rfl ?_
          refine j_iaload 1 C h w_X10_fillsSet_g1 rfl dX10_fillsSet_115 (fun h => ?_)
          refine j_icmp_ge C h 131 dX10_fillsSet_116 (by decide) (fun hc h => ?_) (fun hc h => ?_)
          · refine j_inc C (1) dX10_fillsSet_131 rfl ki_1 (by decide) ?_
            refine j_goto C 60 dX10_fillsSet_134 (by decide) ?_
            have h := Option.some.inj h
            subst h
            have hc9 := hc_60 _ rfl
            exact j_lw hc9 rfl
          · refine j_aload_n C dX10_fillsSet_119 rfl ?_
            refine j_get C 0 w_X10_fillsSet_g0 rfl inX10 10 (by decide) kw_991 rfl rfl dX10_fillsSet_120 ?_
            refine j_iload C dX10_fillsSet_123 rfl ?_
            refine j_iload C dX10_fillsSet_125 rfl ?_
            refine j_iastore 1 C h w_X10_fillsSet_g1 rfl dX10_fillsSet_127 (fun h => ?_)
            refine j_ws w_X10_fillsSet_s1 ?_
            refine j_iconst C (1) dX10_fillsSet_128 ki_1 ?_
            refine j_istore C dX10_fillsSet_129 (by decide) ?_
            refine j_inc C (1) dX10_fillsSet_131 rfl ki_1 (by decide) ?_
            refine j_goto C 60 dX10_fillsSet_134 (by decide) ?_
            have h := Option.some.inj h
            subst h
            have hc9 := hc_60 _ rfl
            exact j_lw hc9 rfl
        · refine j_goto C 131 dX10_fillsSet_80 (by decide) ?_
          refine j_inc C (1) dX10_fillsSet_131 rfl ki_1 (by decide) ?_
          refine j_goto C 60 dX10_fillsSet_134 (by decide) ?_
          have h := Option.some.inj h
          subst h
          have hc9 := hc_60 _ rfl
          exact j_lw hc9 rfl
  refine j_lv (lv' := [(0, .ref q_this), (1, .ref q_p1), (2, .int (x2)), (3, .int (x3)), (4, .int (x4)), (5, .int ((0 : Int32)))]) rfl ?_
  refine lp_ind hl_3 (fun s_3 => J g (w_X10_fillsSet (gD g) q_this q_left q_p1 w_now w_kept w_trial w_refusals w_row w_letters w_dists w_steps w_partners w_times w_spliced w_piece w_balances w_prices w_hands w_hand w_dealing v_hasImage v_rows v_lettered v_stepsMany v_splicedMany v_most v_together v_z s_3.2 v_p1) [(0, .ref q_this), (1, .ref q_p1), (2, .int (x2)), (3, .int (x3)), (4, .int (x4)), (5, .int (s_3.1))] 3 []) (fun s_3 r_3 h hc_3 hx_3 => ?_)
  unfold f_X10_fillsSet_b3 at h
  refine j_iload C dX10_fillsSet_3 rfl ?_
  refine j_bipush C (6) dX10_fillsSet_5 kb_6 ?_
  refine j_icmp_ge C h 46 dX10_fillsSet_7 (by decide) (fun hc h => ?_) (fun hc h => ?_)
  · have h := Option.some.inj h
    subst h
    have h9 := hx_3 _ rfl
    subst h9
    exact j_lw ha_3 rfl
  · refine j_aload_n C dX10_fillsSet_10 rfl ?_
    refine j_get C 0 w_X10_fillsSet_g0 rfl inX10 10 (by decide) kw_991 rfl rfl dX10_fillsSet_11 ?_
    refine j_bipush C (6) dX10_fillsSet_14 kb_6 ?_
    refine j_iload_n C dX10_fillsSet_16 rfl ?_
    refine j_imul C dX10_fillsSet_17 ?_
    refine j_iload C dX10_fillsSet_18 rfl ?_
    refine j_iadd C dX10_fillsSet_20 ?_
    refine j_iload_n C dX10_fillsSet_21 rfl ?_
    refine j_iload_n C dX10_fillsSet_22 rfl ?_
    have hj_1 : J g (w_X10_fillsSet (gD g) q_this q_left q_p1 w_now w_kept w_trial w_refusals w_row w_letters w_dists w_steps w_partners w_times w_spliced w_piece w_balances w_prices w_hands w_hand w_dealing v_hasImage v_rows v_lettered v_stepsMany v_splicedMany v_most v_together v_z s_3.2 v_p1) [(0, .ref q_this), (1, .ref q_p1), (2, .int (x2)), (3, .int (x3)), (4, .int (x4)), (5, .int (s_3.1))] 39 [.int (if x3 = x2 then (if s_3.1 = x4 then (0 : Int32) else (1000000 : Int32)) else (1000000 : Int32)), .int (((6 : Int32) * x3) + s_3.1), .ref q_left] := by
      refine j_iastore 1 C h w_X10_fillsSet_g1 rfl dX10_fillsSet_39 (fun h => ?_)
      refine j_ws w_X10_fillsSet_s1 ?_
      refine j_inc C (1) dX10_fillsSet_40 rfl ki_1 (by decide) ?_
      refine j_goto C 3 dX10_fillsSet_43 (by decide) ?_
      have h := Option.some.inj h
      subst h
      have hc9 := hc_3 _ rfl
      exact j_lw hc9 rfl
    refine jv_icmp_ne C 37 dX10_fillsSet_23 (by decide) (fun hc => ?_) (fun hc => ?_)
    · try simp only [if_pos hc] at hj_1
      refine j_iload C dX10_fillsSet_26 rfl ?_
      refine j_iload C dX10_fillsSet_28 rfl ?_
      refine jv_icmp_ne C 37 dX10_fillsSet_30 (by decide) (fun hc => ?_) (fun hc => ?_)
      · try simp only [if_pos hc] at hj_1
        refine j_iconst C (0) dX10_fillsSet_33 ki_0 ?_
        refine j_goto C 39 dX10_fillsSet_34 (by decide) ?_
        exact j_lw hj_1 rfl
      · try simp only [if_neg hc] at hj_1
        refine j_ldc C kw_1160 dX10_fillsSet_37 ?_
        exact j_lw hj_1 rfl
    · try simp only [if_neg hc] at hj_1
      refine j_ldc C kw_1160 dX10_fillsSet_37 ?_
      exact j_lw hj_1 rfl

def w_X10_seeks (D : va_G) (q_this q_left q_p1 : Nat) (w_now w_kept w_trial w_refusals w_row w_letters w_dists w_steps w_partners w_times w_spliced w_piece w_balances w_prices w_hands w_hand w_dealing : Value) (v_hasImage : Int32) (v_rows : Int32) (v_lettered : Int32) (v_stepsMany : Int32) (v_splicedMany : Int32) (v_most : Int32) (v_together : Int32) (v_z : Int32) (v_left : (Nat → Int32)) (v_p1 : (Nat → Int32)) : va_W := [(q_this, .inr (9, [w_now, w_kept, w_trial, .int v_hasImage, w_refusals, w_row, .int v_rows, w_letters, .int v_lettered, w_dists, .ref q_left, w_steps, .int v_stepsMany, w_partners, w_times, w_spliced, .int v_splicedMany, w_piece, w_balances, w_prices, w_hands, w_hand, w_dealing, .int v_most, .int v_together, .int v_z])), (q_left, .inl (D.1 100, 1536, .inl v_left)), (q_p1, .inl (D.1 100, 50, .inl v_p1))]
theorem w_X10_seeks_g0 {D : va_G} {q_this : Nat} {q_left : Nat} {q_p1 : Nat} {w_now : Value} {w_kept : Value} {w_trial : Value} {w_refusals : Value} {w_row : Value} {w_letters : Value} {w_dists : Value} {w_steps : Value} {w_partners : Value} {w_times : Value} {w_spliced : Value} {w_piece : Value} {w_balances : Value} {w_prices : Value} {w_hands : Value} {w_hand : Value} {w_dealing : Value} {v_hasImage : Int32} {v_rows : Int32} {v_lettered : Int32} {v_stepsMany : Int32} {v_splicedMany : Int32} {v_most : Int32} {v_together : Int32} {v_z : Int32} {v_left : (Nat → Int32)} {v_p1 : (Nat → Int32)} : (w_X10_seeks D q_this q_left q_p1 w_now w_kept w_trial w_refusals w_row w_letters w_dists w_steps w_partners w_times w_spliced w_piece w_balances w_prices w_hands w_hand w_dealing v_hasImage v_rows v_lettered v_stepsMany v_splicedMany v_most v_together v_z v_left v_p1)[0]? = some (q_this, .inr (9, [w_now, w_kept, w_trial, .int v_hasImage, w_refusals, w_row, .int v_rows, w_letters, .int v_lettered, w_dists, .ref q_left, w_steps, .int v_stepsMany, w_partners, w_times, w_spliced, .int v_splicedMany, w_piece, w_balances, w_prices, w_hands, w_hand, w_dealing, .int v_most, .int v_together, .int v_z])) := rfl
theorem w_X10_seeks_s0 {D : va_G} {q_this : Nat} {q_left : Nat} {q_p1 : Nat} {w_now : Value} {w_kept : Value} {w_trial : Value} {w_refusals : Value} {w_row : Value} {w_letters : Value} {w_dists : Value} {w_steps : Value} {w_partners : Value} {w_times : Value} {w_spliced : Value} {w_piece : Value} {w_balances : Value} {w_prices : Value} {w_hands : Value} {w_hand : Value} {w_dealing : Value} {v_hasImage : Int32} {v_rows : Int32} {v_lettered : Int32} {v_stepsMany : Int32} {v_splicedMany : Int32} {v_most : Int32} {v_together : Int32} {v_z : Int32} {v_left : (Nat → Int32)} {v_p1 : (Nat → Int32)} {v_hasImage' : Int32} {v_rows' : Int32} {v_lettered' : Int32} {v_stepsMany' : Int32} {v_splicedMany' : Int32} {v_most' : Int32} {v_together' : Int32} {v_z' : Int32} : (w_X10_seeks D q_this q_left q_p1 w_now w_kept w_trial w_refusals w_row w_letters w_dists w_steps w_partners w_times w_spliced w_piece w_balances w_prices w_hands w_hand w_dealing v_hasImage v_rows v_lettered v_stepsMany v_splicedMany v_most v_together v_z v_left v_p1).set 0 (q_this, .inr (9, [w_now, w_kept, w_trial, .int v_hasImage', w_refusals, w_row, .int v_rows', w_letters, .int v_lettered', w_dists, .ref q_left, w_steps, .int v_stepsMany', w_partners, w_times, w_spliced, .int v_splicedMany', w_piece, w_balances, w_prices, w_hands, w_hand, w_dealing, .int v_most', .int v_together', .int v_z'])) = (w_X10_seeks D q_this q_left q_p1 w_now w_kept w_trial w_refusals w_row w_letters w_dists w_steps w_partners w_times w_spliced w_piece w_balances w_prices w_hands w_hand w_dealing v_hasImage' v_rows' v_lettered' v_stepsMany' v_splicedMany' v_most' v_together' v_z' v_left v_p1) := rfl
theorem w_X10_seeks_g1 {D : va_G} {q_this : Nat} {q_left : Nat} {q_p1 : Nat} {w_now : Value} {w_kept : Value} {w_trial : Value} {w_refusals : Value} {w_row : Value} {w_letters : Value} {w_dists : Value} {w_steps : Value} {w_partners : Value} {w_times : Value} {w_spliced : Value} {w_piece : Value} {w_balances : Value} {w_prices : Value} {w_hands : Value} {w_hand : Value} {w_dealing : Value} {v_hasImage : Int32} {v_rows : Int32} {v_lettered : Int32} {v_stepsMany : Int32} {v_splicedMany : Int32} {v_most : Int32} {v_together : Int32} {v_z : Int32} {v_left : (Nat → Int32)} {v_p1 : (Nat → Int32)} : (w_X10_seeks D q_this q_left q_p1 w_now w_kept w_trial w_refusals w_row w_letters w_dists w_steps w_partners w_times w_spliced w_piece w_balances w_prices w_hands w_hand w_dealing v_hasImage v_rows v_lettered v_stepsMany v_splicedMany v_most v_together v_z v_left v_p1)[1]? = some (q_left, .inl (D.1 100, 1536, .inl v_left)) := rfl
theorem w_X10_seeks_s1 {D : va_G} {q_this : Nat} {q_left : Nat} {q_p1 : Nat} {w_now : Value} {w_kept : Value} {w_trial : Value} {w_refusals : Value} {w_row : Value} {w_letters : Value} {w_dists : Value} {w_steps : Value} {w_partners : Value} {w_times : Value} {w_spliced : Value} {w_piece : Value} {w_balances : Value} {w_prices : Value} {w_hands : Value} {w_hand : Value} {w_dealing : Value} {v_hasImage : Int32} {v_rows : Int32} {v_lettered : Int32} {v_stepsMany : Int32} {v_splicedMany : Int32} {v_most : Int32} {v_together : Int32} {v_z : Int32} {v_left : (Nat → Int32)} {v_p1 : (Nat → Int32)} {v_left' : (Nat → Int32)} : (w_X10_seeks D q_this q_left q_p1 w_now w_kept w_trial w_refusals w_row w_letters w_dists w_steps w_partners w_times w_spliced w_piece w_balances w_prices w_hands w_hand w_dealing v_hasImage v_rows v_lettered v_stepsMany v_splicedMany v_most v_together v_z v_left v_p1).set 1 (q_left, .inl (D.1 100, 1536, .inl v_left')) = (w_X10_seeks D q_this q_left q_p1 w_now w_kept w_trial w_refusals w_row w_letters w_dists w_steps w_partners w_times w_spliced w_piece w_balances w_prices w_hands w_hand w_dealing v_hasImage v_rows v_lettered v_stepsMany v_splicedMany v_most v_together v_z v_left' v_p1) := rfl
theorem w_X10_seeks_g2 {D : va_G} {q_this : Nat} {q_left : Nat} {q_p1 : Nat} {w_now : Value} {w_kept : Value} {w_trial : Value} {w_refusals : Value} {w_row : Value} {w_letters : Value} {w_dists : Value} {w_steps : Value} {w_partners : Value} {w_times : Value} {w_spliced : Value} {w_piece : Value} {w_balances : Value} {w_prices : Value} {w_hands : Value} {w_hand : Value} {w_dealing : Value} {v_hasImage : Int32} {v_rows : Int32} {v_lettered : Int32} {v_stepsMany : Int32} {v_splicedMany : Int32} {v_most : Int32} {v_together : Int32} {v_z : Int32} {v_left : (Nat → Int32)} {v_p1 : (Nat → Int32)} : (w_X10_seeks D q_this q_left q_p1 w_now w_kept w_trial w_refusals w_row w_letters w_dists w_steps w_partners w_times w_spliced w_piece w_balances w_prices w_hands w_hand w_dealing v_hasImage v_rows v_lettered v_stepsMany v_splicedMany v_most v_together v_z v_left v_p1)[2]? = some (q_p1, .inl (D.1 100, 50, .inl v_p1)) := rfl
theorem w_X10_seeks_s2 {D : va_G} {q_this : Nat} {q_left : Nat} {q_p1 : Nat} {w_now : Value} {w_kept : Value} {w_trial : Value} {w_refusals : Value} {w_row : Value} {w_letters : Value} {w_dists : Value} {w_steps : Value} {w_partners : Value} {w_times : Value} {w_spliced : Value} {w_piece : Value} {w_balances : Value} {w_prices : Value} {w_hands : Value} {w_hand : Value} {w_dealing : Value} {v_hasImage : Int32} {v_rows : Int32} {v_lettered : Int32} {v_stepsMany : Int32} {v_splicedMany : Int32} {v_most : Int32} {v_together : Int32} {v_z : Int32} {v_left : (Nat → Int32)} {v_p1 : (Nat → Int32)} {v_p1' : (Nat → Int32)} : (w_X10_seeks D q_this q_left q_p1 w_now w_kept w_trial w_refusals w_row w_letters w_dists w_steps w_partners w_times w_spliced w_piece w_balances w_prices w_hands w_hand w_dealing v_hasImage v_rows v_lettered v_stepsMany v_splicedMany v_most v_together v_z v_left v_p1).set 2 (q_p1, .inl (D.1 100, 50, .inl v_p1')) = (w_X10_seeks D q_this q_left q_p1 w_now w_kept w_trial w_refusals w_row w_letters w_dists w_steps w_partners w_times w_spliced w_piece w_balances w_prices w_hands w_hand w_dealing v_hasImage v_rows v_lettered v_stepsMany v_splicedMany v_most v_together v_z v_left v_p1') := rfl
theorem w_X10_seeks_a {D : va_G} {q_this : Nat} {q_left : Nat} {q_p1 : Nat} {w_now : Value} {w_kept : Value} {w_trial : Value} {w_refusals : Value} {w_row : Value} {w_letters : Value} {w_dists : Value} {w_steps : Value} {w_partners : Value} {w_times : Value} {w_spliced : Value} {w_piece : Value} {w_balances : Value} {w_prices : Value} {w_hands : Value} {w_hand : Value} {w_dealing : Value} {v_hasImage : Int32} {v_rows : Int32} {v_lettered : Int32} {v_stepsMany : Int32} {v_splicedMany : Int32} {v_most : Int32} {v_together : Int32} {v_z : Int32} {v_left : (Nat → Int32)} {v_p1 : (Nat → Int32)} : (w_X10_seeks D q_this q_left q_p1 w_now w_kept w_trial w_refusals w_row w_letters w_dists w_steps w_partners w_times w_spliced w_piece w_balances w_prices w_hands w_hand w_dealing v_hasImage v_rows v_lettered v_stepsMany v_splicedMany v_most v_together v_z v_left v_p1).map (fun q => q.1) = [q_this, q_left, q_p1] := rfl
def f_X10_seeks_b3 (N : Nat) (x4_3 : Int32) (v_left_3 : (Nat → Int32)) (x2 : Int32) (x3 : Int32) (v_p1 : (Nat → Int32)) : Option ((Int32 × (Nat → Int32)) ⊕ (Nat → Int32)) :=
  (if x4_3 < 0 then some (.inr v_left_3) else (if (x4_3 &&& (x2 ^^^ (-1 : Int32))) = 0 then (f_X10_fillsSet N x2 x4_3 x3 v_left_3 v_p1).bind (fun r_fillsSet_1 => some (.inl (x4_3 + (-1 : Int32), r_fillsSet_1))) else some (.inl (x4_3 + (-1 : Int32), v_left_3))))
def f_X10_seeks (N : Nat) (x2 : Int32) (x3 : Int32) (v_left : (Nat → Int32)) (v_p1 : (Nat → Int32)) : Option (Int32 × (Nat → Int32)) :=
  (lp (fun s_3 => f_X10_seeks_b3 N s_3.1 s_3.2 x2 x3 v_p1) N (x2, v_left)).bind (fun e_3 => ga (48 : Int32) 50 (ga (v_p1 (Int32.toNatClampNeg (48 : Int32))) 1536 (some (if (e_3 (Int32.toNatClampNeg (v_p1 (Int32.toNatClampNeg (48 : Int32))))) < (1000000 : Int32) then (e_3 (Int32.toNatClampNeg (v_p1 (Int32.toNatClampNeg (48 : Int32))))) else (-9 : Int32), e_3))))
set_option maxRecDepth 100000 in
set_option maxHeartbeats 4000000 in
theorem c_X10_seeks (l : Launch) (D : va_G) (N : Nat) {q_this q_left q_p1 : Nat} {w_now w_kept w_trial w_refusals w_row w_letters w_dists w_steps w_partners w_times w_spliced w_piece w_balances w_prices w_hands w_hand w_dealing : Value} {v_hasImage : Int32} {v_rows : Int32} {v_lettered : Int32} {v_stepsMany : Int32} {v_splicedMany : Int32} {v_most : Int32} {v_together : Int32} {v_z : Int32} {v_left : (Nat → Int32)} {v_p1 : (Nat → Int32)} {x2 : Int32} {x3 : Int32} {o : (Int32 × (Nat → Int32))} (h : f_X10_seeks N x2 x3 v_left v_p1 = some o) : CT l D yX10_seeks cX10_seeks 5 (Option.some FieldType.int) 3 [.ref q_this, .ref q_p1, .int x2, .int x3] (w_X10_seeks D q_this q_left q_p1 w_now w_kept w_trial w_refusals w_row w_letters w_dists w_steps w_partners w_times w_spliced w_piece w_balances w_prices w_hands w_hand w_dealing v_hasImage v_rows v_lettered v_stepsMany v_splicedMany v_most v_together v_z v_left v_p1) (w_X10_seeks D q_this q_left q_p1 w_now w_kept w_trial w_refusals w_row w_letters w_dists w_steps w_partners w_times w_spliced w_piece w_balances w_prices w_hands w_hand w_dealing v_hasImage v_rows v_lettered v_stepsMany v_splicedMany v_most v_together v_z o.2 v_p1) (some (.int o.1)) := by
  refine CT.of mk_X10_seeks (Nat.le_of_ble_eq_true rfl) (fun g hl hD C E => ?_)
  subst hl
  subst hD
  unfold f_X10_seeks at h
  refine j_iload_n C dX10_seeks_0 rfl ?_
  refine j_istore C dX10_seeks_1 (by decide) ?_
  obtain ⟨e_3, hl_3, h⟩ := of_bind h
  have ha_3 : J g (w_X10_seeks (gD g) q_this q_left q_p1 w_now w_kept w_trial w_refusals w_row w_letters w_dists w_steps w_partners w_times w_spliced w_piece w_balances w_prices w_hands w_hand w_dealing v_hasImage v_rows v_lettered v_stepsMany v_splicedMany v_most v_together v_z e_3 v_p1) [(0, .ref q_this), (1, .ref q_p1)] 32 [] := by
    refine j_aload_n C dX10_seeks_32 rfl ?_
    refine j_get C 0 w_X10_seeks_g0 rfl inX10 10 (by decide) kw_991 rfl rfl dX10_seeks_33 ?_
    refine j_aload_n C dX10_seeks_36 rfl ?_
    refine j_bipush C (48) dX10_seeks_37 kb_48 ?_
    refine j_iaload 2 C h w_X10_seeks_g2 rfl dX10_seeks_39 (fun h => ?_)
    refine j_iaload 1 C h w_X10_seeks_g1 rfl dX10_seeks_40 (fun h => ?_)
    refine j_istore C dX10_seeks_41 (by decide) ?_
    refine j_iload C dX10_seeks_43 rfl ?_
    refine j_ldc C kw_1160 dX10_seeks_45 ?_
    have hj_2 : J g (w_X10_seeks (gD g) q_this q_left q_p1 w_now w_kept w_trial w_refusals w_row w_letters w_dists w_steps w_partners w_times w_spliced w_piece w_balances w_prices w_hands w_hand w_dealing v_hasImage v_rows v_lettered v_stepsMany v_splicedMany v_most v_together v_z e_3 v_p1) [] 57 [.int (if (e_3 (Int32.toNatClampNeg (v_p1 (Int32.toNatClampNeg (48 : Int32))))) < (1000000 : Int32) then (e_3 (Int32.toNatClampNeg (v_p1 (Int32.toNatClampNeg (48 : Int32))))) else (-9 : Int32))] := by
      have h := Option.some.inj h
      subst h
      exact j_iret C E dX10_seeks_57
    refine jv_icmp_lt C 55 dX10_seeks_47 (by decide) (fun hc => ?_) (fun hc => ?_)
    · try simp only [if_pos hc] at hj_2
      refine j_iload C dX10_seeks_55 rfl ?_
      exact j_lw hj_2 rfl
    · try simp only [if_neg hc] at hj_2
      refine j_bipush C (-9) dX10_seeks_50 kb_m9 ?_
      refine j_goto C 57 dX10_seeks_52 (by decide) ?_
      exact j_lw hj_2 rfl
  refine j_lv (lv' := [(0, .ref q_this), (1, .ref q_p1), (2, .int (x2)), (3, .int (x3)), (4, .int (x2))]) rfl ?_
  refine lp_ind hl_3 (fun s_3 => J g (w_X10_seeks (gD g) q_this q_left q_p1 w_now w_kept w_trial w_refusals w_row w_letters w_dists w_steps w_partners w_times w_spliced w_piece w_balances w_prices w_hands w_hand w_dealing v_hasImage v_rows v_lettered v_stepsMany v_splicedMany v_most v_together v_z s_3.2 v_p1) [(0, .ref q_this), (1, .ref q_p1), (2, .int (x2)), (3, .int (x3)), (4, .int (s_3.1))] 3 []) (fun s_3 r_3 h hc_3 hx_3 => ?_)
  unfold f_X10_seeks_b3 at h
  refine j_iload C dX10_seeks_3 rfl ?_
  refine j_if_lt C h 32 dX10_seeks_5 (by decide) (fun hc h => ?_) (fun hc h => ?_)
  · have h := Option.some.inj h
    subst h
    have h9 := hx_3 _ rfl
    subst h9
    exact j_lw ha_3 rfl
  · refine j_iload C dX10_seeks_8 rfl ?_
    refine j_iload_n C dX10_seeks_10 rfl ?_
    refine j_iconst C (-1) dX10_seeks_11 ki_m1 ?_
    refine j_ixor C dX10_seeks_12 ?_
    refine j_iand C dX10_seeks_13 ?_
    refine j_if_ne C h 26 dX10_seeks_14 (by decide) (fun hc h => ?_) (fun hc h => ?_)
    · refine j_aload_n C dX10_seeks_17 rfl ?_
      refine j_aload_n C dX10_seeks_18 rfl ?_
      refine j_iload_n C dX10_seeks_19 rfl ?_
      refine j_iload C dX10_seeks_20 rfl ?_
      refine j_iload_n C dX10_seeks_22 rfl ?_
      obtain ⟨r_fillsSet_1, h_1, h⟩ := of_bind h
      refine j_callV0 C mk_X10_fillsSet ms_X10_fillsSet kw_1207 (c_X10_fillsSet (gl g) (gD g) N h_1) (by decide) 0 w_X10_seeks_g0 rfl [0, 1, 2] (hC_cons w_X10_seeks_g0 (hC_cons w_X10_seeks_g1 (hC_cons w_X10_seeks_g2 hC_nil))) rfl (w_X10_fillsSet_a.trans w_X10_fillsSet_a.symm) rfl rfl (Nat.le_of_ble_eq_true rfl) dX10_seeks_23 (wput_cons w_X10_seeks_s0 (wput_cons w_X10_seeks_s1 (wput_cons w_X10_seeks_s2 wput_nil))) ?_
      refine j_inc C (-1) dX10_seeks_26 rfl ki_m1 (by decide) ?_
      refine j_goto C 3 dX10_seeks_29 (by decide) ?_
      have h := Option.some.inj h
      subst h
      have hc9 := hc_3 _ rfl
      exact j_lw hc9 rfl
    · refine j_inc C (-1) dX10_seeks_26 rfl ki_m1 (by decide) ?_
      refine j_goto C 3 dX10_seeks_29 (by decide) ?_
      have h := Option.some.inj h
      subst h
      have hc9 := hc_3 _ rfl
      exact j_lw hc9 rfl

def w_X10_roundOf (D : va_G) (q_this q_left q_p1 : Nat) (w_now w_kept w_trial w_refusals w_row w_letters w_dists w_steps w_partners w_times w_spliced w_piece w_balances w_prices w_hands w_hand w_dealing : Value) (v_hasImage : Int32) (v_rows : Int32) (v_lettered : Int32) (v_stepsMany : Int32) (v_splicedMany : Int32) (v_most : Int32) (v_together : Int32) (v_z : Int32) (v_left : (Nat → Int32)) (v_p1 : (Nat → Int32)) : va_W := [(q_this, .inr (9, [w_now, w_kept, w_trial, .int v_hasImage, w_refusals, w_row, .int v_rows, w_letters, .int v_lettered, w_dists, .ref q_left, w_steps, .int v_stepsMany, w_partners, w_times, w_spliced, .int v_splicedMany, w_piece, w_balances, w_prices, w_hands, w_hand, w_dealing, .int v_most, .int v_together, .int v_z])), (q_left, .inl (D.1 100, 1536, .inl v_left)), (q_p1, .inl (D.1 100, 50, .inl v_p1))]
theorem w_X10_roundOf_g0 {D : va_G} {q_this : Nat} {q_left : Nat} {q_p1 : Nat} {w_now : Value} {w_kept : Value} {w_trial : Value} {w_refusals : Value} {w_row : Value} {w_letters : Value} {w_dists : Value} {w_steps : Value} {w_partners : Value} {w_times : Value} {w_spliced : Value} {w_piece : Value} {w_balances : Value} {w_prices : Value} {w_hands : Value} {w_hand : Value} {w_dealing : Value} {v_hasImage : Int32} {v_rows : Int32} {v_lettered : Int32} {v_stepsMany : Int32} {v_splicedMany : Int32} {v_most : Int32} {v_together : Int32} {v_z : Int32} {v_left : (Nat → Int32)} {v_p1 : (Nat → Int32)} : (w_X10_roundOf D q_this q_left q_p1 w_now w_kept w_trial w_refusals w_row w_letters w_dists w_steps w_partners w_times w_spliced w_piece w_balances w_prices w_hands w_hand w_dealing v_hasImage v_rows v_lettered v_stepsMany v_splicedMany v_most v_together v_z v_left v_p1)[0]? = some (q_this, .inr (9, [w_now, w_kept, w_trial, .int v_hasImage, w_refusals, w_row, .int v_rows, w_letters, .int v_lettered, w_dists, .ref q_left, w_steps, .int v_stepsMany, w_partners, w_times, w_spliced, .int v_splicedMany, w_piece, w_balances, w_prices, w_hands, w_hand, w_dealing, .int v_most, .int v_together, .int v_z])) := rfl
theorem w_X10_roundOf_s0 {D : va_G} {q_this : Nat} {q_left : Nat} {q_p1 : Nat} {w_now : Value} {w_kept : Value} {w_trial : Value} {w_refusals : Value} {w_row : Value} {w_letters : Value} {w_dists : Value} {w_steps : Value} {w_partners : Value} {w_times : Value} {w_spliced : Value} {w_piece : Value} {w_balances : Value} {w_prices : Value} {w_hands : Value} {w_hand : Value} {w_dealing : Value} {v_hasImage : Int32} {v_rows : Int32} {v_lettered : Int32} {v_stepsMany : Int32} {v_splicedMany : Int32} {v_most : Int32} {v_together : Int32} {v_z : Int32} {v_left : (Nat → Int32)} {v_p1 : (Nat → Int32)} {v_hasImage' : Int32} {v_rows' : Int32} {v_lettered' : Int32} {v_stepsMany' : Int32} {v_splicedMany' : Int32} {v_most' : Int32} {v_together' : Int32} {v_z' : Int32} : (w_X10_roundOf D q_this q_left q_p1 w_now w_kept w_trial w_refusals w_row w_letters w_dists w_steps w_partners w_times w_spliced w_piece w_balances w_prices w_hands w_hand w_dealing v_hasImage v_rows v_lettered v_stepsMany v_splicedMany v_most v_together v_z v_left v_p1).set 0 (q_this, .inr (9, [w_now, w_kept, w_trial, .int v_hasImage', w_refusals, w_row, .int v_rows', w_letters, .int v_lettered', w_dists, .ref q_left, w_steps, .int v_stepsMany', w_partners, w_times, w_spliced, .int v_splicedMany', w_piece, w_balances, w_prices, w_hands, w_hand, w_dealing, .int v_most', .int v_together', .int v_z'])) = (w_X10_roundOf D q_this q_left q_p1 w_now w_kept w_trial w_refusals w_row w_letters w_dists w_steps w_partners w_times w_spliced w_piece w_balances w_prices w_hands w_hand w_dealing v_hasImage' v_rows' v_lettered' v_stepsMany' v_splicedMany' v_most' v_together' v_z' v_left v_p1) := rfl
theorem w_X10_roundOf_g1 {D : va_G} {q_this : Nat} {q_left : Nat} {q_p1 : Nat} {w_now : Value} {w_kept : Value} {w_trial : Value} {w_refusals : Value} {w_row : Value} {w_letters : Value} {w_dists : Value} {w_steps : Value} {w_partners : Value} {w_times : Value} {w_spliced : Value} {w_piece : Value} {w_balances : Value} {w_prices : Value} {w_hands : Value} {w_hand : Value} {w_dealing : Value} {v_hasImage : Int32} {v_rows : Int32} {v_lettered : Int32} {v_stepsMany : Int32} {v_splicedMany : Int32} {v_most : Int32} {v_together : Int32} {v_z : Int32} {v_left : (Nat → Int32)} {v_p1 : (Nat → Int32)} : (w_X10_roundOf D q_this q_left q_p1 w_now w_kept w_trial w_refusals w_row w_letters w_dists w_steps w_partners w_times w_spliced w_piece w_balances w_prices w_hands w_hand w_dealing v_hasImage v_rows v_lettered v_stepsMany v_splicedMany v_most v_together v_z v_left v_p1)[1]? = some (q_left, .inl (D.1 100, 1536, .inl v_left)) := rfl
theorem w_X10_roundOf_s1 {D : va_G} {q_this : Nat} {q_left : Nat} {q_p1 : Nat} {w_now : Value} {w_kept : Value} {w_trial : Value} {w_refusals : Value} {w_row : Value} {w_letters : Value} {w_dists : Value} {w_steps : Value} {w_partners : Value} {w_times : Value} {w_spliced : Value} {w_piece : Value} {w_balances : Value} {w_prices : Value} {w_hands : Value} {w_hand : Value} {w_dealing : Value} {v_hasImage : Int32} {v_rows : Int32} {v_lettered : Int32} {v_stepsMany : Int32} {v_splicedMany : Int32} {v_most : Int32} {v_together : Int32} {v_z : Int32} {v_left : (Nat → Int32)} {v_p1 : (Nat → Int32)} {v_left' : (Nat → Int32)} : (w_X10_roundOf D q_this q_left q_p1 w_now w_kept w_trial w_refusals w_row w_letters w_dists w_steps w_partners w_times w_spliced w_piece w_balances w_prices w_hands w_hand w_dealing v_hasImage v_rows v_lettered v_stepsMany v_splicedMany v_most v_together v_z v_left v_p1).set 1 (q_left, .inl (D.1 100, 1536, .inl v_left')) = (w_X10_roundOf D q_this q_left q_p1 w_now w_kept w_trial w_refusals w_row w_letters w_dists w_steps w_partners w_times w_spliced w_piece w_balances w_prices w_hands w_hand w_dealing v_hasImage v_rows v_lettered v_stepsMany v_splicedMany v_most v_together v_z v_left' v_p1) := rfl
theorem w_X10_roundOf_g2 {D : va_G} {q_this : Nat} {q_left : Nat} {q_p1 : Nat} {w_now : Value} {w_kept : Value} {w_trial : Value} {w_refusals : Value} {w_row : Value} {w_letters : Value} {w_dists : Value} {w_steps : Value} {w_partners : Value} {w_times : Value} {w_spliced : Value} {w_piece : Value} {w_balances : Value} {w_prices : Value} {w_hands : Value} {w_hand : Value} {w_dealing : Value} {v_hasImage : Int32} {v_rows : Int32} {v_lettered : Int32} {v_stepsMany : Int32} {v_splicedMany : Int32} {v_most : Int32} {v_together : Int32} {v_z : Int32} {v_left : (Nat → Int32)} {v_p1 : (Nat → Int32)} : (w_X10_roundOf D q_this q_left q_p1 w_now w_kept w_trial w_refusals w_row w_letters w_dists w_steps w_partners w_times w_spliced w_piece w_balances w_prices w_hands w_hand w_dealing v_hasImage v_rows v_lettered v_stepsMany v_splicedMany v_most v_together v_z v_left v_p1)[2]? = some (q_p1, .inl (D.1 100, 50, .inl v_p1)) := rfl
theorem w_X10_roundOf_s2 {D : va_G} {q_this : Nat} {q_left : Nat} {q_p1 : Nat} {w_now : Value} {w_kept : Value} {w_trial : Value} {w_refusals : Value} {w_row : Value} {w_letters : Value} {w_dists : Value} {w_steps : Value} {w_partners : Value} {w_times : Value} {w_spliced : Value} {w_piece : Value} {w_balances : Value} {w_prices : Value} {w_hands : Value} {w_hand : Value} {w_dealing : Value} {v_hasImage : Int32} {v_rows : Int32} {v_lettered : Int32} {v_stepsMany : Int32} {v_splicedMany : Int32} {v_most : Int32} {v_together : Int32} {v_z : Int32} {v_left : (Nat → Int32)} {v_p1 : (Nat → Int32)} {v_p1' : (Nat → Int32)} : (w_X10_roundOf D q_this q_left q_p1 w_now w_kept w_trial w_refusals w_row w_letters w_dists w_steps w_partners w_times w_spliced w_piece w_balances w_prices w_hands w_hand w_dealing v_hasImage v_rows v_lettered v_stepsMany v_splicedMany v_most v_together v_z v_left v_p1).set 2 (q_p1, .inl (D.1 100, 50, .inl v_p1')) = (w_X10_roundOf D q_this q_left q_p1 w_now w_kept w_trial w_refusals w_row w_letters w_dists w_steps w_partners w_times w_spliced w_piece w_balances w_prices w_hands w_hand w_dealing v_hasImage v_rows v_lettered v_stepsMany v_splicedMany v_most v_together v_z v_left v_p1') := rfl
theorem w_X10_roundOf_a {D : va_G} {q_this : Nat} {q_left : Nat} {q_p1 : Nat} {w_now : Value} {w_kept : Value} {w_trial : Value} {w_refusals : Value} {w_row : Value} {w_letters : Value} {w_dists : Value} {w_steps : Value} {w_partners : Value} {w_times : Value} {w_spliced : Value} {w_piece : Value} {w_balances : Value} {w_prices : Value} {w_hands : Value} {w_hand : Value} {w_dealing : Value} {v_hasImage : Int32} {v_rows : Int32} {v_lettered : Int32} {v_stepsMany : Int32} {v_splicedMany : Int32} {v_most : Int32} {v_together : Int32} {v_z : Int32} {v_left : (Nat → Int32)} {v_p1 : (Nat → Int32)} : (w_X10_roundOf D q_this q_left q_p1 w_now w_kept w_trial w_refusals w_row w_letters w_dists w_steps w_partners w_times w_spliced w_piece w_balances w_prices w_hands w_hand w_dealing v_hasImage v_rows v_lettered v_stepsMany v_splicedMany v_most v_together v_z v_left v_p1).map (fun q => q.1) = [q_this, q_left, q_p1] := rfl
def f_X10_roundOf (N : Nat) (v_left : (Nat → Int32)) (v_p1 : (Nat → Int32)) : Option (Int32 × (Nat → Int32)) :=
  (f_X10_due N v_p1).bind (fun r_due_1 => ga (48 : Int32) 50 ((f_X10_seeks N r_due_1 (v_p1 (Int32.toNatClampNeg (48 : Int32))) v_left v_p1).bind (fun r_seeks_2 => some (r_seeks_2.1, r_seeks_2.2))))
set_option maxRecDepth 100000 in
set_option maxHeartbeats 4000000 in
theorem c_X10_roundOf (l : Launch) (D : va_G) (N : Nat) {q_this q_left q_p1 : Nat} {w_now w_kept w_trial w_refusals w_row w_letters w_dists w_steps w_partners w_times w_spliced w_piece w_balances w_prices w_hands w_hand w_dealing : Value} {v_hasImage : Int32} {v_rows : Int32} {v_lettered : Int32} {v_stepsMany : Int32} {v_splicedMany : Int32} {v_most : Int32} {v_together : Int32} {v_z : Int32} {v_left : (Nat → Int32)} {v_p1 : (Nat → Int32)} {o : (Int32 × (Nat → Int32))} (h : f_X10_roundOf N v_left v_p1 = some o) : CT l D yX10_roundOf cX10_roundOf 2 (Option.some FieldType.int) 4 [.ref q_this, .ref q_p1] (w_X10_roundOf D q_this q_left q_p1 w_now w_kept w_trial w_refusals w_row w_letters w_dists w_steps w_partners w_times w_spliced w_piece w_balances w_prices w_hands w_hand w_dealing v_hasImage v_rows v_lettered v_stepsMany v_splicedMany v_most v_together v_z v_left v_p1) (w_X10_roundOf D q_this q_left q_p1 w_now w_kept w_trial w_refusals w_row w_letters w_dists w_steps w_partners w_times w_spliced w_piece w_balances w_prices w_hands w_hand w_dealing v_hasImage v_rows v_lettered v_stepsMany v_splicedMany v_most v_together v_z o.2 v_p1) (some (.int o.1)) := by
  refine CT.of mk_X10_roundOf (Nat.le_of_ble_eq_true rfl) (fun g hl hD C E => ?_)
  subst hl
  subst hD
  unfold f_X10_roundOf at h
  refine j_aload_n C dX10_roundOf_0 rfl ?_
  refine j_aload_n C dX10_roundOf_1 rfl ?_
  refine j_aload_n C dX10_roundOf_2 rfl ?_
  obtain ⟨r_due_1, h_1, h⟩ := of_bind h
  refine j_callS1 C mk_X10_due ms_X10_due kw_1200 (c_X10_due (gl g) (gD g) N h_1) (by decide) [2] (hC_cons w_X10_roundOf_g2 hC_nil) rfl (w_X10_due_a.trans w_X10_due_a.symm) rfl rfl (Nat.le_of_ble_eq_true rfl) dX10_roundOf_3 (wput_cons w_X10_roundOf_s2 wput_nil) ?_
  refine j_aload_n C dX10_roundOf_6 rfl ?_
  refine j_bipush C (48) dX10_roundOf_7 kb_48 ?_
  refine j_iaload 2 C h w_X10_roundOf_g2 rfl dX10_roundOf_9 (fun h => ?_)
  obtain ⟨r_seeks_2, h_2, h⟩ := of_bind h
  refine j_callV1 C mk_X10_seeks ms_X10_seeks kw_1203 (c_X10_seeks (gl g) (gD g) N h_2) (by decide) 0 w_X10_roundOf_g0 rfl [0, 1, 2] (hC_cons w_X10_roundOf_g0 (hC_cons w_X10_roundOf_g1 (hC_cons w_X10_roundOf_g2 hC_nil))) rfl (w_X10_seeks_a.trans w_X10_seeks_a.symm) rfl rfl (Nat.le_of_ble_eq_true rfl) dX10_roundOf_10 (wput_cons w_X10_roundOf_s0 (wput_cons w_X10_roundOf_s1 (wput_cons w_X10_roundOf_s2 wput_nil))) ?_
  have h := Option.some.inj h
  subst h
  exact j_iret C E dX10_roundOf_13

def w_X10_walks (D : va_G) (q_this q_left q_steps q_p1 : Nat) (w_now w_kept w_trial w_refusals w_row w_letters w_dists w_partners w_times w_spliced w_piece w_balances w_prices w_hands w_hand w_dealing : Value) (v_hasImage : Int32) (v_rows : Int32) (v_lettered : Int32) (v_stepsMany : Int32) (v_splicedMany : Int32) (v_most : Int32) (v_together : Int32) (v_z : Int32) (v_left : (Nat → Int32)) (v_steps : (Nat → Int32)) (v_p1 : (Nat → Int32)) : va_W := [(q_this, .inr (9, [w_now, w_kept, w_trial, .int v_hasImage, w_refusals, w_row, .int v_rows, w_letters, .int v_lettered, w_dists, .ref q_left, .ref q_steps, .int v_stepsMany, w_partners, w_times, w_spliced, .int v_splicedMany, w_piece, w_balances, w_prices, w_hands, w_hand, w_dealing, .int v_most, .int v_together, .int v_z])), (q_left, .inl (D.1 100, 1536, .inl v_left)), (q_steps, .inl (D.1 100, 64, .inl v_steps)), (q_p1, .inl (D.1 100, 50, .inl v_p1))]
theorem w_X10_walks_g0 {D : va_G} {q_this : Nat} {q_left : Nat} {q_steps : Nat} {q_p1 : Nat} {w_now : Value} {w_kept : Value} {w_trial : Value} {w_refusals : Value} {w_row : Value} {w_letters : Value} {w_dists : Value} {w_partners : Value} {w_times : Value} {w_spliced : Value} {w_piece : Value} {w_balances : Value} {w_prices : Value} {w_hands : Value} {w_hand : Value} {w_dealing : Value} {v_hasImage : Int32} {v_rows : Int32} {v_lettered : Int32} {v_stepsMany : Int32} {v_splicedMany : Int32} {v_most : Int32} {v_together : Int32} {v_z : Int32} {v_left : (Nat → Int32)} {v_steps : (Nat → Int32)} {v_p1 : (Nat → Int32)} : (w_X10_walks D q_this q_left q_steps q_p1 w_now w_kept w_trial w_refusals w_row w_letters w_dists w_partners w_times w_spliced w_piece w_balances w_prices w_hands w_hand w_dealing v_hasImage v_rows v_lettered v_stepsMany v_splicedMany v_most v_together v_z v_left v_steps v_p1)[0]? = some (q_this, .inr (9, [w_now, w_kept, w_trial, .int v_hasImage, w_refusals, w_row, .int v_rows, w_letters, .int v_lettered, w_dists, .ref q_left, .ref q_steps, .int v_stepsMany, w_partners, w_times, w_spliced, .int v_splicedMany, w_piece, w_balances, w_prices, w_hands, w_hand, w_dealing, .int v_most, .int v_together, .int v_z])) := rfl
theorem w_X10_walks_s0 {D : va_G} {q_this : Nat} {q_left : Nat} {q_steps : Nat} {q_p1 : Nat} {w_now : Value} {w_kept : Value} {w_trial : Value} {w_refusals : Value} {w_row : Value} {w_letters : Value} {w_dists : Value} {w_partners : Value} {w_times : Value} {w_spliced : Value} {w_piece : Value} {w_balances : Value} {w_prices : Value} {w_hands : Value} {w_hand : Value} {w_dealing : Value} {v_hasImage : Int32} {v_rows : Int32} {v_lettered : Int32} {v_stepsMany : Int32} {v_splicedMany : Int32} {v_most : Int32} {v_together : Int32} {v_z : Int32} {v_left : (Nat → Int32)} {v_steps : (Nat → Int32)} {v_p1 : (Nat → Int32)} {v_hasImage' : Int32} {v_rows' : Int32} {v_lettered' : Int32} {v_stepsMany' : Int32} {v_splicedMany' : Int32} {v_most' : Int32} {v_together' : Int32} {v_z' : Int32} : (w_X10_walks D q_this q_left q_steps q_p1 w_now w_kept w_trial w_refusals w_row w_letters w_dists w_partners w_times w_spliced w_piece w_balances w_prices w_hands w_hand w_dealing v_hasImage v_rows v_lettered v_stepsMany v_splicedMany v_most v_together v_z v_left v_steps v_p1).set 0 (q_this, .inr (9, [w_now, w_kept, w_trial, .int v_hasImage', w_refusals, w_row, .int v_rows', w_letters, .int v_lettered', w_dists, .ref q_left, .ref q_steps, .int v_stepsMany', w_partners, w_times, w_spliced, .int v_splicedMany', w_piece, w_balances, w_prices, w_hands, w_hand, w_dealing, .int v_most', .int v_together', .int v_z'])) = (w_X10_walks D q_this q_left q_steps q_p1 w_now w_kept w_trial w_refusals w_row w_letters w_dists w_partners w_times w_spliced w_piece w_balances w_prices w_hands w_hand w_dealing v_hasImage' v_rows' v_lettered' v_stepsMany' v_splicedMany' v_most' v_together' v_z' v_left v_steps v_p1) := rfl
theorem w_X10_walks_g1 {D : va_G} {q_this : Nat} {q_left : Nat} {q_steps : Nat} {q_p1 : Nat} {w_now : Value} {w_kept : Value} {w_trial : Value} {w_refusals : Value} {w_row : Value} {w_letters : Value} {w_dists : Value} {w_partners : Value} {w_times : Value} {w_spliced : Value} {w_piece : Value} {w_balances : Value} {w_prices : Value} {w_hands : Value} {w_hand : Value} {w_dealing : Value} {v_hasImage : Int32} {v_rows : Int32} {v_lettered : Int32} {v_stepsMany : Int32} {v_splicedMany : Int32} {v_most : Int32} {v_together : Int32} {v_z : Int32} {v_left : (Nat → Int32)} {v_steps : (Nat → Int32)} {v_p1 : (Nat → Int32)} : (w_X10_walks D q_this q_left q_steps q_p1 w_now w_kept w_trial w_refusals w_row w_letters w_dists w_partners w_times w_spliced w_piece w_balances w_prices w_hands w_hand w_dealing v_hasImage v_rows v_lettered v_stepsMany v_splicedMany v_most v_together v_z v_left v_steps v_p1)[1]? = some (q_left, .inl (D.1 100, 1536, .inl v_left)) := rfl
theorem w_X10_walks_s1 {D : va_G} {q_this : Nat} {q_left : Nat} {q_steps : Nat} {q_p1 : Nat} {w_now : Value} {w_kept : Value} {w_trial : Value} {w_refusals : Value} {w_row : Value} {w_letters : Value} {w_dists : Value} {w_partners : Value} {w_times : Value} {w_spliced : Value} {w_piece : Value} {w_balances : Value} {w_prices : Value} {w_hands : Value} {w_hand : Value} {w_dealing : Value} {v_hasImage : Int32} {v_rows : Int32} {v_lettered : Int32} {v_stepsMany : Int32} {v_splicedMany : Int32} {v_most : Int32} {v_together : Int32} {v_z : Int32} {v_left : (Nat → Int32)} {v_steps : (Nat → Int32)} {v_p1 : (Nat → Int32)} {v_left' : (Nat → Int32)} : (w_X10_walks D q_this q_left q_steps q_p1 w_now w_kept w_trial w_refusals w_row w_letters w_dists w_partners w_times w_spliced w_piece w_balances w_prices w_hands w_hand w_dealing v_hasImage v_rows v_lettered v_stepsMany v_splicedMany v_most v_together v_z v_left v_steps v_p1).set 1 (q_left, .inl (D.1 100, 1536, .inl v_left')) = (w_X10_walks D q_this q_left q_steps q_p1 w_now w_kept w_trial w_refusals w_row w_letters w_dists w_partners w_times w_spliced w_piece w_balances w_prices w_hands w_hand w_dealing v_hasImage v_rows v_lettered v_stepsMany v_splicedMany v_most v_together v_z v_left' v_steps v_p1) := rfl
theorem w_X10_walks_g2 {D : va_G} {q_this : Nat} {q_left : Nat} {q_steps : Nat} {q_p1 : Nat} {w_now : Value} {w_kept : Value} {w_trial : Value} {w_refusals : Value} {w_row : Value} {w_letters : Value} {w_dists : Value} {w_partners : Value} {w_times : Value} {w_spliced : Value} {w_piece : Value} {w_balances : Value} {w_prices : Value} {w_hands : Value} {w_hand : Value} {w_dealing : Value} {v_hasImage : Int32} {v_rows : Int32} {v_lettered : Int32} {v_stepsMany : Int32} {v_splicedMany : Int32} {v_most : Int32} {v_together : Int32} {v_z : Int32} {v_left : (Nat → Int32)} {v_steps : (Nat → Int32)} {v_p1 : (Nat → Int32)} : (w_X10_walks D q_this q_left q_steps q_p1 w_now w_kept w_trial w_refusals w_row w_letters w_dists w_partners w_times w_spliced w_piece w_balances w_prices w_hands w_hand w_dealing v_hasImage v_rows v_lettered v_stepsMany v_splicedMany v_most v_together v_z v_left v_steps v_p1)[2]? = some (q_steps, .inl (D.1 100, 64, .inl v_steps)) := rfl
theorem w_X10_walks_s2 {D : va_G} {q_this : Nat} {q_left : Nat} {q_steps : Nat} {q_p1 : Nat} {w_now : Value} {w_kept : Value} {w_trial : Value} {w_refusals : Value} {w_row : Value} {w_letters : Value} {w_dists : Value} {w_partners : Value} {w_times : Value} {w_spliced : Value} {w_piece : Value} {w_balances : Value} {w_prices : Value} {w_hands : Value} {w_hand : Value} {w_dealing : Value} {v_hasImage : Int32} {v_rows : Int32} {v_lettered : Int32} {v_stepsMany : Int32} {v_splicedMany : Int32} {v_most : Int32} {v_together : Int32} {v_z : Int32} {v_left : (Nat → Int32)} {v_steps : (Nat → Int32)} {v_p1 : (Nat → Int32)} {v_steps' : (Nat → Int32)} : (w_X10_walks D q_this q_left q_steps q_p1 w_now w_kept w_trial w_refusals w_row w_letters w_dists w_partners w_times w_spliced w_piece w_balances w_prices w_hands w_hand w_dealing v_hasImage v_rows v_lettered v_stepsMany v_splicedMany v_most v_together v_z v_left v_steps v_p1).set 2 (q_steps, .inl (D.1 100, 64, .inl v_steps')) = (w_X10_walks D q_this q_left q_steps q_p1 w_now w_kept w_trial w_refusals w_row w_letters w_dists w_partners w_times w_spliced w_piece w_balances w_prices w_hands w_hand w_dealing v_hasImage v_rows v_lettered v_stepsMany v_splicedMany v_most v_together v_z v_left v_steps' v_p1) := rfl
theorem w_X10_walks_g3 {D : va_G} {q_this : Nat} {q_left : Nat} {q_steps : Nat} {q_p1 : Nat} {w_now : Value} {w_kept : Value} {w_trial : Value} {w_refusals : Value} {w_row : Value} {w_letters : Value} {w_dists : Value} {w_partners : Value} {w_times : Value} {w_spliced : Value} {w_piece : Value} {w_balances : Value} {w_prices : Value} {w_hands : Value} {w_hand : Value} {w_dealing : Value} {v_hasImage : Int32} {v_rows : Int32} {v_lettered : Int32} {v_stepsMany : Int32} {v_splicedMany : Int32} {v_most : Int32} {v_together : Int32} {v_z : Int32} {v_left : (Nat → Int32)} {v_steps : (Nat → Int32)} {v_p1 : (Nat → Int32)} : (w_X10_walks D q_this q_left q_steps q_p1 w_now w_kept w_trial w_refusals w_row w_letters w_dists w_partners w_times w_spliced w_piece w_balances w_prices w_hands w_hand w_dealing v_hasImage v_rows v_lettered v_stepsMany v_splicedMany v_most v_together v_z v_left v_steps v_p1)[3]? = some (q_p1, .inl (D.1 100, 50, .inl v_p1)) := rfl
theorem w_X10_walks_s3 {D : va_G} {q_this : Nat} {q_left : Nat} {q_steps : Nat} {q_p1 : Nat} {w_now : Value} {w_kept : Value} {w_trial : Value} {w_refusals : Value} {w_row : Value} {w_letters : Value} {w_dists : Value} {w_partners : Value} {w_times : Value} {w_spliced : Value} {w_piece : Value} {w_balances : Value} {w_prices : Value} {w_hands : Value} {w_hand : Value} {w_dealing : Value} {v_hasImage : Int32} {v_rows : Int32} {v_lettered : Int32} {v_stepsMany : Int32} {v_splicedMany : Int32} {v_most : Int32} {v_together : Int32} {v_z : Int32} {v_left : (Nat → Int32)} {v_steps : (Nat → Int32)} {v_p1 : (Nat → Int32)} {v_p1' : (Nat → Int32)} : (w_X10_walks D q_this q_left q_steps q_p1 w_now w_kept w_trial w_refusals w_row w_letters w_dists w_partners w_times w_spliced w_piece w_balances w_prices w_hands w_hand w_dealing v_hasImage v_rows v_lettered v_stepsMany v_splicedMany v_most v_together v_z v_left v_steps v_p1).set 3 (q_p1, .inl (D.1 100, 50, .inl v_p1')) = (w_X10_walks D q_this q_left q_steps q_p1 w_now w_kept w_trial w_refusals w_row w_letters w_dists w_partners w_times w_spliced w_piece w_balances w_prices w_hands w_hand w_dealing v_hasImage v_rows v_lettered v_stepsMany v_splicedMany v_most v_together v_z v_left v_steps v_p1') := rfl
theorem w_X10_walks_a {D : va_G} {q_this : Nat} {q_left : Nat} {q_steps : Nat} {q_p1 : Nat} {w_now : Value} {w_kept : Value} {w_trial : Value} {w_refusals : Value} {w_row : Value} {w_letters : Value} {w_dists : Value} {w_partners : Value} {w_times : Value} {w_spliced : Value} {w_piece : Value} {w_balances : Value} {w_prices : Value} {w_hands : Value} {w_hand : Value} {w_dealing : Value} {v_hasImage : Int32} {v_rows : Int32} {v_lettered : Int32} {v_stepsMany : Int32} {v_splicedMany : Int32} {v_most : Int32} {v_together : Int32} {v_z : Int32} {v_left : (Nat → Int32)} {v_steps : (Nat → Int32)} {v_p1 : (Nat → Int32)} : (w_X10_walks D q_this q_left q_steps q_p1 w_now w_kept w_trial w_refusals w_row w_letters w_dists w_partners w_times w_spliced w_piece w_balances w_prices w_hands w_hand w_dealing v_hasImage v_rows v_lettered v_stepsMany v_splicedMany v_most v_together v_z v_left v_steps v_p1).map (fun q => q.1) = [q_this, q_left, q_steps, q_p1] := rfl
def f_X10_walks_b36 (x7_36 : Int32) (x4_28 : Int32) (v_p1 : (Nat → Int32)) (r_due_2_0 : Int32) (x5_28 : Int32) (r_roundOf_1_1 : (Nat → Int32)) (x6_28 : Int32) : Option (Int32 ⊕ Int32) :=
  (f_X10_goes x7_36 x4_28 v_p1).bind (fun r_goes_3 => (if r_goes_3 = 0 then some (.inl (x7_36 + (1 : Int32))) else (f_X10_leaves r_due_2_0 x5_28 x7_36 r_roundOf_1_1 v_p1).bind (fun r_leaves_4 => (if r_leaves_4 = x6_28 then some (.inr x7_36) else some (.inl (x7_36 + (1 : Int32)))))))
def f_X10_walks_b28 (N : Nat) (x6_28 : Int32) (v_stepsMany_28 : Int32) (v_steps_28 : (Nat → Int32)) (x4_28 : Int32) (v_p1 : (Nat → Int32)) (r_due_2_0 : Int32) (x5_28 : Int32) (r_roundOf_1_1 : (Nat → Int32)) : Option ((Int32 × Int32 × Int32 × Int32 × (Nat → Int32)) ⊕ (Int32 × (Nat → Int32))) :=
  (if x6_28 ≤ 0 then some (.inr (v_stepsMany_28, v_steps_28)) else (lp (fun s_36 => f_X10_walks_b36 s_36 x4_28 v_p1 r_due_2_0 x5_28 r_roundOf_1_1 x6_28) N ((0 : Int32))).bind (fun e_36 => ga v_stepsMany_28 64 ((f_X10_cost e_36 v_p1).bind (fun r_cost_5 => (f_X10_ends e_36 v_p1).bind (fun r_ends_6 => some (.inl (r_ends_6, x5_28 ||| (r_due_2_0 &&& ((1 : Int32) <<< ((e_36 / (2 : Int32)) &&& 31))), x6_28 - r_cost_5, v_stepsMany_28 + (1 : Int32), upd v_steps_28 (Int32.toNatClampNeg v_stepsMany_28) e_36)))))))
def f_X10_walks (N : Nat) (v_stepsMany : Int32) (v_left : (Nat → Int32)) (v_steps : (Nat → Int32)) (v_p1 : (Nat → Int32)) : Option (Int32 × Int32 × (Nat → Int32) × (Nat → Int32)) :=
  (f_X10_roundOf N v_left v_p1).bind (fun r_roundOf_1 => (f_X10_due N v_p1).bind (fun r_due_2 => ga (48 : Int32) 50 ((lp (fun s_28 => f_X10_walks_b28 N s_28.2.2.1 s_28.2.2.2.1 s_28.2.2.2.2 s_28.1 v_p1 r_due_2 s_28.2.1 r_roundOf_1.2) N (v_p1 (Int32.toNatClampNeg (48 : Int32)), (0 : Int32), r_roundOf_1.1, (0 : Int32), v_steps)).bind (fun e_28 => some (r_roundOf_1.1, e_28.1, r_roundOf_1.2, e_28.2)))))
set_option maxRecDepth 100000 in
set_option maxHeartbeats 4000000 in
theorem c_X10_walks (l : Launch) (D : va_G) (N : Nat) {q_this q_left q_steps q_p1 : Nat} {w_now w_kept w_trial w_refusals w_row w_letters w_dists w_partners w_times w_spliced w_piece w_balances w_prices w_hands w_hand w_dealing : Value} {v_hasImage : Int32} {v_rows : Int32} {v_lettered : Int32} {v_stepsMany : Int32} {v_splicedMany : Int32} {v_most : Int32} {v_together : Int32} {v_z : Int32} {v_left : (Nat → Int32)} {v_steps : (Nat → Int32)} {v_p1 : (Nat → Int32)} {o : (Int32 × Int32 × (Nat → Int32) × (Nat → Int32))} (h : f_X10_walks N v_stepsMany v_left v_steps v_p1 = some o) : CT l D yX10_walks cX10_walks 8 (Option.some FieldType.int) 5 [.ref q_this, .ref q_p1] (w_X10_walks D q_this q_left q_steps q_p1 w_now w_kept w_trial w_refusals w_row w_letters w_dists w_partners w_times w_spliced w_piece w_balances w_prices w_hands w_hand w_dealing v_hasImage v_rows v_lettered v_stepsMany v_splicedMany v_most v_together v_z v_left v_steps v_p1) (w_X10_walks D q_this q_left q_steps q_p1 w_now w_kept w_trial w_refusals w_row w_letters w_dists w_partners w_times w_spliced w_piece w_balances w_prices w_hands w_hand w_dealing v_hasImage v_rows v_lettered o.2.1 v_splicedMany v_most v_together v_z o.2.2.1 o.2.2.2 v_p1) (some (.int o.1)) := by
  refine CT.of mk_X10_walks (Nat.le_of_ble_eq_true rfl) (fun g hl hD C E => ?_)
  subst hl
  subst hD
  unfold f_X10_walks at h
  refine j_aload_n C dX10_walks_0 rfl ?_
  refine j_aload_n C dX10_walks_1 rfl ?_
  obtain ⟨r_roundOf_1, h_1, h⟩ := of_bind h
  refine j_callV1 C mk_X10_roundOf ms_X10_roundOf kw_1196 (c_X10_roundOf (gl g) (gD g) N h_1) (by decide) 0 w_X10_walks_g0 rfl [0, 1, 3] (hC_cons w_X10_walks_g0 (hC_cons w_X10_walks_g1 (hC_cons w_X10_walks_g3 hC_nil))) rfl (w_X10_roundOf_a.trans w_X10_roundOf_a.symm) rfl rfl (Nat.le_of_ble_eq_true rfl) dX10_walks_2 (wput_cons w_X10_walks_s0 (wput_cons w_X10_walks_s1 (wput_cons w_X10_walks_s3 wput_nil))) ?_
  refine j_istore_n C dX10_walks_5 (by decide) ?_
  refine j_aload_n C dX10_walks_6 rfl ?_
  obtain ⟨r_due_2, h_2, h⟩ := of_bind h
  refine j_callS1 C mk_X10_due ms_X10_due kw_1200 (c_X10_due (gl g) (gD g) N h_2) (by decide) [3] (hC_cons w_X10_walks_g3 hC_nil) rfl (w_X10_due_a.trans w_X10_due_a.symm) rfl rfl (Nat.le_of_ble_eq_true rfl) dX10_walks_7 (wput_cons w_X10_walks_s3 wput_nil) ?_
  refine j_istore_n C dX10_walks_10 (by decide) ?_
  refine j_aload_n C dX10_walks_11 rfl ?_
  refine j_bipush C (48) dX10_walks_12 kb_48 ?_
  refine j_iaload 3 C h w_X10_walks_g3 rfl dX10_walks_14 (fun h => ?_)
  refine j_istore C dX10_walks_15 (by decide) ?_
  refine j_iconst C (0) dX10_walks_17 ki_0 ?_
  refine j_istore C dX10_walks_18 (by decide) ?_
  refine j_iload_n C dX10_walks_20 rfl ?_
  refine j_istore C dX10_walks_21 (by decide) ?_
  refine j_aload_n C dX10_walks_23 rfl ?_
  refine j_iconst C (0) dX10_walks_24 ki_0 ?_
  refine j_put C 0 w_X10_walks_g0 rfl inX10 tyX10_ok nmX10 12 (by decide) kw_993 rfl rfl rfl rfl (Nat.le_of_ble_eq_true rfl) dX10_walks_25 ?_
  refine j_ws w_X10_walks_s0 ?_
  obtain ⟨e_28, hl_28, h⟩ := of_bind h
  have ha_28 : J g (w_X10_walks (gD g) q_this q_left q_steps q_p1 w_now w_kept w_trial w_refusals w_row w_letters w_dists w_partners w_times w_spliced w_piece w_balances w_prices w_hands w_hand w_dealing v_hasImage v_rows v_lettered e_28.1 v_splicedMany v_most v_together v_z r_roundOf_1.2 e_28.2 v_p1) [(2, .int (r_roundOf_1.1))] 124 [] := by
    refine j_iload_n C dX10_walks_124 rfl ?_
    have h := Option.some.inj h
    subst h
    exact j_iret C E dX10_walks_125
  refine j_lv (lv' := [(0, .ref q_this), (1, .ref q_p1), (2, .int (r_roundOf_1.1)), (3, .int (r_due_2)), (4, .int (v_p1 (Int32.toNatClampNeg (48 : Int32)))), (5, .int ((0 : Int32))), (6, .int (r_roundOf_1.1))]) rfl ?_
  refine lp_ind hl_28 (fun s_28 => J g (w_X10_walks (gD g) q_this q_left q_steps q_p1 w_now w_kept w_trial w_refusals w_row w_letters w_dists w_partners w_times w_spliced w_piece w_balances w_prices w_hands w_hand w_dealing v_hasImage v_rows v_lettered s_28.2.2.2.1 v_splicedMany v_most v_together v_z r_roundOf_1.2 s_28.2.2.2.2 v_p1) [(0, .ref q_this), (1, .ref q_p1), (2, .int (r_roundOf_1.1)), (3, .int (r_due_2)), (4, .int (s_28.1)), (5, .int (s_28.2.1)), (6, .int (s_28.2.2.1))] 28 []) (fun s_28 r_28 h hc_28 hx_28 => ?_)
  unfold f_X10_walks_b28 at h
  refine j_iload C dX10_walks_28 rfl ?_
  refine j_if_le C h 124 dX10_walks_30 (by decide) (fun hc h => ?_) (fun hc h => ?_)
  · have h := Option.some.inj h
    subst h
    have h9 := hx_28 _ rfl
    subst h9
    exact j_lw ha_28 rfl
  · refine j_iconst C (0) dX10_walks_33 ki_0 ?_
    refine j_istore C dX10_walks_34 (by decide) ?_
    obtain ⟨e_36, hl_36, h⟩ := of_bind h
    have ha_36 : J g (w_X10_walks (gD g) q_this q_left q_steps q_p1 w_now w_kept w_trial w_refusals w_row w_letters w_dists w_partners w_times w_spliced w_piece w_balances w_prices w_hands w_hand w_dealing v_hasImage v_rows v_lettered s_28.2.2.2.1 v_splicedMany v_most v_together v_z r_roundOf_1.2 s_28.2.2.2.2 v_p1) [(0, .ref q_this), (1, .ref q_p1), (2, .int (r_roundOf_1.1)), (3, .int (r_due_2)), (5, .int (s_28.2.1)), (6, .int (s_28.2.2.1)), (7, .int (e_36))] 68 [] := by
      refine j_aload_n C dX10_walks_68 rfl ?_
      refine j_get C 0 w_X10_walks_g0 rfl inX10 11 (by decide) kw_992 rfl rfl dX10_walks_69 ?_
      refine j_aload_n C dX10_walks_72 rfl ?_
      refine j_get C 0 w_X10_walks_g0 rfl inX10 12 (by decide) kw_993 rfl rfl dX10_walks_73 ?_
      refine j_iload C dX10_walks_76 rfl ?_
      refine j_iastore 2 C h w_X10_walks_g2 rfl dX10_walks_78 (fun h => ?_)
      refine j_ws w_X10_walks_s2 ?_
      refine j_aload_n C dX10_walks_79 rfl ?_
      refine j_dup C dX10_walks_80 rfl ?_
      refine j_get C 0 w_X10_walks_g0 rfl inX10 12 (by decide) kw_993 rfl rfl dX10_walks_81 ?_
      refine j_iconst C (1) dX10_walks_84 ki_1 ?_
      refine j_iadd C dX10_walks_85 ?_
      refine j_put C 0 w_X10_walks_g0 rfl inX10 tyX10_ok nmX10 12 (by decide) kw_993 rfl rfl rfl rfl (Nat.le_of_ble_eq_true rfl) dX10_walks_86 ?_
      refine j_ws w_X10_walks_s0 ?_
      refine j_iload C dX10_walks_89 rfl ?_
      refine j_aload_n C dX10_walks_91 rfl ?_
      refine j_iload C dX10_walks_92 rfl ?_
      obtain ⟨r_cost_5, h_5, h⟩ := of_bind h
      refine j_callS1 C mk_X10_cost ms_X10_cost kw_1142 (c_X10_cost (gl g) (gD g) h_5) (by decide) [3] (hC_cons w_X10_walks_g3 hC_nil) rfl (w_X10_cost_a.trans w_X10_cost_a.symm) rfl rfl (Nat.le_of_ble_eq_true rfl) dX10_walks_94 (wput_cons w_X10_walks_s3 wput_nil) ?_
      refine j_isub C dX10_walks_97 ?_
      refine j_istore C dX10_walks_98 (by decide) ?_
      refine j_iload C dX10_walks_100 rfl ?_
      refine j_iload_n C dX10_walks_102 rfl ?_
      refine j_iconst C (1) dX10_walks_103 ki_1 ?_
      refine j_iload C dX10_walks_104 rfl ?_
      refine j_iconst C (2) dX10_walks_106 ki_2 ?_
      refine j_idivc C (by decide) dX10_walks_107 ?_
      refine j_ishl C dX10_walks_108 ?_
      refine j_iand C dX10_walks_109 ?_
      refine j_ior C dX10_walks_110 ?_
      refine j_istore C dX10_walks_111 (by decide) ?_
      refine j_aload_n C dX10_walks_113 rfl ?_
      refine j_iload C dX10_walks_114 rfl ?_
      obtain ⟨r_ends_6, h_6, h⟩ := of_bind h
      refine j_callS1 C mk_X10_ends ms_X10_ends kw_1164 (c_X10_ends (gl g) (gD g) h_6) (by decide) [3] (hC_cons w_X10_walks_g3 hC_nil) rfl (w_X10_ends_a.trans w_X10_ends_a.symm) rfl rfl (Nat.le_of_ble_eq_true rfl) dX10_walks_116 (wput_cons w_X10_walks_s3 wput_nil) ?_
      refine j_istore C dX10_walks_119 (by decide) ?_
      refine j_goto C 28 dX10_walks_121 (by decide) ?_
      have h := Option.some.inj h
      subst h
      have hc9 := hc_28 _ rfl
      exact j_lw hc9 rfl
    refine j_lv (lv' := [(0, .ref q_this), (1, .ref q_p1), (2, .int (r_roundOf_1.1)), (3, .int (r_due_2)), (4, .int (s_28.1)), (5, .int (s_28.2.1)), (6, .int (s_28.2.2.1)), (7, .int ((0 : Int32)))]) rfl ?_
    refine lp_ind hl_36 (fun s_36 => J g (w_X10_walks (gD g) q_this q_left q_steps q_p1 w_now w_kept w_trial w_refusals w_row w_letters w_dists w_partners w_times w_spliced w_piece w_balances w_prices w_hands w_hand w_dealing v_hasImage v_rows v_lettered s_28.2.2.2.1 v_splicedMany v_most v_together v_z r_roundOf_1.2 s_28.2.2.2.2 v_p1) [(0, .ref q_this), (1, .ref q_p1), (2, .int (r_roundOf_1.1)), (3, .int (r_due_2)), (4, .int (s_28.1)), (5, .int (s_28.2.1)), (6, .int (s_28.2.2.1)), (7, .int (s_36))] 36 []) (fun s_36 r_36 h hc_36 hx_36 => ?_)
    unfold f_X10_walks_b36 at h
    refine j_aload_n C dX10_walks_36 rfl ?_
    refine j_iload C dX10_walks_37 rfl ?_
    refine j_iload C dX10_walks_39 rfl ?_
    obtain ⟨r_goes_3, h_3, h⟩ := of_bind h
    refine j_callS1 C mk_X10_goes ms_X10_goes kw_1184 (c_X10_goes (gl g) (gD g) h_3) (by decide) [3] (hC_cons w_X10_walks_g3 hC_nil) rfl (w_X10_goes_a.trans w_X10_goes_a.symm) rfl rfl (Nat.le_of_ble_eq_true rfl) dX10_walks_41 (wput_cons w_X10_walks_s3 wput_nil) ?_
    refine j_if_eq C h 62 dX10_walks_44 (by decide) (fun hc h => ?_) (fun hc h => ?_)
    · refine j_inc C (1) dX10_walks_62 rfl ki_1 (by decide) ?_
      refine j_goto C 36 dX10_walks_65 (by decide) ?_
      have h := Option.some.inj h
      subst h
      have hc9 := hc_36 _ rfl
      exact j_lw hc9 rfl
    · refine j_aload_n C dX10_walks_47 rfl ?_
      refine j_aload_n C dX10_walks_48 rfl ?_
      refine j_iload_n C dX10_walks_49 rfl ?_
      refine j_iload C dX10_walks_50 rfl ?_
      refine j_iload C dX10_walks_52 rfl ?_
      obtain ⟨r_leaves_4, h_4, h⟩ := of_bind h
      refine j_callV1 C mk_X10_leaves ms_X10_leaves kw_1211 (c_X10_leaves (gl g) (gD g) h_4) (by decide) 0 w_X10_walks_g0 rfl [0, 1, 3] (hC_cons w_X10_walks_g0 (hC_cons w_X10_walks_g1 (hC_cons w_X10_walks_g3 hC_nil))) rfl (w_X10_leaves_a.trans w_X10_leaves_a.symm) rfl rfl (Nat.le_of_ble_eq_true rfl) dX10_walks_54 (wput_cons w_X10_walks_s0 (wput_cons w_X10_walks_s1 (wput_cons w_X10_walks_s3 wput_nil))) ?_
      refine j_iload C dX10_walks_57 rfl ?_
      refine j_icmp_eq C h 68 dX10_walks_59 (by decide) (fun hc h => ?_) (fun hc h => ?_)
      · have h := Option.some.inj h
        subst h
        have h9 := hx_36 _ rfl
        subst h9
        exact j_lw ha_36 rfl
      · refine j_inc C (1) dX10_walks_62 rfl ki_1 (by decide) ?_
        refine j_goto C 36 dX10_walks_65 (by decide) ?_
        have h := Option.some.inj h
        subst h
        have hc9 := hc_36 _ rfl
        exact j_lw hc9 rfl

def w_X10_isAgain (D : va_G) (q_this q_steps q_p1 : Nat) (w_now w_kept w_trial w_refusals w_row w_letters w_dists w_left w_partners w_times w_spliced w_piece w_balances w_prices w_hands w_hand w_dealing : Value) (v_hasImage : Int32) (v_rows : Int32) (v_lettered : Int32) (v_stepsMany : Int32) (v_splicedMany : Int32) (v_most : Int32) (v_together : Int32) (v_z : Int32) (v_steps : (Nat → Int32)) (v_p1 : (Nat → Int32)) : va_W := [(q_this, .inr (9, [w_now, w_kept, w_trial, .int v_hasImage, w_refusals, w_row, .int v_rows, w_letters, .int v_lettered, w_dists, w_left, .ref q_steps, .int v_stepsMany, w_partners, w_times, w_spliced, .int v_splicedMany, w_piece, w_balances, w_prices, w_hands, w_hand, w_dealing, .int v_most, .int v_together, .int v_z])), (q_steps, .inl (D.1 100, 64, .inl v_steps)), (q_p1, .inl (D.1 100, 50, .inl v_p1))]
theorem w_X10_isAgain_g0 {D : va_G} {q_this : Nat} {q_steps : Nat} {q_p1 : Nat} {w_now : Value} {w_kept : Value} {w_trial : Value} {w_refusals : Value} {w_row : Value} {w_letters : Value} {w_dists : Value} {w_left : Value} {w_partners : Value} {w_times : Value} {w_spliced : Value} {w_piece : Value} {w_balances : Value} {w_prices : Value} {w_hands : Value} {w_hand : Value} {w_dealing : Value} {v_hasImage : Int32} {v_rows : Int32} {v_lettered : Int32} {v_stepsMany : Int32} {v_splicedMany : Int32} {v_most : Int32} {v_together : Int32} {v_z : Int32} {v_steps : (Nat → Int32)} {v_p1 : (Nat → Int32)} : (w_X10_isAgain D q_this q_steps q_p1 w_now w_kept w_trial w_refusals w_row w_letters w_dists w_left w_partners w_times w_spliced w_piece w_balances w_prices w_hands w_hand w_dealing v_hasImage v_rows v_lettered v_stepsMany v_splicedMany v_most v_together v_z v_steps v_p1)[0]? = some (q_this, .inr (9, [w_now, w_kept, w_trial, .int v_hasImage, w_refusals, w_row, .int v_rows, w_letters, .int v_lettered, w_dists, w_left, .ref q_steps, .int v_stepsMany, w_partners, w_times, w_spliced, .int v_splicedMany, w_piece, w_balances, w_prices, w_hands, w_hand, w_dealing, .int v_most, .int v_together, .int v_z])) := rfl
theorem w_X10_isAgain_s0 {D : va_G} {q_this : Nat} {q_steps : Nat} {q_p1 : Nat} {w_now : Value} {w_kept : Value} {w_trial : Value} {w_refusals : Value} {w_row : Value} {w_letters : Value} {w_dists : Value} {w_left : Value} {w_partners : Value} {w_times : Value} {w_spliced : Value} {w_piece : Value} {w_balances : Value} {w_prices : Value} {w_hands : Value} {w_hand : Value} {w_dealing : Value} {v_hasImage : Int32} {v_rows : Int32} {v_lettered : Int32} {v_stepsMany : Int32} {v_splicedMany : Int32} {v_most : Int32} {v_together : Int32} {v_z : Int32} {v_steps : (Nat → Int32)} {v_p1 : (Nat → Int32)} {v_hasImage' : Int32} {v_rows' : Int32} {v_lettered' : Int32} {v_stepsMany' : Int32} {v_splicedMany' : Int32} {v_most' : Int32} {v_together' : Int32} {v_z' : Int32} : (w_X10_isAgain D q_this q_steps q_p1 w_now w_kept w_trial w_refusals w_row w_letters w_dists w_left w_partners w_times w_spliced w_piece w_balances w_prices w_hands w_hand w_dealing v_hasImage v_rows v_lettered v_stepsMany v_splicedMany v_most v_together v_z v_steps v_p1).set 0 (q_this, .inr (9, [w_now, w_kept, w_trial, .int v_hasImage', w_refusals, w_row, .int v_rows', w_letters, .int v_lettered', w_dists, w_left, .ref q_steps, .int v_stepsMany', w_partners, w_times, w_spliced, .int v_splicedMany', w_piece, w_balances, w_prices, w_hands, w_hand, w_dealing, .int v_most', .int v_together', .int v_z'])) = (w_X10_isAgain D q_this q_steps q_p1 w_now w_kept w_trial w_refusals w_row w_letters w_dists w_left w_partners w_times w_spliced w_piece w_balances w_prices w_hands w_hand w_dealing v_hasImage' v_rows' v_lettered' v_stepsMany' v_splicedMany' v_most' v_together' v_z' v_steps v_p1) := rfl
theorem w_X10_isAgain_g1 {D : va_G} {q_this : Nat} {q_steps : Nat} {q_p1 : Nat} {w_now : Value} {w_kept : Value} {w_trial : Value} {w_refusals : Value} {w_row : Value} {w_letters : Value} {w_dists : Value} {w_left : Value} {w_partners : Value} {w_times : Value} {w_spliced : Value} {w_piece : Value} {w_balances : Value} {w_prices : Value} {w_hands : Value} {w_hand : Value} {w_dealing : Value} {v_hasImage : Int32} {v_rows : Int32} {v_lettered : Int32} {v_stepsMany : Int32} {v_splicedMany : Int32} {v_most : Int32} {v_together : Int32} {v_z : Int32} {v_steps : (Nat → Int32)} {v_p1 : (Nat → Int32)} : (w_X10_isAgain D q_this q_steps q_p1 w_now w_kept w_trial w_refusals w_row w_letters w_dists w_left w_partners w_times w_spliced w_piece w_balances w_prices w_hands w_hand w_dealing v_hasImage v_rows v_lettered v_stepsMany v_splicedMany v_most v_together v_z v_steps v_p1)[1]? = some (q_steps, .inl (D.1 100, 64, .inl v_steps)) := rfl
theorem w_X10_isAgain_s1 {D : va_G} {q_this : Nat} {q_steps : Nat} {q_p1 : Nat} {w_now : Value} {w_kept : Value} {w_trial : Value} {w_refusals : Value} {w_row : Value} {w_letters : Value} {w_dists : Value} {w_left : Value} {w_partners : Value} {w_times : Value} {w_spliced : Value} {w_piece : Value} {w_balances : Value} {w_prices : Value} {w_hands : Value} {w_hand : Value} {w_dealing : Value} {v_hasImage : Int32} {v_rows : Int32} {v_lettered : Int32} {v_stepsMany : Int32} {v_splicedMany : Int32} {v_most : Int32} {v_together : Int32} {v_z : Int32} {v_steps : (Nat → Int32)} {v_p1 : (Nat → Int32)} {v_steps' : (Nat → Int32)} : (w_X10_isAgain D q_this q_steps q_p1 w_now w_kept w_trial w_refusals w_row w_letters w_dists w_left w_partners w_times w_spliced w_piece w_balances w_prices w_hands w_hand w_dealing v_hasImage v_rows v_lettered v_stepsMany v_splicedMany v_most v_together v_z v_steps v_p1).set 1 (q_steps, .inl (D.1 100, 64, .inl v_steps')) = (w_X10_isAgain D q_this q_steps q_p1 w_now w_kept w_trial w_refusals w_row w_letters w_dists w_left w_partners w_times w_spliced w_piece w_balances w_prices w_hands w_hand w_dealing v_hasImage v_rows v_lettered v_stepsMany v_splicedMany v_most v_together v_z v_steps' v_p1) := rfl
theorem w_X10_isAgain_g2 {D : va_G} {q_this : Nat} {q_steps : Nat} {q_p1 : Nat} {w_now : Value} {w_kept : Value} {w_trial : Value} {w_refusals : Value} {w_row : Value} {w_letters : Value} {w_dists : Value} {w_left : Value} {w_partners : Value} {w_times : Value} {w_spliced : Value} {w_piece : Value} {w_balances : Value} {w_prices : Value} {w_hands : Value} {w_hand : Value} {w_dealing : Value} {v_hasImage : Int32} {v_rows : Int32} {v_lettered : Int32} {v_stepsMany : Int32} {v_splicedMany : Int32} {v_most : Int32} {v_together : Int32} {v_z : Int32} {v_steps : (Nat → Int32)} {v_p1 : (Nat → Int32)} : (w_X10_isAgain D q_this q_steps q_p1 w_now w_kept w_trial w_refusals w_row w_letters w_dists w_left w_partners w_times w_spliced w_piece w_balances w_prices w_hands w_hand w_dealing v_hasImage v_rows v_lettered v_stepsMany v_splicedMany v_most v_together v_z v_steps v_p1)[2]? = some (q_p1, .inl (D.1 100, 50, .inl v_p1)) := rfl
theorem w_X10_isAgain_s2 {D : va_G} {q_this : Nat} {q_steps : Nat} {q_p1 : Nat} {w_now : Value} {w_kept : Value} {w_trial : Value} {w_refusals : Value} {w_row : Value} {w_letters : Value} {w_dists : Value} {w_left : Value} {w_partners : Value} {w_times : Value} {w_spliced : Value} {w_piece : Value} {w_balances : Value} {w_prices : Value} {w_hands : Value} {w_hand : Value} {w_dealing : Value} {v_hasImage : Int32} {v_rows : Int32} {v_lettered : Int32} {v_stepsMany : Int32} {v_splicedMany : Int32} {v_most : Int32} {v_together : Int32} {v_z : Int32} {v_steps : (Nat → Int32)} {v_p1 : (Nat → Int32)} {v_p1' : (Nat → Int32)} : (w_X10_isAgain D q_this q_steps q_p1 w_now w_kept w_trial w_refusals w_row w_letters w_dists w_left w_partners w_times w_spliced w_piece w_balances w_prices w_hands w_hand w_dealing v_hasImage v_rows v_lettered v_stepsMany v_splicedMany v_most v_together v_z v_steps v_p1).set 2 (q_p1, .inl (D.1 100, 50, .inl v_p1')) = (w_X10_isAgain D q_this q_steps q_p1 w_now w_kept w_trial w_refusals w_row w_letters w_dists w_left w_partners w_times w_spliced w_piece w_balances w_prices w_hands w_hand w_dealing v_hasImage v_rows v_lettered v_stepsMany v_splicedMany v_most v_together v_z v_steps v_p1') := rfl
theorem w_X10_isAgain_a {D : va_G} {q_this : Nat} {q_steps : Nat} {q_p1 : Nat} {w_now : Value} {w_kept : Value} {w_trial : Value} {w_refusals : Value} {w_row : Value} {w_letters : Value} {w_dists : Value} {w_left : Value} {w_partners : Value} {w_times : Value} {w_spliced : Value} {w_piece : Value} {w_balances : Value} {w_prices : Value} {w_hands : Value} {w_hand : Value} {w_dealing : Value} {v_hasImage : Int32} {v_rows : Int32} {v_lettered : Int32} {v_stepsMany : Int32} {v_splicedMany : Int32} {v_most : Int32} {v_together : Int32} {v_z : Int32} {v_steps : (Nat → Int32)} {v_p1 : (Nat → Int32)} : (w_X10_isAgain D q_this q_steps q_p1 w_now w_kept w_trial w_refusals w_row w_letters w_dists w_left w_partners w_times w_spliced w_piece w_balances w_prices w_hands w_hand w_dealing v_hasImage v_rows v_lettered v_stepsMany v_splicedMany v_most v_together v_z v_steps v_p1).map (fun q => q.1) = [q_this, q_steps, q_p1] := rfl
def f_X10_isAgain_b27 (x2 : Int32) (x5_27 : Int32) (x4_27 : Int32) (v_steps : (Nat → Int32)) : Option ((Int32 × Int32) ⊕ Int32) :=
  (if x2 ≤ x5_27 then some (.inr x4_27) else (if x4_27 = 0 then ga x5_27 64 (some (.inl (if ((v_steps (Int32.toNatClampNeg x5_27)) / (2 : Int32)) = ((v_steps (Int32.toNatClampNeg x2)) / (2 : Int32)) then (1 : Int32) else (0 : Int32), x5_27 + (1 : Int32)))) else some (.inl ((1 : Int32), x5_27 + (1 : Int32)))))
def f_X10_isAgain (N : Nat) (x2 : Int32) (v_steps : (Nat → Int32)) (v_p1 : (Nat → Int32)) : Option Int32 :=
  ga x2 64 ((f_X10_isDue ((v_steps (Int32.toNatClampNeg x2)) / (2 : Int32)) v_p1).bind (fun r_isDue_1 => (lp (fun s_27 => f_X10_isAgain_b27 x2 s_27.2 s_27.1 v_steps) N (if r_isDue_1 = 0 then (1 : Int32) else (0 : Int32), (0 : Int32))).bind (fun e_27 => gb (e_27) (some e_27))))
set_option maxRecDepth 100000 in
set_option maxHeartbeats 4000000 in
theorem c_X10_isAgain (l : Launch) (D : va_G) (N : Nat) {q_this q_steps q_p1 : Nat} {w_now w_kept w_trial w_refusals w_row w_letters w_dists w_left w_partners w_times w_spliced w_piece w_balances w_prices w_hands w_hand w_dealing : Value} {v_hasImage : Int32} {v_rows : Int32} {v_lettered : Int32} {v_stepsMany : Int32} {v_splicedMany : Int32} {v_most : Int32} {v_together : Int32} {v_z : Int32} {v_steps : (Nat → Int32)} {v_p1 : (Nat → Int32)} {x2 : Int32} {o : Int32} (h : f_X10_isAgain N x2 v_steps v_p1 = some o) : CT l D yX10_isAgain cX10_isAgain 6 (Option.some FieldType.boolean) 1 [.ref q_this, .ref q_p1, .int x2] (w_X10_isAgain D q_this q_steps q_p1 w_now w_kept w_trial w_refusals w_row w_letters w_dists w_left w_partners w_times w_spliced w_piece w_balances w_prices w_hands w_hand w_dealing v_hasImage v_rows v_lettered v_stepsMany v_splicedMany v_most v_together v_z v_steps v_p1) (w_X10_isAgain D q_this q_steps q_p1 w_now w_kept w_trial w_refusals w_row w_letters w_dists w_left w_partners w_times w_spliced w_piece w_balances w_prices w_hands w_hand w_dealing v_hasImage v_rows v_lettered v_stepsMany v_splicedMany v_most v_together v_z v_steps v_p1) (some (.int o)) := by
  refine CT.of mk_X10_isAgain (Nat.le_of_ble_eq_true rfl) (fun g hl hD C E => ?_)
  subst hl
  subst hD
  unfold f_X10_isAgain at h
  refine j_aload_n C dX10_isAgain_0 rfl ?_
  refine j_get C 0 w_X10_isAgain_g0 rfl inX10 11 (by decide) kw_992 rfl rfl dX10_isAgain_1 ?_
  refine j_iload_n C dX10_isAgain_4 rfl ?_
  refine j_iaload 1 C h w_X10_isAgain_g1 rfl dX10_isAgain_5 (fun h => ?_)
  refine j_iconst C (2) dX10_isAgain_6 ki_2 ?_
  refine j_idivc C (by decide) dX10_isAgain_7 ?_
  refine j_istore_n C dX10_isAgain_8 (by decide) ?_
  refine j_aload_n C dX10_isAgain_9 rfl ?_
  refine j_iload_n C dX10_isAgain_10 rfl ?_
  obtain ⟨r_isDue_1, h_1, h⟩ := of_bind h
  refine j_callS1 C mk_X10_isDue ms_X10_isDue kw_1153 (c_X10_isDue (gl g) (gD g) h_1) (by decide) [2] (hC_cons w_X10_isAgain_g2 hC_nil) rfl (w_X10_isDue_a.trans w_X10_isDue_a.symm) rfl rfl (Nat.le_of_ble_eq_true rfl) dX10_isAgain_11 (wput_cons w_X10_isAgain_s2 wput_nil) ?_
  have hj_2 : J g (w_X10_isAgain (gD g) q_this q_steps q_p1 w_now w_kept w_trial w_refusals w_row w_letters w_dists w_left w_partners w_times w_spliced w_piece w_balances w_prices w_hands w_hand w_dealing v_hasImage v_rows v_lettered v_stepsMany v_splicedMany v_most v_together v_z v_steps v_p1) [(0, .ref q_this), (2, .int (x2)), (3, .int ((v_steps (Int32.toNatClampNeg x2)) / (2 : Int32)))] 22 [.int (if r_isDue_1 = 0 then (1 : Int32) else (0 : Int32))] := by
    refine j_istore C dX10_isAgain_22 (by decide) ?_
    refine j_iconst C (0) dX10_isAgain_24 ki_0 ?_
    refine j_istore C dX10_isAgain_25 (by decide) ?_
    obtain ⟨e_27, hl_27, h⟩ := of_bind h
    have ha_27 : J g (w_X10_isAgain (gD g) q_this q_steps q_p1 w_now w_kept w_trial w_refusals w_row w_letters w_dists w_left w_partners w_times w_spliced w_piece w_balances w_prices w_hands w_hand w_dealing v_hasImage v_rows v_lettered v_stepsMany v_splicedMany v_most v_together v_z v_steps v_p1) [(4, .int (e_27))] 64 [] := by
      refine j_iload C dX10_isAgain_64 rfl ?_
      obtain ⟨hz, h⟩ := of_gb h
      have h := Option.some.inj h
      subst h
      exact j_zret C E hz.1 dX10_isAgain_66
    refine j_lv (lv' := [(0, .ref q_this), (2, .int (x2)), (3, .int ((v_steps (Int32.toNatClampNeg x2)) / (2 : Int32))), (4, .int (if r_isDue_1 = 0 then (1 : Int32) else (0 : Int32))), (5, .int ((0 : Int32)))]) rfl ?_
    refine lp_ind hl_27 (fun s_27 => J g (w_X10_isAgain (gD g) q_this q_steps q_p1 w_now w_kept w_trial w_refusals w_row w_letters w_dists w_left w_partners w_times w_spliced w_piece w_balances w_prices w_hands w_hand w_dealing v_hasImage v_rows v_lettered v_stepsMany v_splicedMany v_most v_together v_z v_steps v_p1) [(0, .ref q_this), (2, .int (x2)), (3, .int ((v_steps (Int32.toNatClampNeg x2)) / (2 : Int32))), (4, .int (s_27.1)), (5, .int (s_27.2))] 27 []) (fun s_27 r_27 h hc_27 hx_27 => ?_)
    unfold f_X10_isAgain_b27 at h
    refine j_iload C dX10_isAgain_27 rfl ?_
    refine j_iload_n C dX10_isAgain_29 rfl ?_
    refine j_icmp_ge C h 64 dX10_isAgain_30 (by decide) (fun hc h => ?_) (fun hc h => ?_)
    · have h := Option.some.inj h
      subst h
      have h9 := hx_27 _ rfl
      subst h9
      exact j_lw ha_27 rfl
    · refine j_iload C dX10_isAgain_33 rfl ?_
      refine j_if_ne C h 51 dX10_isAgain_35 (by decide) (fun hc h => ?_) (fun hc h => ?_)
      · refine j_aload_n C dX10_isAgain_38 rfl ?_
        refine j_get C 0 w_X10_isAgain_g0 rfl inX10 11 (by decide) kw_992 rfl rfl dX10_isAgain_39 ?_
        refine j_iload C dX10_isAgain_42 rfl ?_
        refine j_iaload 1 C h w_X10_isAgain_g1 rfl dX10_isAgain_44 (fun h => ?_)
        refine j_iconst C (2) dX10_isAgain_45 ki_2 ?_
        refine j_idivc C (by decide) dX10_isAgain_46 ?_
        refine j_iload_n C dX10_isAgain_47 rfl ?_
        have hj_3 : J g (w_X10_isAgain (gD g) q_this q_steps q_p1 w_now w_kept w_trial w_refusals w_row w_letters w_dists w_left w_partners w_times w_spliced w_piece w_balances w_prices w_hands w_hand w_dealing v_hasImage v_rows v_lettered v_stepsMany v_splicedMany v_most v_together v_z v_steps v_p1) [(0, .ref q_this), (2, .int (x2)), (3, .int ((v_steps (Int32.toNatClampNeg x2)) / (2 : Int32))), (5, .int (s_27.2))] 56 [.int (if ((v_steps (Int32.toNatClampNeg s_27.2)) / (2 : Int32)) = ((v_steps (Int32.toNatClampNeg x2)) / (2 : Int32)) then (1 : Int32) else (0 : Int32))] := by
          refine j_istore C dX10_isAgain_56 (by decide) ?_
          refine j_inc C (1) dX10_isAgain_58 rfl ki_1 (by decide) ?_
          refine j_goto C 27 dX10_isAgain_61 (by decide) ?_
          have h := Option.some.inj h
          subst h
          have hc9 := hc_27 _ rfl
          exact j_lw hc9 rfl
        refine jv_icmp_ne C 55 dX10_isAgain_48 (by decide) (fun hc => ?_) (fun hc => ?_)
        · try simp only [if_pos hc] at hj_3
          refine j_iconst C (1) dX10_isAgain_51 ki_1 ?_
          refine j_goto C 56 dX10_isAgain_52 (by decide) ?_
          exact j_lw hj_3 rfl
        · try simp only [if_neg hc] at hj_3
          refine j_iconst C (0) dX10_isAgain_55 ki_0 ?_
          exact j_lw hj_3 rfl
      · refine j_iconst C (1) dX10_isAgain_51 ki_1 ?_
        refine j_goto C 56 dX10_isAgain_52 (by decide) ?_
        refine j_istore C dX10_isAgain_56 (by decide) ?_
        refine j_inc C (1) dX10_isAgain_58 rfl ki_1 (by decide) ?_
        refine j_goto C 27 dX10_isAgain_61 (by decide) ?_
        have h := Option.some.inj h
        subst h
        have hc9 := hc_27 _ rfl
        exact j_lw hc9 rfl
  refine jv_if_ne C 21 dX10_isAgain_14 (by decide) (fun hc => ?_) (fun hc => ?_)
  · try simp only [if_pos hc] at hj_2
    refine j_iconst C (1) dX10_isAgain_17 ki_1 ?_
    refine j_goto C 22 dX10_isAgain_18 (by decide) ?_
    exact j_lw hj_2 rfl
  · try simp only [if_neg hc] at hj_2
    refine j_iconst C (0) dX10_isAgain_21 ki_0 ?_
    exact j_lw hj_2 rfl

def w_X10_letter (D : va_G) (q_this q_refusals q_letters : Nat) (w_now w_kept w_trial w_row w_dists w_left w_steps w_partners w_times w_spliced w_piece w_balances w_prices w_hands w_hand w_dealing : Value) (v_hasImage : Int32) (v_rows : Int32) (v_lettered : Int32) (v_stepsMany : Int32) (v_splicedMany : Int32) (v_most : Int32) (v_together : Int32) (v_z : Int32) (v_refusals : (Nat → Int32)) (v_letters : (Nat → Int32)) : va_W := [(q_this, .inr (9, [w_now, w_kept, w_trial, .int v_hasImage, .ref q_refusals, w_row, .int v_rows, .ref q_letters, .int v_lettered, w_dists, w_left, w_steps, .int v_stepsMany, w_partners, w_times, w_spliced, .int v_splicedMany, w_piece, w_balances, w_prices, w_hands, w_hand, w_dealing, .int v_most, .int v_together, .int v_z])), (q_refusals, .inl (D.1 100, 7, .inl v_refusals)), (q_letters, .inl (D.1 100, 96, .inl v_letters))]
theorem w_X10_letter_g0 {D : va_G} {q_this : Nat} {q_refusals : Nat} {q_letters : Nat} {w_now : Value} {w_kept : Value} {w_trial : Value} {w_row : Value} {w_dists : Value} {w_left : Value} {w_steps : Value} {w_partners : Value} {w_times : Value} {w_spliced : Value} {w_piece : Value} {w_balances : Value} {w_prices : Value} {w_hands : Value} {w_hand : Value} {w_dealing : Value} {v_hasImage : Int32} {v_rows : Int32} {v_lettered : Int32} {v_stepsMany : Int32} {v_splicedMany : Int32} {v_most : Int32} {v_together : Int32} {v_z : Int32} {v_refusals : (Nat → Int32)} {v_letters : (Nat → Int32)} : (w_X10_letter D q_this q_refusals q_letters w_now w_kept w_trial w_row w_dists w_left w_steps w_partners w_times w_spliced w_piece w_balances w_prices w_hands w_hand w_dealing v_hasImage v_rows v_lettered v_stepsMany v_splicedMany v_most v_together v_z v_refusals v_letters)[0]? = some (q_this, .inr (9, [w_now, w_kept, w_trial, .int v_hasImage, .ref q_refusals, w_row, .int v_rows, .ref q_letters, .int v_lettered, w_dists, w_left, w_steps, .int v_stepsMany, w_partners, w_times, w_spliced, .int v_splicedMany, w_piece, w_balances, w_prices, w_hands, w_hand, w_dealing, .int v_most, .int v_together, .int v_z])) := rfl
theorem w_X10_letter_s0 {D : va_G} {q_this : Nat} {q_refusals : Nat} {q_letters : Nat} {w_now : Value} {w_kept : Value} {w_trial : Value} {w_row : Value} {w_dists : Value} {w_left : Value} {w_steps : Value} {w_partners : Value} {w_times : Value} {w_spliced : Value} {w_piece : Value} {w_balances : Value} {w_prices : Value} {w_hands : Value} {w_hand : Value} {w_dealing : Value} {v_hasImage : Int32} {v_rows : Int32} {v_lettered : Int32} {v_stepsMany : Int32} {v_splicedMany : Int32} {v_most : Int32} {v_together : Int32} {v_z : Int32} {v_refusals : (Nat → Int32)} {v_letters : (Nat → Int32)} {v_hasImage' : Int32} {v_rows' : Int32} {v_lettered' : Int32} {v_stepsMany' : Int32} {v_splicedMany' : Int32} {v_most' : Int32} {v_together' : Int32} {v_z' : Int32} : (w_X10_letter D q_this q_refusals q_letters w_now w_kept w_trial w_row w_dists w_left w_steps w_partners w_times w_spliced w_piece w_balances w_prices w_hands w_hand w_dealing v_hasImage v_rows v_lettered v_stepsMany v_splicedMany v_most v_together v_z v_refusals v_letters).set 0 (q_this, .inr (9, [w_now, w_kept, w_trial, .int v_hasImage', .ref q_refusals, w_row, .int v_rows', .ref q_letters, .int v_lettered', w_dists, w_left, w_steps, .int v_stepsMany', w_partners, w_times, w_spliced, .int v_splicedMany', w_piece, w_balances, w_prices, w_hands, w_hand, w_dealing, .int v_most', .int v_together', .int v_z'])) = (w_X10_letter D q_this q_refusals q_letters w_now w_kept w_trial w_row w_dists w_left w_steps w_partners w_times w_spliced w_piece w_balances w_prices w_hands w_hand w_dealing v_hasImage' v_rows' v_lettered' v_stepsMany' v_splicedMany' v_most' v_together' v_z' v_refusals v_letters) := rfl
theorem w_X10_letter_g1 {D : va_G} {q_this : Nat} {q_refusals : Nat} {q_letters : Nat} {w_now : Value} {w_kept : Value} {w_trial : Value} {w_row : Value} {w_dists : Value} {w_left : Value} {w_steps : Value} {w_partners : Value} {w_times : Value} {w_spliced : Value} {w_piece : Value} {w_balances : Value} {w_prices : Value} {w_hands : Value} {w_hand : Value} {w_dealing : Value} {v_hasImage : Int32} {v_rows : Int32} {v_lettered : Int32} {v_stepsMany : Int32} {v_splicedMany : Int32} {v_most : Int32} {v_together : Int32} {v_z : Int32} {v_refusals : (Nat → Int32)} {v_letters : (Nat → Int32)} : (w_X10_letter D q_this q_refusals q_letters w_now w_kept w_trial w_row w_dists w_left w_steps w_partners w_times w_spliced w_piece w_balances w_prices w_hands w_hand w_dealing v_hasImage v_rows v_lettered v_stepsMany v_splicedMany v_most v_together v_z v_refusals v_letters)[1]? = some (q_refusals, .inl (D.1 100, 7, .inl v_refusals)) := rfl
theorem w_X10_letter_s1 {D : va_G} {q_this : Nat} {q_refusals : Nat} {q_letters : Nat} {w_now : Value} {w_kept : Value} {w_trial : Value} {w_row : Value} {w_dists : Value} {w_left : Value} {w_steps : Value} {w_partners : Value} {w_times : Value} {w_spliced : Value} {w_piece : Value} {w_balances : Value} {w_prices : Value} {w_hands : Value} {w_hand : Value} {w_dealing : Value} {v_hasImage : Int32} {v_rows : Int32} {v_lettered : Int32} {v_stepsMany : Int32} {v_splicedMany : Int32} {v_most : Int32} {v_together : Int32} {v_z : Int32} {v_refusals : (Nat → Int32)} {v_letters : (Nat → Int32)} {v_refusals' : (Nat → Int32)} : (w_X10_letter D q_this q_refusals q_letters w_now w_kept w_trial w_row w_dists w_left w_steps w_partners w_times w_spliced w_piece w_balances w_prices w_hands w_hand w_dealing v_hasImage v_rows v_lettered v_stepsMany v_splicedMany v_most v_together v_z v_refusals v_letters).set 1 (q_refusals, .inl (D.1 100, 7, .inl v_refusals')) = (w_X10_letter D q_this q_refusals q_letters w_now w_kept w_trial w_row w_dists w_left w_steps w_partners w_times w_spliced w_piece w_balances w_prices w_hands w_hand w_dealing v_hasImage v_rows v_lettered v_stepsMany v_splicedMany v_most v_together v_z v_refusals' v_letters) := rfl
theorem w_X10_letter_g2 {D : va_G} {q_this : Nat} {q_refusals : Nat} {q_letters : Nat} {w_now : Value} {w_kept : Value} {w_trial : Value} {w_row : Value} {w_dists : Value} {w_left : Value} {w_steps : Value} {w_partners : Value} {w_times : Value} {w_spliced : Value} {w_piece : Value} {w_balances : Value} {w_prices : Value} {w_hands : Value} {w_hand : Value} {w_dealing : Value} {v_hasImage : Int32} {v_rows : Int32} {v_lettered : Int32} {v_stepsMany : Int32} {v_splicedMany : Int32} {v_most : Int32} {v_together : Int32} {v_z : Int32} {v_refusals : (Nat → Int32)} {v_letters : (Nat → Int32)} : (w_X10_letter D q_this q_refusals q_letters w_now w_kept w_trial w_row w_dists w_left w_steps w_partners w_times w_spliced w_piece w_balances w_prices w_hands w_hand w_dealing v_hasImage v_rows v_lettered v_stepsMany v_splicedMany v_most v_together v_z v_refusals v_letters)[2]? = some (q_letters, .inl (D.1 100, 96, .inl v_letters)) := rfl
theorem w_X10_letter_s2 {D : va_G} {q_this : Nat} {q_refusals : Nat} {q_letters : Nat} {w_now : Value} {w_kept : Value} {w_trial : Value} {w_row : Value} {w_dists : Value} {w_left : Value} {w_steps : Value} {w_partners : Value} {w_times : Value} {w_spliced : Value} {w_piece : Value} {w_balances : Value} {w_prices : Value} {w_hands : Value} {w_hand : Value} {w_dealing : Value} {v_hasImage : Int32} {v_rows : Int32} {v_lettered : Int32} {v_stepsMany : Int32} {v_splicedMany : Int32} {v_most : Int32} {v_together : Int32} {v_z : Int32} {v_refusals : (Nat → Int32)} {v_letters : (Nat → Int32)} {v_letters' : (Nat → Int32)} : (w_X10_letter D q_this q_refusals q_letters w_now w_kept w_trial w_row w_dists w_left w_steps w_partners w_times w_spliced w_piece w_balances w_prices w_hands w_hand w_dealing v_hasImage v_rows v_lettered v_stepsMany v_splicedMany v_most v_together v_z v_refusals v_letters).set 2 (q_letters, .inl (D.1 100, 96, .inl v_letters')) = (w_X10_letter D q_this q_refusals q_letters w_now w_kept w_trial w_row w_dists w_left w_steps w_partners w_times w_spliced w_piece w_balances w_prices w_hands w_hand w_dealing v_hasImage v_rows v_lettered v_stepsMany v_splicedMany v_most v_together v_z v_refusals v_letters') := rfl
theorem w_X10_letter_a {D : va_G} {q_this : Nat} {q_refusals : Nat} {q_letters : Nat} {w_now : Value} {w_kept : Value} {w_trial : Value} {w_row : Value} {w_dists : Value} {w_left : Value} {w_steps : Value} {w_partners : Value} {w_times : Value} {w_spliced : Value} {w_piece : Value} {w_balances : Value} {w_prices : Value} {w_hands : Value} {w_hand : Value} {w_dealing : Value} {v_hasImage : Int32} {v_rows : Int32} {v_lettered : Int32} {v_stepsMany : Int32} {v_splicedMany : Int32} {v_most : Int32} {v_together : Int32} {v_z : Int32} {v_refusals : (Nat → Int32)} {v_letters : (Nat → Int32)} : (w_X10_letter D q_this q_refusals q_letters w_now w_kept w_trial w_row w_dists w_left w_steps w_partners w_times w_spliced w_piece w_balances w_prices w_hands w_hand w_dealing v_hasImage v_rows v_lettered v_stepsMany v_splicedMany v_most v_together v_z v_refusals v_letters).map (fun q => q.1) = [q_this, q_refusals, q_letters] := rfl
def f_X10_letter_j1 (v_lettered_j1 : Int32) (v_letters_j1 : (Nat → Int32)) (v_refusals : (Nat → Int32)) : Option (Int32 × Int32 × (Nat → Int32) × (Nat → Int32)) :=
  (f_X10_refused (-6 : Int32) v_refusals).bind (fun r_refused_2 => some (r_refused_2.1, v_lettered_j1, r_refused_2.2, v_letters_j1))
def f_X10_letter (x1 : Int32) (v_lettered : Int32) (v_refusals : (Nat → Int32)) (v_letters : (Nat → Int32)) : Option (Int32 × Int32 × (Nat → Int32) × (Nat → Int32)) :=
  (if 0 ≤ x1 then (if (255 : Int32) < x1 then f_X10_letter_j1 v_lettered v_letters v_refusals else (if v_lettered = (96 : Int32) then f_X10_letter_j1 v_lettered v_letters v_refusals else ga v_lettered 96 (some (v_lettered + (1 : Int32), v_lettered + (1 : Int32), v_refusals, upd v_letters (Int32.toNatClampNeg v_lettered) x1)))) else (f_X10_refused (-4 : Int32) v_refusals).bind (fun r_refused_3 => some (r_refused_3.1, v_lettered, r_refused_3.2, v_letters)))
set_option maxRecDepth 100000 in
set_option maxHeartbeats 4000000 in
theorem c_X10_letter (l : Launch) (D : va_G) {q_this q_refusals q_letters : Nat} {w_now w_kept w_trial w_row w_dists w_left w_steps w_partners w_times w_spliced w_piece w_balances w_prices w_hands w_hand w_dealing : Value} {v_hasImage : Int32} {v_rows : Int32} {v_lettered : Int32} {v_stepsMany : Int32} {v_splicedMany : Int32} {v_most : Int32} {v_together : Int32} {v_z : Int32} {v_refusals : (Nat → Int32)} {v_letters : (Nat → Int32)} {x1 : Int32} {o : (Int32 × Int32 × (Nat → Int32) × (Nat → Int32))} (h : f_X10_letter x1 v_lettered v_refusals v_letters = some o) : CT l D yX10_letter cX10_letter 2 (Option.some FieldType.int) 1 [.ref q_this, .int x1] (w_X10_letter D q_this q_refusals q_letters w_now w_kept w_trial w_row w_dists w_left w_steps w_partners w_times w_spliced w_piece w_balances w_prices w_hands w_hand w_dealing v_hasImage v_rows v_lettered v_stepsMany v_splicedMany v_most v_together v_z v_refusals v_letters) (w_X10_letter D q_this q_refusals q_letters w_now w_kept w_trial w_row w_dists w_left w_steps w_partners w_times w_spliced w_piece w_balances w_prices w_hands w_hand w_dealing v_hasImage v_rows o.2.1 v_stepsMany v_splicedMany v_most v_together v_z o.2.2.1 o.2.2.2) (some (.int o.1)) := by
  refine CT.of mk_X10_letter (Nat.le_of_ble_eq_true rfl) (fun g hl hD C E => ?_)
  subst hl
  subst hD
  unfold f_X10_letter at h
  refine j_iload_n C dX10_letter_0 rfl ?_
  refine j_if_ge C h 11 dX10_letter_1 (by decide) (fun hc h => ?_) (fun hc h => ?_)
  · refine j_iload_n C dX10_letter_11 rfl ?_
    refine j_sipush C (255) dX10_letter_12 kc_255 ?_
    have hj_1 : ∀ (v_lettered_j1 : Int32) (v_letters_j1 : (Nat → Int32)), f_X10_letter_j1 v_lettered_j1 v_letters_j1 v_refusals = some o → J g (w_X10_letter (gD g) q_this q_refusals q_letters w_now w_kept w_trial w_row w_dists w_left w_steps w_partners w_times w_spliced w_piece w_balances w_prices w_hands w_hand w_dealing v_hasImage v_rows v_lettered_j1 v_stepsMany v_splicedMany v_most v_together v_z v_refusals v_letters_j1) [(0, .ref q_this)] 27 [] := by
      intro v_lettered_j1 v_letters_j1 h
      unfold f_X10_letter_j1 at h
      refine j_aload_n C dX10_letter_27 rfl ?_
      refine j_bipush C (-6) dX10_letter_28 kb_m6 ?_
      obtain ⟨r_refused_2, h_2, h⟩ := of_bind h
      refine j_callV1 C mk_X10_refused ms_X10_refused kw_1064 (c_X10_refused (gl g) (gD g) h_2) (by decide) 0 w_X10_letter_g0 rfl [0, 1] (hC_cons w_X10_letter_g0 (hC_cons w_X10_letter_g1 hC_nil)) rfl (w_X10_refused_a.trans w_X10_refused_a.symm) rfl rfl (Nat.le_of_ble_eq_true rfl) dX10_letter_30 (wput_cons w_X10_letter_s0 (wput_cons w_X10_letter_s1 wput_nil)) ?_
      have h := Option.some.inj h
      subst h
      exact j_iret C E dX10_letter_33
    refine j_icmp_gt C h 27 dX10_letter_15 (by decide) (fun hc h => ?_) (fun hc h => ?_)
    · have hj9 := hj_1 _ _ h
      exact j_lw hj9 rfl
    · refine j_aload_n C dX10_letter_18 rfl ?_
      refine j_get C 0 w_X10_letter_g0 rfl inX10 8 (by decide) kw_989 rfl rfl dX10_letter_19 ?_
      refine j_bipush C (96) dX10_letter_22 kb_96 ?_
      refine j_icmp_ne C h 34 dX10_letter_24 (by decide) (fun hc h => ?_) (fun hc h => ?_)
      · have hj9 := hj_1 _ _ h
        exact j_lw hj9 rfl
      · refine j_aload_n C dX10_letter_34 rfl ?_
        refine j_get C 0 w_X10_letter_g0 rfl inX10 7 (by decide) kw_988 rfl rfl dX10_letter_35 ?_
        refine j_aload_n C dX10_letter_38 rfl ?_
        refine j_get C 0 w_X10_letter_g0 rfl inX10 8 (by decide) kw_989 rfl rfl dX10_letter_39 ?_
        refine j_iload_n C dX10_letter_42 rfl ?_
        refine j_iastore 2 C h w_X10_letter_g2 rfl dX10_letter_43 (fun h => ?_)
        refine j_ws w_X10_letter_s2 ?_
        refine j_aload_n C dX10_letter_44 rfl ?_
        refine j_dup C dX10_letter_45 rfl ?_
        refine j_get C 0 w_X10_letter_g0 rfl inX10 8 (by decide) kw_989 rfl rfl dX10_letter_46 ?_
        refine j_iconst C (1) dX10_letter_49 ki_1 ?_
        refine j_iadd C dX10_letter_50 ?_
        refine j_put C 0 w_X10_letter_g0 rfl inX10 tyX10_ok nmX10 8 (by decide) kw_989 rfl rfl rfl rfl (Nat.le_of_ble_eq_true rfl) dX10_letter_51 ?_
        refine j_ws w_X10_letter_s0 ?_
        refine j_aload_n C dX10_letter_54 rfl ?_
        refine j_get C 0 w_X10_letter_g0 rfl inX10 8 (by decide) kw_989 rfl rfl dX10_letter_55 ?_
        have h := Option.some.inj h
        subst h
        exact j_iret C E dX10_letter_58
  · refine j_aload_n C dX10_letter_4 rfl ?_
    refine j_bipush C (-4) dX10_letter_5 kb_m4 ?_
    obtain ⟨r_refused_3, h_3, h⟩ := of_bind h
    refine j_callV1 C mk_X10_refused ms_X10_refused kw_1064 (c_X10_refused (gl g) (gD g) h_3) (by decide) 0 w_X10_letter_g0 rfl [0, 1] (hC_cons w_X10_letter_g0 (hC_cons w_X10_letter_g1 hC_nil)) rfl (w_X10_refused_a.trans w_X10_refused_a.symm) rfl rfl (Nat.le_of_ble_eq_true rfl) dX10_letter_7 (wput_cons w_X10_letter_s0 (wput_cons w_X10_letter_s1 wput_nil)) ?_
    have h := Option.some.inj h
    subst h
    exact j_iret C E dX10_letter_10

def w_X10_sizeOf (D : va_G) : va_W := []
theorem w_X10_sizeOf_a {D : va_G} : (w_X10_sizeOf D).map (fun q => q.1) = [] := rfl
def f_X10_sizeOf (x0 : Int32) : Option Int32 :=
  (if x0 = 104 then some (2 : Int32) else (if x0 = 107 then some (4 : Int32) else (if x0 = 108 then some (4 : Int32) else (if x0 = 115 then some (5 : Int32) else (if x0 = 120 then some (2 : Int32) else some (0 : Int32))))))
set_option maxRecDepth 100000 in
set_option maxHeartbeats 4000000 in
theorem c_X10_sizeOf (l : Launch) (D : va_G) {x0 : Int32} {o : Int32} (h : f_X10_sizeOf x0 = some o) : CT l D yX10_sizeOf cX10_sizeOf 1 (Option.some FieldType.int) 0 [.int x0] (w_X10_sizeOf D) (w_X10_sizeOf D) (some (.int o)) := by
  refine CT.of mk_X10_sizeOf (Nat.le_of_ble_eq_true rfl) (fun g hl hD C E => ?_)
  subst hl
  subst hD
  unfold f_X10_sizeOf at h
  refine j_iload_n C dX10_sizeOf_0 rfl ?_
  refine j_case h (fun hc h => ?_) (fun hn_0 h => ?_)
  · refine j_lookup C 56 dX10_sizeOf_1 (by decide) (by rw [hc] <;> decide) (by decide) ?_
    refine j_iconst C (2) dX10_sizeOf_56 ki_2 ?_
    have h := Option.some.inj h
    subst h
    exact j_iret C E dX10_sizeOf_57
  · refine j_case h (fun hc h => ?_) (fun hn_1 h => ?_)
    · refine j_lookup C 54 dX10_sizeOf_1 (by decide) (by rw [hc] <;> decide) (by decide) ?_
      refine j_iconst C (4) dX10_sizeOf_54 ki_4 ?_
      have h := Option.some.inj h
      subst h
      exact j_iret C E dX10_sizeOf_55
    · refine j_case h (fun hc h => ?_) (fun hn_2 h => ?_)
      · refine j_lookup C 54 dX10_sizeOf_1 (by decide) (by rw [hc] <;> decide) (by decide) ?_
        refine j_iconst C (4) dX10_sizeOf_54 ki_4 ?_
        have h := Option.some.inj h
        subst h
        exact j_iret C E dX10_sizeOf_55
      · refine j_case h (fun hc h => ?_) (fun hn_3 h => ?_)
        · refine j_lookup C 52 dX10_sizeOf_1 (by decide) (by rw [hc] <;> decide) (by decide) ?_
          refine j_iconst C (5) dX10_sizeOf_52 ki_5 ?_
          have h := Option.some.inj h
          subst h
          exact j_iret C E dX10_sizeOf_53
        · refine j_case h (fun hc h => ?_) (fun hn_4 h => ?_)
          · refine j_lookup C 56 dX10_sizeOf_1 (by decide) (by rw [hc] <;> decide) (by decide) ?_
            refine j_iconst C (2) dX10_sizeOf_56 ki_2 ?_
            have h := Option.some.inj h
            subst h
            exact j_iret C E dX10_sizeOf_57
          · refine j_lookup C 58 dX10_sizeOf_1 (by decide) (lk_cons (i32ne hn_0 (by decide)) (lk_cons (i32ne hn_1 (by decide)) (lk_cons (i32ne hn_2 (by decide)) (lk_cons (i32ne hn_3 (by decide)) (lk_cons (i32ne hn_4 (by decide)) lk_nil))))) (by decide) ?_
            refine j_iconst C (0) dX10_sizeOf_58 ki_0 ?_
            have h := Option.some.inj h
            subst h
            exact j_iret C E dX10_sizeOf_59

def w_X10_fits (D : va_G) (q_this q_letters : Nat) (w_now w_kept w_trial w_refusals w_row w_dists w_left w_steps w_partners w_times w_spliced w_piece w_balances w_prices w_hands w_hand w_dealing : Value) (v_hasImage : Int32) (v_rows : Int32) (v_lettered : Int32) (v_stepsMany : Int32) (v_splicedMany : Int32) (v_most : Int32) (v_together : Int32) (v_z : Int32) (v_letters : (Nat → Int32)) : va_W := [(q_this, .inr (9, [w_now, w_kept, w_trial, .int v_hasImage, w_refusals, w_row, .int v_rows, .ref q_letters, .int v_lettered, w_dists, w_left, w_steps, .int v_stepsMany, w_partners, w_times, w_spliced, .int v_splicedMany, w_piece, w_balances, w_prices, w_hands, w_hand, w_dealing, .int v_most, .int v_together, .int v_z])), (q_letters, .inl (D.1 100, 96, .inl v_letters))]
theorem w_X10_fits_g0 {D : va_G} {q_this : Nat} {q_letters : Nat} {w_now : Value} {w_kept : Value} {w_trial : Value} {w_refusals : Value} {w_row : Value} {w_dists : Value} {w_left : Value} {w_steps : Value} {w_partners : Value} {w_times : Value} {w_spliced : Value} {w_piece : Value} {w_balances : Value} {w_prices : Value} {w_hands : Value} {w_hand : Value} {w_dealing : Value} {v_hasImage : Int32} {v_rows : Int32} {v_lettered : Int32} {v_stepsMany : Int32} {v_splicedMany : Int32} {v_most : Int32} {v_together : Int32} {v_z : Int32} {v_letters : (Nat → Int32)} : (w_X10_fits D q_this q_letters w_now w_kept w_trial w_refusals w_row w_dists w_left w_steps w_partners w_times w_spliced w_piece w_balances w_prices w_hands w_hand w_dealing v_hasImage v_rows v_lettered v_stepsMany v_splicedMany v_most v_together v_z v_letters)[0]? = some (q_this, .inr (9, [w_now, w_kept, w_trial, .int v_hasImage, w_refusals, w_row, .int v_rows, .ref q_letters, .int v_lettered, w_dists, w_left, w_steps, .int v_stepsMany, w_partners, w_times, w_spliced, .int v_splicedMany, w_piece, w_balances, w_prices, w_hands, w_hand, w_dealing, .int v_most, .int v_together, .int v_z])) := rfl
theorem w_X10_fits_s0 {D : va_G} {q_this : Nat} {q_letters : Nat} {w_now : Value} {w_kept : Value} {w_trial : Value} {w_refusals : Value} {w_row : Value} {w_dists : Value} {w_left : Value} {w_steps : Value} {w_partners : Value} {w_times : Value} {w_spliced : Value} {w_piece : Value} {w_balances : Value} {w_prices : Value} {w_hands : Value} {w_hand : Value} {w_dealing : Value} {v_hasImage : Int32} {v_rows : Int32} {v_lettered : Int32} {v_stepsMany : Int32} {v_splicedMany : Int32} {v_most : Int32} {v_together : Int32} {v_z : Int32} {v_letters : (Nat → Int32)} {v_hasImage' : Int32} {v_rows' : Int32} {v_lettered' : Int32} {v_stepsMany' : Int32} {v_splicedMany' : Int32} {v_most' : Int32} {v_together' : Int32} {v_z' : Int32} : (w_X10_fits D q_this q_letters w_now w_kept w_trial w_refusals w_row w_dists w_left w_steps w_partners w_times w_spliced w_piece w_balances w_prices w_hands w_hand w_dealing v_hasImage v_rows v_lettered v_stepsMany v_splicedMany v_most v_together v_z v_letters).set 0 (q_this, .inr (9, [w_now, w_kept, w_trial, .int v_hasImage', w_refusals, w_row, .int v_rows', .ref q_letters, .int v_lettered', w_dists, w_left, w_steps, .int v_stepsMany', w_partners, w_times, w_spliced, .int v_splicedMany', w_piece, w_balances, w_prices, w_hands, w_hand, w_dealing, .int v_most', .int v_together', .int v_z'])) = (w_X10_fits D q_this q_letters w_now w_kept w_trial w_refusals w_row w_dists w_left w_steps w_partners w_times w_spliced w_piece w_balances w_prices w_hands w_hand w_dealing v_hasImage' v_rows' v_lettered' v_stepsMany' v_splicedMany' v_most' v_together' v_z' v_letters) := rfl
theorem w_X10_fits_g1 {D : va_G} {q_this : Nat} {q_letters : Nat} {w_now : Value} {w_kept : Value} {w_trial : Value} {w_refusals : Value} {w_row : Value} {w_dists : Value} {w_left : Value} {w_steps : Value} {w_partners : Value} {w_times : Value} {w_spliced : Value} {w_piece : Value} {w_balances : Value} {w_prices : Value} {w_hands : Value} {w_hand : Value} {w_dealing : Value} {v_hasImage : Int32} {v_rows : Int32} {v_lettered : Int32} {v_stepsMany : Int32} {v_splicedMany : Int32} {v_most : Int32} {v_together : Int32} {v_z : Int32} {v_letters : (Nat → Int32)} : (w_X10_fits D q_this q_letters w_now w_kept w_trial w_refusals w_row w_dists w_left w_steps w_partners w_times w_spliced w_piece w_balances w_prices w_hands w_hand w_dealing v_hasImage v_rows v_lettered v_stepsMany v_splicedMany v_most v_together v_z v_letters)[1]? = some (q_letters, .inl (D.1 100, 96, .inl v_letters)) := rfl
theorem w_X10_fits_s1 {D : va_G} {q_this : Nat} {q_letters : Nat} {w_now : Value} {w_kept : Value} {w_trial : Value} {w_refusals : Value} {w_row : Value} {w_dists : Value} {w_left : Value} {w_steps : Value} {w_partners : Value} {w_times : Value} {w_spliced : Value} {w_piece : Value} {w_balances : Value} {w_prices : Value} {w_hands : Value} {w_hand : Value} {w_dealing : Value} {v_hasImage : Int32} {v_rows : Int32} {v_lettered : Int32} {v_stepsMany : Int32} {v_splicedMany : Int32} {v_most : Int32} {v_together : Int32} {v_z : Int32} {v_letters : (Nat → Int32)} {v_letters' : (Nat → Int32)} : (w_X10_fits D q_this q_letters w_now w_kept w_trial w_refusals w_row w_dists w_left w_steps w_partners w_times w_spliced w_piece w_balances w_prices w_hands w_hand w_dealing v_hasImage v_rows v_lettered v_stepsMany v_splicedMany v_most v_together v_z v_letters).set 1 (q_letters, .inl (D.1 100, 96, .inl v_letters')) = (w_X10_fits D q_this q_letters w_now w_kept w_trial w_refusals w_row w_dists w_left w_steps w_partners w_times w_spliced w_piece w_balances w_prices w_hands w_hand w_dealing v_hasImage v_rows v_lettered v_stepsMany v_splicedMany v_most v_together v_z v_letters') := rfl
theorem w_X10_fits_a {D : va_G} {q_this : Nat} {q_letters : Nat} {w_now : Value} {w_kept : Value} {w_trial : Value} {w_refusals : Value} {w_row : Value} {w_dists : Value} {w_left : Value} {w_steps : Value} {w_partners : Value} {w_times : Value} {w_spliced : Value} {w_piece : Value} {w_balances : Value} {w_prices : Value} {w_hands : Value} {w_hand : Value} {w_dealing : Value} {v_hasImage : Int32} {v_rows : Int32} {v_lettered : Int32} {v_stepsMany : Int32} {v_splicedMany : Int32} {v_most : Int32} {v_together : Int32} {v_z : Int32} {v_letters : (Nat → Int32)} : (w_X10_fits D q_this q_letters w_now w_kept w_trial w_refusals w_row w_dists w_left w_steps w_partners w_times w_spliced w_piece w_balances w_prices w_hands w_hand w_dealing v_hasImage v_rows v_lettered v_stepsMany v_splicedMany v_most v_together v_z v_letters).map (fun q => q.1) = [q_this, q_letters] := rfl
def f_X10_fits (x1 : Int32) (x2 : Int32) (v_letters : (Nat → Int32)) : Option Int32 :=
  ga x1 96 ((f_X10_sizeOf (v_letters (Int32.toNatClampNeg x1))).bind (fun r_sizeOf_1 => (if x2 = 0 then gb (if r_sizeOf_1 ≤ 0 then (0 : Int32) else (1 : Int32)) (some (if r_sizeOf_1 ≤ 0 then (0 : Int32) else (1 : Int32))) else ga (x1 + x2) 96 ((if x2 = r_sizeOf_1 then gb (if (v_letters (Int32.toNatClampNeg (x1 + x2))) = (59 : Int32) then (1 : Int32) else (0 : Int32)) (some (if (v_letters (Int32.toNatClampNeg (x1 + x2))) = (59 : Int32) then (1 : Int32) else (0 : Int32))) else ga x1 96 (((if (v_letters (Int32.toNatClampNeg x1)) = (104 : Int32) then some (1 : Int32) else ga x1 96 ((if (v_letters (Int32.toNatClampNeg x1)) = (115 : Int32) then (if (3 : Int32) ≤ x2 then some (0 : Int32) else some (1 : Int32)) else some (0 : Int32)))) : Option Int32).bind (fun m_2 => (if m_2 = 0 then (f_X10_in (Int32.toInt64 (v_letters (Int32.toNatClampNeg (x1 + x2)))) (48 : Int64) (57 : Int64)).bind (fun r_in_3 => gb (r_in_3) (some r_in_3)) else (f_X10_in (Int32.toInt64 (v_letters (Int32.toNatClampNeg (x1 + x2)))) (97 : Int64) (122 : Int64)).bind (fun r_in_4 => gb (r_in_4) (some r_in_4))))))))))
set_option maxRecDepth 100000 in
set_option maxHeartbeats 4000000 in
theorem c_X10_fits (l : Launch) (D : va_G) {q_this q_letters : Nat} {w_now w_kept w_trial w_refusals w_row w_dists w_left w_steps w_partners w_times w_spliced w_piece w_balances w_prices w_hands w_hand w_dealing : Value} {v_hasImage : Int32} {v_rows : Int32} {v_lettered : Int32} {v_stepsMany : Int32} {v_splicedMany : Int32} {v_most : Int32} {v_together : Int32} {v_z : Int32} {v_letters : (Nat → Int32)} {x1 : Int32} {x2 : Int32} {o : Int32} (h : f_X10_fits x1 x2 v_letters = some o) : CT l D yX10_fits cX10_fits 6 (Option.some FieldType.boolean) 1 [.ref q_this, .int x1, .int x2] (w_X10_fits D q_this q_letters w_now w_kept w_trial w_refusals w_row w_dists w_left w_steps w_partners w_times w_spliced w_piece w_balances w_prices w_hands w_hand w_dealing v_hasImage v_rows v_lettered v_stepsMany v_splicedMany v_most v_together v_z v_letters) (w_X10_fits D q_this q_letters w_now w_kept w_trial w_refusals w_row w_dists w_left w_steps w_partners w_times w_spliced w_piece w_balances w_prices w_hands w_hand w_dealing v_hasImage v_rows v_lettered v_stepsMany v_splicedMany v_most v_together v_z v_letters) (some (.int o)) := by
  refine CT.of mk_X10_fits (Nat.le_of_ble_eq_true rfl) (fun g hl hD C E => ?_)
  subst hl
  subst hD
  unfold f_X10_fits at h
  refine j_aload_n C dX10_fits_0 rfl ?_
  refine j_get C 0 w_X10_fits_g0 rfl inX10 7 (by decide) kw_988 rfl rfl dX10_fits_1 ?_
  refine j_iload_n C dX10_fits_4 rfl ?_
  refine j_iaload 1 C h w_X10_fits_g1 rfl dX10_fits_5 (fun h => ?_)
  obtain ⟨r_sizeOf_1, h_1, h⟩ := of_bind h
  refine j_callS1 C mk_X10_sizeOf ms_X10_sizeOf kw_1080 (c_X10_sizeOf (gl g) (gD g) h_1) (by decide) [] hC_nil rfl (w_X10_sizeOf_a.trans w_X10_sizeOf_a.symm) rfl rfl (Nat.le_of_ble_eq_true rfl) dX10_fits_6 wput_nil ?_
  refine j_istore_n C dX10_fits_9 (by decide) ?_
  refine j_iload_n C dX10_fits_10 rfl ?_
  refine j_if_ne C h 24 dX10_fits_11 (by decide) (fun hc h => ?_) (fun hc h => ?_)
  · refine j_iload_n C dX10_fits_14 rfl ?_
    have hj_6 : J g (w_X10_fits (gD g) q_this q_letters w_now w_kept w_trial w_refusals w_row w_dists w_left w_steps w_partners w_times w_spliced w_piece w_balances w_prices w_hands w_hand w_dealing v_hasImage v_rows v_lettered v_stepsMany v_splicedMany v_most v_together v_z v_letters) [] 23 [.int (if r_sizeOf_1 ≤ 0 then (0 : Int32) else (1 : Int32))] := by
      obtain ⟨hz, h⟩ := of_gb h
      have h := Option.some.inj h
      subst h
      exact j_zret C E hz.1 dX10_fits_23
    refine jv_if_le C 22 dX10_fits_15 (by decide) (fun hc => ?_) (fun hc => ?_)
    · try simp only [if_pos hc] at hj_6
      refine j_iconst C (0) dX10_fits_22 ki_0 ?_
      exact j_lw hj_6 rfl
    · try simp only [if_neg hc] at hj_6
      refine j_iconst C (1) dX10_fits_18 ki_1 ?_
      refine j_goto C 23 dX10_fits_19 (by decide) ?_
      exact j_lw hj_6 rfl
  · refine j_aload_n C dX10_fits_24 rfl ?_
    refine j_get C 0 w_X10_fits_g0 rfl inX10 7 (by decide) kw_988 rfl rfl dX10_fits_25 ?_
    refine j_iload_n C dX10_fits_28 rfl ?_
    refine j_iload_n C dX10_fits_29 rfl ?_
    refine j_iadd C dX10_fits_30 ?_
    refine j_iaload 1 C h w_X10_fits_g1 rfl dX10_fits_31 (fun h => ?_)
    refine j_istore C dX10_fits_32 (by decide) ?_
    refine j_iload_n C dX10_fits_34 rfl ?_
    refine j_iload_n C dX10_fits_35 rfl ?_
    refine j_icmp_ne C h 52 dX10_fits_36 (by decide) (fun hc h => ?_) (fun hc h => ?_)
    · refine j_iload C dX10_fits_39 rfl ?_
      refine j_bipush C (59) dX10_fits_41 kb_59 ?_
      have hj_5 : J g (w_X10_fits (gD g) q_this q_letters w_now w_kept w_trial w_refusals w_row w_dists w_left w_steps w_partners w_times w_spliced w_piece w_balances w_prices w_hands w_hand w_dealing v_hasImage v_rows v_lettered v_stepsMany v_splicedMany v_most v_together v_z v_letters) [] 51 [.int (if (v_letters (Int32.toNatClampNeg (x1 + x2))) = (59 : Int32) then (1 : Int32) else (0 : Int32))] := by
        obtain ⟨hz, h⟩ := of_gb h
        have h := Option.some.inj h
        subst h
        exact j_zret C E hz.1 dX10_fits_51
      refine jv_icmp_ne C 50 dX10_fits_43 (by decide) (fun hc => ?_) (fun hc => ?_)
      · try simp only [if_pos hc] at hj_5
        refine j_iconst C (1) dX10_fits_46 ki_1 ?_
        refine j_goto C 51 dX10_fits_47 (by decide) ?_
        exact j_lw hj_5 rfl
      · try simp only [if_neg hc] at hj_5
        refine j_iconst C (0) dX10_fits_50 ki_0 ?_
        exact j_lw hj_5 rfl
    · refine j_aload_n C dX10_fits_52 rfl ?_
      refine j_get C 0 w_X10_fits_g0 rfl inX10 7 (by decide) kw_988 rfl rfl dX10_fits_53 ?_
      refine j_iload_n C dX10_fits_56 rfl ?_
      refine j_iaload 1 C h w_X10_fits_g1 rfl dX10_fits_57 (fun h => ?_)
      refine j_bipush C (104) dX10_fits_58 kb_104 ?_
      obtain ⟨m_2, hm_2, h⟩ := of_bind h
      have hj_2 : J g (w_X10_fits (gD g) q_this q_letters w_now w_kept w_trial w_refusals w_row w_dists w_left w_steps w_partners w_times w_spliced w_piece w_balances w_prices w_hands w_hand w_dealing v_hasImage v_rows v_lettered v_stepsMany v_splicedMany v_most v_together v_z v_letters) [(4, .int (v_letters (Int32.toNatClampNeg (x1 + x2))))] 84 [.int (m_2)] := by
        refine j_istore C dX10_fits_84 (by decide) ?_
        refine j_iload C dX10_fits_86 rfl ?_
        refine j_if_eq C h 106 dX10_fits_88 (by decide) (fun hc h => ?_) (fun hc h => ?_)
        · refine j_iload C dX10_fits_106 rfl ?_
          refine j_i2l C dX10_fits_108 ?_
          refine j_ldc2 C kw_1088 dX10_fits_109 ?_
          refine j_ldc2 C kw_1089 dX10_fits_112 ?_
          obtain ⟨r_in_3, h_3, h⟩ := of_bind h
          refine j_callS1 C mk_X10_in ms_X10_in kw_1085 (c_X10_in (gl g) (gD g) h_3) (by decide) [] hC_nil rfl (w_X10_in_a.trans w_X10_in_a.symm) rfl rfl (Nat.le_of_ble_eq_true rfl) dX10_fits_115 wput_nil ?_
          obtain ⟨hz, h⟩ := of_gb h
          have h := Option.some.inj h
          subst h
          exact j_zret C E hz.1 dX10_fits_118
        · refine j_iload C dX10_fits_91 rfl ?_
          refine j_i2l C dX10_fits_93 ?_
          refine j_ldc2 C kw_1083 dX10_fits_94 ?_
          refine j_ldc2 C kw_1084 dX10_fits_97 ?_
          obtain ⟨r_in_4, h_4, h⟩ := of_bind h
          refine j_callS1 C mk_X10_in ms_X10_in kw_1085 (c_X10_in (gl g) (gD g) h_4) (by decide) [] hC_nil rfl (w_X10_in_a.trans w_X10_in_a.symm) rfl rfl (Nat.le_of_ble_eq_true rfl) dX10_fits_100 wput_nil ?_
          refine j_goto C 118 dX10_fits_103 (by decide) ?_
          obtain ⟨hz, h⟩ := of_gb h
          have h := Option.some.inj h
          subst h
          exact j_zret C E hz.1 dX10_fits_118
      refine j_icmp_eq C hm_2 79 dX10_fits_60 (by decide) (fun hc h => ?_) (fun hc h => ?_)
      · refine j_iconst C (1) dX10_fits_79 ki_1 ?_
        refine j_goto C 84 dX10_fits_80 (by decide) ?_
        have h := Option.some.inj h
        subst h
        exact j_lw hj_2 rfl
      · refine j_aload_n C dX10_fits_63 rfl ?_
        refine j_get C 0 w_X10_fits_g0 rfl inX10 7 (by decide) kw_988 rfl rfl dX10_fits_64 ?_
        refine j_iload_n C dX10_fits_67 rfl ?_
        refine j_iaload 1 C h w_X10_fits_g1 rfl dX10_fits_68 (fun h => ?_)
        refine j_bipush C (115) dX10_fits_69 kb_115 ?_
        refine j_icmp_ne C h 83 dX10_fits_71 (by decide) (fun hc h => ?_) (fun hc h => ?_)
        · refine j_iload_n C dX10_fits_74 rfl ?_
          refine j_iconst C (3) dX10_fits_75 ki_3 ?_
          refine j_icmp_ge C h 83 dX10_fits_76 (by decide) (fun hc h => ?_) (fun hc h => ?_)
          · refine j_iconst C (0) dX10_fits_83 ki_0 ?_
            have h := Option.some.inj h
            subst h
            exact j_lw hj_2 rfl
          · refine j_iconst C (1) dX10_fits_79 ki_1 ?_
            refine j_goto C 84 dX10_fits_80 (by decide) ?_
            have h := Option.some.inj h
            subst h
            exact j_lw hj_2 rfl
        · refine j_iconst C (0) dX10_fits_83 ki_0 ?_
          have h := Option.some.inj h
          subst h
          exact j_lw hj_2 rfl

def w_X10_faultOf (D : va_G) (q_this q_letters : Nat) (w_now w_kept w_trial w_refusals w_row w_dists w_left w_steps w_partners w_times w_spliced w_piece w_balances w_prices w_hands w_hand w_dealing : Value) (v_hasImage : Int32) (v_rows : Int32) (v_lettered : Int32) (v_stepsMany : Int32) (v_splicedMany : Int32) (v_most : Int32) (v_together : Int32) (v_z : Int32) (v_letters : (Nat → Int32)) : va_W := [(q_this, .inr (9, [w_now, w_kept, w_trial, .int v_hasImage, w_refusals, w_row, .int v_rows, .ref q_letters, .int v_lettered, w_dists, w_left, w_steps, .int v_stepsMany, w_partners, w_times, w_spliced, .int v_splicedMany, w_piece, w_balances, w_prices, w_hands, w_hand, w_dealing, .int v_most, .int v_together, .int v_z])), (q_letters, .inl (D.1 100, 96, .inl v_letters))]
theorem w_X10_faultOf_g0 {D : va_G} {q_this : Nat} {q_letters : Nat} {w_now : Value} {w_kept : Value} {w_trial : Value} {w_refusals : Value} {w_row : Value} {w_dists : Value} {w_left : Value} {w_steps : Value} {w_partners : Value} {w_times : Value} {w_spliced : Value} {w_piece : Value} {w_balances : Value} {w_prices : Value} {w_hands : Value} {w_hand : Value} {w_dealing : Value} {v_hasImage : Int32} {v_rows : Int32} {v_lettered : Int32} {v_stepsMany : Int32} {v_splicedMany : Int32} {v_most : Int32} {v_together : Int32} {v_z : Int32} {v_letters : (Nat → Int32)} : (w_X10_faultOf D q_this q_letters w_now w_kept w_trial w_refusals w_row w_dists w_left w_steps w_partners w_times w_spliced w_piece w_balances w_prices w_hands w_hand w_dealing v_hasImage v_rows v_lettered v_stepsMany v_splicedMany v_most v_together v_z v_letters)[0]? = some (q_this, .inr (9, [w_now, w_kept, w_trial, .int v_hasImage, w_refusals, w_row, .int v_rows, .ref q_letters, .int v_lettered, w_dists, w_left, w_steps, .int v_stepsMany, w_partners, w_times, w_spliced, .int v_splicedMany, w_piece, w_balances, w_prices, w_hands, w_hand, w_dealing, .int v_most, .int v_together, .int v_z])) := rfl
theorem w_X10_faultOf_s0 {D : va_G} {q_this : Nat} {q_letters : Nat} {w_now : Value} {w_kept : Value} {w_trial : Value} {w_refusals : Value} {w_row : Value} {w_dists : Value} {w_left : Value} {w_steps : Value} {w_partners : Value} {w_times : Value} {w_spliced : Value} {w_piece : Value} {w_balances : Value} {w_prices : Value} {w_hands : Value} {w_hand : Value} {w_dealing : Value} {v_hasImage : Int32} {v_rows : Int32} {v_lettered : Int32} {v_stepsMany : Int32} {v_splicedMany : Int32} {v_most : Int32} {v_together : Int32} {v_z : Int32} {v_letters : (Nat → Int32)} {v_hasImage' : Int32} {v_rows' : Int32} {v_lettered' : Int32} {v_stepsMany' : Int32} {v_splicedMany' : Int32} {v_most' : Int32} {v_together' : Int32} {v_z' : Int32} : (w_X10_faultOf D q_this q_letters w_now w_kept w_trial w_refusals w_row w_dists w_left w_steps w_partners w_times w_spliced w_piece w_balances w_prices w_hands w_hand w_dealing v_hasImage v_rows v_lettered v_stepsMany v_splicedMany v_most v_together v_z v_letters).set 0 (q_this, .inr (9, [w_now, w_kept, w_trial, .int v_hasImage', w_refusals, w_row, .int v_rows', .ref q_letters, .int v_lettered', w_dists, w_left, w_steps, .int v_stepsMany', w_partners, w_times, w_spliced, .int v_splicedMany', w_piece, w_balances, w_prices, w_hands, w_hand, w_dealing, .int v_most', .int v_together', .int v_z'])) = (w_X10_faultOf D q_this q_letters w_now w_kept w_trial w_refusals w_row w_dists w_left w_steps w_partners w_times w_spliced w_piece w_balances w_prices w_hands w_hand w_dealing v_hasImage' v_rows' v_lettered' v_stepsMany' v_splicedMany' v_most' v_together' v_z' v_letters) := rfl
theorem w_X10_faultOf_g1 {D : va_G} {q_this : Nat} {q_letters : Nat} {w_now : Value} {w_kept : Value} {w_trial : Value} {w_refusals : Value} {w_row : Value} {w_dists : Value} {w_left : Value} {w_steps : Value} {w_partners : Value} {w_times : Value} {w_spliced : Value} {w_piece : Value} {w_balances : Value} {w_prices : Value} {w_hands : Value} {w_hand : Value} {w_dealing : Value} {v_hasImage : Int32} {v_rows : Int32} {v_lettered : Int32} {v_stepsMany : Int32} {v_splicedMany : Int32} {v_most : Int32} {v_together : Int32} {v_z : Int32} {v_letters : (Nat → Int32)} : (w_X10_faultOf D q_this q_letters w_now w_kept w_trial w_refusals w_row w_dists w_left w_steps w_partners w_times w_spliced w_piece w_balances w_prices w_hands w_hand w_dealing v_hasImage v_rows v_lettered v_stepsMany v_splicedMany v_most v_together v_z v_letters)[1]? = some (q_letters, .inl (D.1 100, 96, .inl v_letters)) := rfl
theorem w_X10_faultOf_s1 {D : va_G} {q_this : Nat} {q_letters : Nat} {w_now : Value} {w_kept : Value} {w_trial : Value} {w_refusals : Value} {w_row : Value} {w_dists : Value} {w_left : Value} {w_steps : Value} {w_partners : Value} {w_times : Value} {w_spliced : Value} {w_piece : Value} {w_balances : Value} {w_prices : Value} {w_hands : Value} {w_hand : Value} {w_dealing : Value} {v_hasImage : Int32} {v_rows : Int32} {v_lettered : Int32} {v_stepsMany : Int32} {v_splicedMany : Int32} {v_most : Int32} {v_together : Int32} {v_z : Int32} {v_letters : (Nat → Int32)} {v_letters' : (Nat → Int32)} : (w_X10_faultOf D q_this q_letters w_now w_kept w_trial w_refusals w_row w_dists w_left w_steps w_partners w_times w_spliced w_piece w_balances w_prices w_hands w_hand w_dealing v_hasImage v_rows v_lettered v_stepsMany v_splicedMany v_most v_together v_z v_letters).set 1 (q_letters, .inl (D.1 100, 96, .inl v_letters')) = (w_X10_faultOf D q_this q_letters w_now w_kept w_trial w_refusals w_row w_dists w_left w_steps w_partners w_times w_spliced w_piece w_balances w_prices w_hands w_hand w_dealing v_hasImage v_rows v_lettered v_stepsMany v_splicedMany v_most v_together v_z v_letters') := rfl
theorem w_X10_faultOf_a {D : va_G} {q_this : Nat} {q_letters : Nat} {w_now : Value} {w_kept : Value} {w_trial : Value} {w_refusals : Value} {w_row : Value} {w_dists : Value} {w_left : Value} {w_steps : Value} {w_partners : Value} {w_times : Value} {w_spliced : Value} {w_piece : Value} {w_balances : Value} {w_prices : Value} {w_hands : Value} {w_hand : Value} {w_dealing : Value} {v_hasImage : Int32} {v_rows : Int32} {v_lettered : Int32} {v_stepsMany : Int32} {v_splicedMany : Int32} {v_most : Int32} {v_together : Int32} {v_z : Int32} {v_letters : (Nat → Int32)} : (w_X10_faultOf D q_this q_letters w_now w_kept w_trial w_refusals w_row w_dists w_left w_steps w_partners w_times w_spliced w_piece w_balances w_prices w_hands w_hand w_dealing v_hasImage v_rows v_lettered v_stepsMany v_splicedMany v_most v_together v_z v_letters).map (fun q => q.1) = [q_this, q_letters] := rfl
def f_X10_faultOf_b13 (x1 : Int32) (x2_2 : Int32) (x3_13 : Int32) (v_letters : (Nat → Int32)) : Option (Int32 ⊕ Int32) :=
  (if x1 ≤ (x2_2 + x3_13) then some (.inr x3_13) else (f_X10_fits x2_2 x3_13 v_letters).bind (fun r_fits_2 => (if r_fits_2 = 0 then some (.inr x3_13) else ga x2_2 96 ((f_X10_sizeOf (v_letters (Int32.toNatClampNeg x2_2))).bind (fun r_sizeOf_3 => (if r_sizeOf_3 ≤ x3_13 then some (.inr x3_13) else some (.inl (x3_13 + (1 : Int32)))))))))
def f_X10_faultOf_j1 (N : Nat) (x1 : Int32) (x2_2 : Int32) (v_letters : (Nat → Int32)) : Option (Int32 ⊕ (Unit ⊕ Int32)) :=
  (lp (fun s_13 => f_X10_faultOf_b13 x1 x2_2 s_13 v_letters) N ((0 : Int32))).bind (fun e_13 => (if (x2_2 + e_13) = x1 then some (.inr (.inr (x2_2 + e_13))) else (f_X10_fits x2_2 e_13 v_letters).bind (fun r_fits_4 => (if r_fits_4 = 0 then some (.inr (.inr (x2_2 + e_13))) else some (.inl (x2_2 + (e_13 + (1 : Int32))))))))
def f_X10_faultOf_b2 (N : Nat) (x2_2 : Int32) (x1 : Int32) (v_letters : (Nat → Int32)) : Option (Int32 ⊕ (Unit ⊕ Int32)) :=
  (if x2_2 < x1 then f_X10_faultOf_j1 N x1 x2_2 v_letters else (if x2_2 = 0 then f_X10_faultOf_j1 N x1 x2_2 v_letters else some (.inr (.inl ()))))
def f_X10_faultOf (N : Nat) (x1 : Int32) (v_letters : (Nat → Int32)) : Option Int32 :=
  (lp (fun s_2 => f_X10_faultOf_b2 N s_2 x1 v_letters) N ((0 : Int32))).bind (fun e_2 => match e_2 with | .inl x_2 => some (-9 : Int32) | .inr o_2 => some o_2)
set_option maxRecDepth 100000 in
set_option maxHeartbeats 4000000 in
theorem c_X10_faultOf (l : Launch) (D : va_G) (N : Nat) {q_this q_letters : Nat} {w_now w_kept w_trial w_refusals w_row w_dists w_left w_steps w_partners w_times w_spliced w_piece w_balances w_prices w_hands w_hand w_dealing : Value} {v_hasImage : Int32} {v_rows : Int32} {v_lettered : Int32} {v_stepsMany : Int32} {v_splicedMany : Int32} {v_most : Int32} {v_together : Int32} {v_z : Int32} {v_letters : (Nat → Int32)} {x1 : Int32} {o : Int32} (h : f_X10_faultOf N x1 v_letters = some o) : CT l D yX10_faultOf cX10_faultOf 4 (Option.some FieldType.int) 2 [.ref q_this, .int x1] (w_X10_faultOf D q_this q_letters w_now w_kept w_trial w_refusals w_row w_dists w_left w_steps w_partners w_times w_spliced w_piece w_balances w_prices w_hands w_hand w_dealing v_hasImage v_rows v_lettered v_stepsMany v_splicedMany v_most v_together v_z v_letters) (w_X10_faultOf D q_this q_letters w_now w_kept w_trial w_refusals w_row w_dists w_left w_steps w_partners w_times w_spliced w_piece w_balances w_prices w_hands w_hand w_dealing v_hasImage v_rows v_lettered v_stepsMany v_splicedMany v_most v_together v_z v_letters) (some (.int o)) := by
  refine CT.of mk_X10_faultOf (Nat.le_of_ble_eq_true rfl) (fun g hl hD C E => ?_)
  subst hl
  subst hD
  unfold f_X10_faultOf at h
  refine j_iconst C (0) dX10_faultOf_0 ki_0 ?_
  refine j_istore_n C dX10_faultOf_1 (by decide) ?_
  obtain ⟨e_2, hl_2, h⟩ := of_bind h
  have hR_2 : ∀ o9, Sum.inr o9 = e_2 → some o9 = some o := by
    intro o9 ho9
    rw [← ho9] at h
    exact h
  have ha_2 : ∀ x_2, Sum.inl x_2 = e_2 → J g (w_X10_faultOf (gD g) q_this q_letters w_now w_kept w_trial w_refusals w_row w_dists w_left w_steps w_partners w_times w_spliced w_piece w_balances w_prices w_hands w_hand w_dealing v_hasImage v_rows v_lettered v_stepsMany v_splicedMany v_most v_together v_z v_letters) [] 77 [] := by
    intro x_2 hx9
    rw [← hx9] at h
    dsimp only at h
    refine j_bipush C (-9) dX10_faultOf_77 kb_m9 ?_
    have h := Option.some.inj h
    subst h
    exact j_iret C E dX10_faultOf_79
  refine j_lv (lv' := [(0, .ref q_this), (1, .int (x1)), (2, .int ((0 : Int32)))]) rfl ?_
  refine lp_ind hl_2 (fun s_2 => J g (w_X10_faultOf (gD g) q_this q_letters w_now w_kept w_trial w_refusals w_row w_dists w_left w_steps w_partners w_times w_spliced w_piece w_balances w_prices w_hands w_hand w_dealing v_hasImage v_rows v_lettered v_stepsMany v_splicedMany v_most v_together v_z v_letters) [(0, .ref q_this), (1, .int (x1)), (2, .int (s_2))] 2 []) (fun s_2 r_2 h hc_2 hx_2 => ?_)
  unfold f_X10_faultOf_b2 at h
  refine j_iload_n C dX10_faultOf_2 rfl ?_
  refine j_iload_n C dX10_faultOf_3 rfl ?_
  have hj_1 : f_X10_faultOf_j1 N x1 s_2 v_letters = some r_2 → J g (w_X10_faultOf (gD g) q_this q_letters w_now w_kept w_trial w_refusals w_row w_dists w_left w_steps w_partners w_times w_spliced w_piece w_balances w_prices w_hands w_hand w_dealing v_hasImage v_rows v_lettered v_stepsMany v_splicedMany v_most v_together v_z v_letters) [(0, .ref q_this), (1, .int (x1)), (2, .int (s_2))] 11 [] := by
    intro  h
    unfold f_X10_faultOf_j1 at h
    refine j_iconst C (0) dX10_faultOf_11 ki_0 ?_
    refine j_istore_n C dX10_faultOf_12 (by decide) ?_
    obtain ⟨e_13, hl_13, h⟩ := of_bind h
    have ha_13 : J g (w_X10_faultOf (gD g) q_this q_letters w_now w_kept w_trial w_refusals w_row w_dists w_left w_steps w_partners w_times w_spliced w_piece w_balances w_prices w_hands w_hand w_dealing v_hasImage v_rows v_lettered v_stepsMany v_splicedMany v_most v_together v_z v_letters) [(0, .ref q_this), (1, .int (x1)), (2, .int (s_2)), (3, .int (e_13))] 48 [] := by
      refine j_iload_n C dX10_faultOf_48 rfl ?_
      refine j_iload_n C dX10_faultOf_49 rfl ?_
      refine j_iadd C dX10_faultOf_50 ?_
      refine j_iload_n C dX10_faultOf_51 rfl ?_
      refine j_icmp_eq C h 64 dX10_faultOf_52 (by decide) (fun hc h => ?_) (fun hc h => ?_)
      · refine j_iload_n C dX10_faultOf_64 rfl ?_
        refine j_iload_n C dX10_faultOf_65 rfl ?_
        refine j_iadd C dX10_faultOf_66 ?_
        have h := Option.some.inj h
        subst h
        have h := hR_2 _ (hx_2 _ rfl)
        have h := Option.some.inj h
        subst h
        exact j_iret C E dX10_faultOf_67
      · refine j_aload_n C dX10_faultOf_55 rfl ?_
        refine j_iload_n C dX10_faultOf_56 rfl ?_
        refine j_iload_n C dX10_faultOf_57 rfl ?_
        obtain ⟨r_fits_4, h_4, h⟩ := of_bind h
        refine j_callV1 C mk_X10_fits ms_X10_fits kw_1076 (c_X10_fits (gl g) (gD g) h_4) (by decide) 0 w_X10_faultOf_g0 rfl [0, 1] (hC_cons w_X10_faultOf_g0 (hC_cons w_X10_faultOf_g1 hC_nil)) rfl (w_X10_fits_a.trans w_X10_fits_a.symm) rfl rfl (Nat.le_of_ble_eq_true rfl) dX10_faultOf_58 (wput_cons w_X10_faultOf_s0 (wput_cons w_X10_faultOf_s1 wput_nil)) ?_
        refine j_if_ne C h 68 dX10_faultOf_61 (by decide) (fun hc h => ?_) (fun hc h => ?_)
        · refine j_iload_n C dX10_faultOf_64 rfl ?_
          refine j_iload_n C dX10_faultOf_65 rfl ?_
          refine j_iadd C dX10_faultOf_66 ?_
          have h := Option.some.inj h
          subst h
          have h := hR_2 _ (hx_2 _ rfl)
          have h := Option.some.inj h
          subst h
          exact j_iret C E dX10_faultOf_67
        · refine j_iload_n C dX10_faultOf_68 rfl ?_
          refine j_iload_n C dX10_faultOf_69 rfl ?_
          refine j_iconst C (1) dX10_faultOf_70 ki_1 ?_
          refine j_iadd C dX10_faultOf_71 ?_
          refine j_iadd C dX10_faultOf_72 ?_
          refine j_istore_n C dX10_faultOf_73 (by decide) ?_
          refine j_goto C 2 dX10_faultOf_74 (by decide) ?_
          have h := Option.some.inj h
          subst h
          have hc9 := hc_2 _ rfl
          exact j_lw hc9 rfl
    refine j_lv (lv' := [(0, .ref q_this), (1, .int (x1)), (2, .int (s_2)), (3, .int ((0 : Int32)))]) rfl ?_
    refine lp_ind hl_13 (fun s_13 => J g (w_X10_faultOf (gD g) q_this q_letters w_now w_kept w_trial w_refusals w_row w_dists w_left w_steps w_partners w_times w_spliced w_piece w_balances w_prices w_hands w_hand w_dealing v_hasImage v_rows v_lettered v_stepsMany v_splicedMany v_most v_together v_z v_letters) [(0, .ref q_this), (1, .int (x1)), (2, .int (s_2)), (3, .int (s_13))] 13 []) (fun s_13 r_13 h hc_13 hx_13 => ?_)
    unfold f_X10_faultOf_b13 at h
    refine j_iload_n C dX10_faultOf_13 rfl ?_
    refine j_iload_n C dX10_faultOf_14 rfl ?_
    refine j_iadd C dX10_faultOf_15 ?_
    refine j_iload_n C dX10_faultOf_16 rfl ?_
    refine j_icmp_ge C h 48 dX10_faultOf_17 (by decide) (fun hc h => ?_) (fun hc h => ?_)
    · have h := Option.some.inj h
      subst h
      have h9 := hx_13 _ rfl
      subst h9
      exact j_lw ha_13 rfl
    · refine j_aload_n C dX10_faultOf_20 rfl ?_
      refine j_iload_n C dX10_faultOf_21 rfl ?_
      refine j_iload_n C dX10_faultOf_22 rfl ?_
      obtain ⟨r_fits_2, h_2, h⟩ := of_bind h
      refine j_callV1 C mk_X10_fits ms_X10_fits kw_1076 (c_X10_fits (gl g) (gD g) h_2) (by decide) 0 w_X10_faultOf_g0 rfl [0, 1] (hC_cons w_X10_faultOf_g0 (hC_cons w_X10_faultOf_g1 hC_nil)) rfl (w_X10_fits_a.trans w_X10_fits_a.symm) rfl rfl (Nat.le_of_ble_eq_true rfl) dX10_faultOf_23 (wput_cons w_X10_faultOf_s0 (wput_cons w_X10_faultOf_s1 wput_nil)) ?_
      refine j_if_eq C h 48 dX10_faultOf_26 (by decide) (fun hc h => ?_) (fun hc h => ?_)
      · have h := Option.some.inj h
        subst h
        have h9 := hx_13 _ rfl
        subst h9
        exact j_lw ha_13 rfl
      · refine j_iload_n C dX10_faultOf_29 rfl ?_
        refine j_aload_n C dX10_faultOf_30 rfl ?_
        refine j_get C 0 w_X10_faultOf_g0 rfl inX10 7 (by decide) kw_988 rfl rfl dX10_faultOf_31 ?_
        refine j_iload_n C dX10_faultOf_34 rfl ?_
        refine j_iaload 1 C h w_X10_faultOf_g1 rfl dX10_faultOf_35 (fun h => ?_)
        obtain ⟨r_sizeOf_3, h_3, h⟩ := of_bind h
        refine j_callS1 C mk_X10_sizeOf ms_X10_sizeOf kw_1080 (c_X10_sizeOf (gl g) (gD g) h_3) (by decide) [] hC_nil rfl (w_X10_sizeOf_a.trans w_X10_sizeOf_a.symm) rfl rfl (Nat.le_of_ble_eq_true rfl) dX10_faultOf_36 wput_nil ?_
        refine j_icmp_ge C h 48 dX10_faultOf_39 (by decide) (fun hc h => ?_) (fun hc h => ?_)
        · have h := Option.some.inj h
          subst h
          have h9 := hx_13 _ rfl
          subst h9
          exact j_lw ha_13 rfl
        · refine j_inc C (1) dX10_faultOf_42 rfl ki_1 (by decide) ?_
          refine j_goto C 13 dX10_faultOf_45 (by decide) ?_
          have h := Option.some.inj h
          subst h
          have hc9 := hc_13 _ rfl
          exact j_lw hc9 rfl
  refine j_icmp_lt C h 11 dX10_faultOf_4 (by decide) (fun hc h => ?_) (fun hc h => ?_)
  · have hj9 := hj_1  h
    exact j_lw hj9 rfl
  · refine j_iload_n C dX10_faultOf_7 rfl ?_
    refine j_if_ne C h 77 dX10_faultOf_8 (by decide) (fun hc h => ?_) (fun hc h => ?_)
    · have hj9 := hj_1  h
      exact j_lw hj9 rfl
    · have h := Option.some.inj h
      subst h
      have hx9 := hx_2 _ rfl
      have ha9 := ha_2 _ hx9
      exact j_lw ha9 rfl

def w_X10_digit (D : va_G) (q_this q_letters : Nat) (w_now w_kept w_trial w_refusals w_row w_dists w_left w_steps w_partners w_times w_spliced w_piece w_balances w_prices w_hands w_hand w_dealing : Value) (v_hasImage : Int32) (v_rows : Int32) (v_lettered : Int32) (v_stepsMany : Int32) (v_splicedMany : Int32) (v_most : Int32) (v_together : Int32) (v_z : Int32) (v_letters : (Nat → Int32)) : va_W := [(q_this, .inr (9, [w_now, w_kept, w_trial, .int v_hasImage, w_refusals, w_row, .int v_rows, .ref q_letters, .int v_lettered, w_dists, w_left, w_steps, .int v_stepsMany, w_partners, w_times, w_spliced, .int v_splicedMany, w_piece, w_balances, w_prices, w_hands, w_hand, w_dealing, .int v_most, .int v_together, .int v_z])), (q_letters, .inl (D.1 100, 96, .inl v_letters))]
theorem w_X10_digit_g0 {D : va_G} {q_this : Nat} {q_letters : Nat} {w_now : Value} {w_kept : Value} {w_trial : Value} {w_refusals : Value} {w_row : Value} {w_dists : Value} {w_left : Value} {w_steps : Value} {w_partners : Value} {w_times : Value} {w_spliced : Value} {w_piece : Value} {w_balances : Value} {w_prices : Value} {w_hands : Value} {w_hand : Value} {w_dealing : Value} {v_hasImage : Int32} {v_rows : Int32} {v_lettered : Int32} {v_stepsMany : Int32} {v_splicedMany : Int32} {v_most : Int32} {v_together : Int32} {v_z : Int32} {v_letters : (Nat → Int32)} : (w_X10_digit D q_this q_letters w_now w_kept w_trial w_refusals w_row w_dists w_left w_steps w_partners w_times w_spliced w_piece w_balances w_prices w_hands w_hand w_dealing v_hasImage v_rows v_lettered v_stepsMany v_splicedMany v_most v_together v_z v_letters)[0]? = some (q_this, .inr (9, [w_now, w_kept, w_trial, .int v_hasImage, w_refusals, w_row, .int v_rows, .ref q_letters, .int v_lettered, w_dists, w_left, w_steps, .int v_stepsMany, w_partners, w_times, w_spliced, .int v_splicedMany, w_piece, w_balances, w_prices, w_hands, w_hand, w_dealing, .int v_most, .int v_together, .int v_z])) := rfl
theorem w_X10_digit_s0 {D : va_G} {q_this : Nat} {q_letters : Nat} {w_now : Value} {w_kept : Value} {w_trial : Value} {w_refusals : Value} {w_row : Value} {w_dists : Value} {w_left : Value} {w_steps : Value} {w_partners : Value} {w_times : Value} {w_spliced : Value} {w_piece : Value} {w_balances : Value} {w_prices : Value} {w_hands : Value} {w_hand : Value} {w_dealing : Value} {v_hasImage : Int32} {v_rows : Int32} {v_lettered : Int32} {v_stepsMany : Int32} {v_splicedMany : Int32} {v_most : Int32} {v_together : Int32} {v_z : Int32} {v_letters : (Nat → Int32)} {v_hasImage' : Int32} {v_rows' : Int32} {v_lettered' : Int32} {v_stepsMany' : Int32} {v_splicedMany' : Int32} {v_most' : Int32} {v_together' : Int32} {v_z' : Int32} : (w_X10_digit D q_this q_letters w_now w_kept w_trial w_refusals w_row w_dists w_left w_steps w_partners w_times w_spliced w_piece w_balances w_prices w_hands w_hand w_dealing v_hasImage v_rows v_lettered v_stepsMany v_splicedMany v_most v_together v_z v_letters).set 0 (q_this, .inr (9, [w_now, w_kept, w_trial, .int v_hasImage', w_refusals, w_row, .int v_rows', .ref q_letters, .int v_lettered', w_dists, w_left, w_steps, .int v_stepsMany', w_partners, w_times, w_spliced, .int v_splicedMany', w_piece, w_balances, w_prices, w_hands, w_hand, w_dealing, .int v_most', .int v_together', .int v_z'])) = (w_X10_digit D q_this q_letters w_now w_kept w_trial w_refusals w_row w_dists w_left w_steps w_partners w_times w_spliced w_piece w_balances w_prices w_hands w_hand w_dealing v_hasImage' v_rows' v_lettered' v_stepsMany' v_splicedMany' v_most' v_together' v_z' v_letters) := rfl
theorem w_X10_digit_g1 {D : va_G} {q_this : Nat} {q_letters : Nat} {w_now : Value} {w_kept : Value} {w_trial : Value} {w_refusals : Value} {w_row : Value} {w_dists : Value} {w_left : Value} {w_steps : Value} {w_partners : Value} {w_times : Value} {w_spliced : Value} {w_piece : Value} {w_balances : Value} {w_prices : Value} {w_hands : Value} {w_hand : Value} {w_dealing : Value} {v_hasImage : Int32} {v_rows : Int32} {v_lettered : Int32} {v_stepsMany : Int32} {v_splicedMany : Int32} {v_most : Int32} {v_together : Int32} {v_z : Int32} {v_letters : (Nat → Int32)} : (w_X10_digit D q_this q_letters w_now w_kept w_trial w_refusals w_row w_dists w_left w_steps w_partners w_times w_spliced w_piece w_balances w_prices w_hands w_hand w_dealing v_hasImage v_rows v_lettered v_stepsMany v_splicedMany v_most v_together v_z v_letters)[1]? = some (q_letters, .inl (D.1 100, 96, .inl v_letters)) := rfl
theorem w_X10_digit_s1 {D : va_G} {q_this : Nat} {q_letters : Nat} {w_now : Value} {w_kept : Value} {w_trial : Value} {w_refusals : Value} {w_row : Value} {w_dists : Value} {w_left : Value} {w_steps : Value} {w_partners : Value} {w_times : Value} {w_spliced : Value} {w_piece : Value} {w_balances : Value} {w_prices : Value} {w_hands : Value} {w_hand : Value} {w_dealing : Value} {v_hasImage : Int32} {v_rows : Int32} {v_lettered : Int32} {v_stepsMany : Int32} {v_splicedMany : Int32} {v_most : Int32} {v_together : Int32} {v_z : Int32} {v_letters : (Nat → Int32)} {v_letters' : (Nat → Int32)} : (w_X10_digit D q_this q_letters w_now w_kept w_trial w_refusals w_row w_dists w_left w_steps w_partners w_times w_spliced w_piece w_balances w_prices w_hands w_hand w_dealing v_hasImage v_rows v_lettered v_stepsMany v_splicedMany v_most v_together v_z v_letters).set 1 (q_letters, .inl (D.1 100, 96, .inl v_letters')) = (w_X10_digit D q_this q_letters w_now w_kept w_trial w_refusals w_row w_dists w_left w_steps w_partners w_times w_spliced w_piece w_balances w_prices w_hands w_hand w_dealing v_hasImage v_rows v_lettered v_stepsMany v_splicedMany v_most v_together v_z v_letters') := rfl
theorem w_X10_digit_a {D : va_G} {q_this : Nat} {q_letters : Nat} {w_now : Value} {w_kept : Value} {w_trial : Value} {w_refusals : Value} {w_row : Value} {w_dists : Value} {w_left : Value} {w_steps : Value} {w_partners : Value} {w_times : Value} {w_spliced : Value} {w_piece : Value} {w_balances : Value} {w_prices : Value} {w_hands : Value} {w_hand : Value} {w_dealing : Value} {v_hasImage : Int32} {v_rows : Int32} {v_lettered : Int32} {v_stepsMany : Int32} {v_splicedMany : Int32} {v_most : Int32} {v_together : Int32} {v_z : Int32} {v_letters : (Nat → Int32)} : (w_X10_digit D q_this q_letters w_now w_kept w_trial w_refusals w_row w_dists w_left w_steps w_partners w_times w_spliced w_piece w_balances w_prices w_hands w_hand w_dealing v_hasImage v_rows v_lettered v_stepsMany v_splicedMany v_most v_together v_z v_letters).map (fun q => q.1) = [q_this, q_letters] := rfl
def f_X10_digit (x1 : Int32) (v_letters : (Nat → Int32)) : Option Int32 :=
  ga x1 96 (some ((v_letters (Int32.toNatClampNeg x1)) - (48 : Int32)))
set_option maxRecDepth 100000 in
set_option maxHeartbeats 4000000 in
theorem c_X10_digit (l : Launch) (D : va_G) {q_this q_letters : Nat} {w_now w_kept w_trial w_refusals w_row w_dists w_left w_steps w_partners w_times w_spliced w_piece w_balances w_prices w_hands w_hand w_dealing : Value} {v_hasImage : Int32} {v_rows : Int32} {v_lettered : Int32} {v_stepsMany : Int32} {v_splicedMany : Int32} {v_most : Int32} {v_together : Int32} {v_z : Int32} {v_letters : (Nat → Int32)} {x1 : Int32} {o : Int32} (h : f_X10_digit x1 v_letters = some o) : CT l D yX10_digit cX10_digit 2 (Option.some FieldType.int) 0 [.ref q_this, .int x1] (w_X10_digit D q_this q_letters w_now w_kept w_trial w_refusals w_row w_dists w_left w_steps w_partners w_times w_spliced w_piece w_balances w_prices w_hands w_hand w_dealing v_hasImage v_rows v_lettered v_stepsMany v_splicedMany v_most v_together v_z v_letters) (w_X10_digit D q_this q_letters w_now w_kept w_trial w_refusals w_row w_dists w_left w_steps w_partners w_times w_spliced w_piece w_balances w_prices w_hands w_hand w_dealing v_hasImage v_rows v_lettered v_stepsMany v_splicedMany v_most v_together v_z v_letters) (some (.int o)) := by
  refine CT.of mk_X10_digit (Nat.le_of_ble_eq_true rfl) (fun g hl hD C E => ?_)
  subst hl
  subst hD
  unfold f_X10_digit at h
  refine j_aload_n C dX10_digit_0 rfl ?_
  refine j_get C 0 w_X10_digit_g0 rfl inX10 7 (by decide) kw_988 rfl rfl dX10_digit_1 ?_
  refine j_iload_n C dX10_digit_4 rfl ?_
  refine j_iaload 1 C h w_X10_digit_g1 rfl dX10_digit_5 (fun h => ?_)
  refine j_bipush C (48) dX10_digit_6 kb_48 ?_
  refine j_isub C dX10_digit_8 ?_
  have h := Option.some.inj h
  subst h
  exact j_iret C E dX10_digit_9

def w_X10_takes (D : va_G) (q_this q_letters q_p1 : Nat) (w_now w_kept w_trial w_refusals w_row w_dists w_left w_steps w_partners w_times w_spliced w_piece w_balances w_prices w_hands w_hand w_dealing : Value) (v_hasImage : Int32) (v_rows : Int32) (v_lettered : Int32) (v_stepsMany : Int32) (v_splicedMany : Int32) (v_most : Int32) (v_together : Int32) (v_z : Int32) (v_letters : (Nat → Int32)) (v_p1 : (Nat → Int32)) : va_W := [(q_this, .inr (9, [w_now, w_kept, w_trial, .int v_hasImage, w_refusals, w_row, .int v_rows, .ref q_letters, .int v_lettered, w_dists, w_left, w_steps, .int v_stepsMany, w_partners, w_times, w_spliced, .int v_splicedMany, w_piece, w_balances, w_prices, w_hands, w_hand, w_dealing, .int v_most, .int v_together, .int v_z])), (q_letters, .inl (D.1 100, 96, .inl v_letters)), (q_p1, .inl (D.1 100, 50, .inl v_p1))]
theorem w_X10_takes_g0 {D : va_G} {q_this : Nat} {q_letters : Nat} {q_p1 : Nat} {w_now : Value} {w_kept : Value} {w_trial : Value} {w_refusals : Value} {w_row : Value} {w_dists : Value} {w_left : Value} {w_steps : Value} {w_partners : Value} {w_times : Value} {w_spliced : Value} {w_piece : Value} {w_balances : Value} {w_prices : Value} {w_hands : Value} {w_hand : Value} {w_dealing : Value} {v_hasImage : Int32} {v_rows : Int32} {v_lettered : Int32} {v_stepsMany : Int32} {v_splicedMany : Int32} {v_most : Int32} {v_together : Int32} {v_z : Int32} {v_letters : (Nat → Int32)} {v_p1 : (Nat → Int32)} : (w_X10_takes D q_this q_letters q_p1 w_now w_kept w_trial w_refusals w_row w_dists w_left w_steps w_partners w_times w_spliced w_piece w_balances w_prices w_hands w_hand w_dealing v_hasImage v_rows v_lettered v_stepsMany v_splicedMany v_most v_together v_z v_letters v_p1)[0]? = some (q_this, .inr (9, [w_now, w_kept, w_trial, .int v_hasImage, w_refusals, w_row, .int v_rows, .ref q_letters, .int v_lettered, w_dists, w_left, w_steps, .int v_stepsMany, w_partners, w_times, w_spliced, .int v_splicedMany, w_piece, w_balances, w_prices, w_hands, w_hand, w_dealing, .int v_most, .int v_together, .int v_z])) := rfl
theorem w_X10_takes_s0 {D : va_G} {q_this : Nat} {q_letters : Nat} {q_p1 : Nat} {w_now : Value} {w_kept : Value} {w_trial : Value} {w_refusals : Value} {w_row : Value} {w_dists : Value} {w_left : Value} {w_steps : Value} {w_partners : Value} {w_times : Value} {w_spliced : Value} {w_piece : Value} {w_balances : Value} {w_prices : Value} {w_hands : Value} {w_hand : Value} {w_dealing : Value} {v_hasImage : Int32} {v_rows : Int32} {v_lettered : Int32} {v_stepsMany : Int32} {v_splicedMany : Int32} {v_most : Int32} {v_together : Int32} {v_z : Int32} {v_letters : (Nat → Int32)} {v_p1 : (Nat → Int32)} {v_hasImage' : Int32} {v_rows' : Int32} {v_lettered' : Int32} {v_stepsMany' : Int32} {v_splicedMany' : Int32} {v_most' : Int32} {v_together' : Int32} {v_z' : Int32} : (w_X10_takes D q_this q_letters q_p1 w_now w_kept w_trial w_refusals w_row w_dists w_left w_steps w_partners w_times w_spliced w_piece w_balances w_prices w_hands w_hand w_dealing v_hasImage v_rows v_lettered v_stepsMany v_splicedMany v_most v_together v_z v_letters v_p1).set 0 (q_this, .inr (9, [w_now, w_kept, w_trial, .int v_hasImage', w_refusals, w_row, .int v_rows', .ref q_letters, .int v_lettered', w_dists, w_left, w_steps, .int v_stepsMany', w_partners, w_times, w_spliced, .int v_splicedMany', w_piece, w_balances, w_prices, w_hands, w_hand, w_dealing, .int v_most', .int v_together', .int v_z'])) = (w_X10_takes D q_this q_letters q_p1 w_now w_kept w_trial w_refusals w_row w_dists w_left w_steps w_partners w_times w_spliced w_piece w_balances w_prices w_hands w_hand w_dealing v_hasImage' v_rows' v_lettered' v_stepsMany' v_splicedMany' v_most' v_together' v_z' v_letters v_p1) := rfl
theorem w_X10_takes_g1 {D : va_G} {q_this : Nat} {q_letters : Nat} {q_p1 : Nat} {w_now : Value} {w_kept : Value} {w_trial : Value} {w_refusals : Value} {w_row : Value} {w_dists : Value} {w_left : Value} {w_steps : Value} {w_partners : Value} {w_times : Value} {w_spliced : Value} {w_piece : Value} {w_balances : Value} {w_prices : Value} {w_hands : Value} {w_hand : Value} {w_dealing : Value} {v_hasImage : Int32} {v_rows : Int32} {v_lettered : Int32} {v_stepsMany : Int32} {v_splicedMany : Int32} {v_most : Int32} {v_together : Int32} {v_z : Int32} {v_letters : (Nat → Int32)} {v_p1 : (Nat → Int32)} : (w_X10_takes D q_this q_letters q_p1 w_now w_kept w_trial w_refusals w_row w_dists w_left w_steps w_partners w_times w_spliced w_piece w_balances w_prices w_hands w_hand w_dealing v_hasImage v_rows v_lettered v_stepsMany v_splicedMany v_most v_together v_z v_letters v_p1)[1]? = some (q_letters, .inl (D.1 100, 96, .inl v_letters)) := rfl
theorem w_X10_takes_s1 {D : va_G} {q_this : Nat} {q_letters : Nat} {q_p1 : Nat} {w_now : Value} {w_kept : Value} {w_trial : Value} {w_refusals : Value} {w_row : Value} {w_dists : Value} {w_left : Value} {w_steps : Value} {w_partners : Value} {w_times : Value} {w_spliced : Value} {w_piece : Value} {w_balances : Value} {w_prices : Value} {w_hands : Value} {w_hand : Value} {w_dealing : Value} {v_hasImage : Int32} {v_rows : Int32} {v_lettered : Int32} {v_stepsMany : Int32} {v_splicedMany : Int32} {v_most : Int32} {v_together : Int32} {v_z : Int32} {v_letters : (Nat → Int32)} {v_p1 : (Nat → Int32)} {v_letters' : (Nat → Int32)} : (w_X10_takes D q_this q_letters q_p1 w_now w_kept w_trial w_refusals w_row w_dists w_left w_steps w_partners w_times w_spliced w_piece w_balances w_prices w_hands w_hand w_dealing v_hasImage v_rows v_lettered v_stepsMany v_splicedMany v_most v_together v_z v_letters v_p1).set 1 (q_letters, .inl (D.1 100, 96, .inl v_letters')) = (w_X10_takes D q_this q_letters q_p1 w_now w_kept w_trial w_refusals w_row w_dists w_left w_steps w_partners w_times w_spliced w_piece w_balances w_prices w_hands w_hand w_dealing v_hasImage v_rows v_lettered v_stepsMany v_splicedMany v_most v_together v_z v_letters' v_p1) := rfl
theorem w_X10_takes_g2 {D : va_G} {q_this : Nat} {q_letters : Nat} {q_p1 : Nat} {w_now : Value} {w_kept : Value} {w_trial : Value} {w_refusals : Value} {w_row : Value} {w_dists : Value} {w_left : Value} {w_steps : Value} {w_partners : Value} {w_times : Value} {w_spliced : Value} {w_piece : Value} {w_balances : Value} {w_prices : Value} {w_hands : Value} {w_hand : Value} {w_dealing : Value} {v_hasImage : Int32} {v_rows : Int32} {v_lettered : Int32} {v_stepsMany : Int32} {v_splicedMany : Int32} {v_most : Int32} {v_together : Int32} {v_z : Int32} {v_letters : (Nat → Int32)} {v_p1 : (Nat → Int32)} : (w_X10_takes D q_this q_letters q_p1 w_now w_kept w_trial w_refusals w_row w_dists w_left w_steps w_partners w_times w_spliced w_piece w_balances w_prices w_hands w_hand w_dealing v_hasImage v_rows v_lettered v_stepsMany v_splicedMany v_most v_together v_z v_letters v_p1)[2]? = some (q_p1, .inl (D.1 100, 50, .inl v_p1)) := rfl
theorem w_X10_takes_s2 {D : va_G} {q_this : Nat} {q_letters : Nat} {q_p1 : Nat} {w_now : Value} {w_kept : Value} {w_trial : Value} {w_refusals : Value} {w_row : Value} {w_dists : Value} {w_left : Value} {w_steps : Value} {w_partners : Value} {w_times : Value} {w_spliced : Value} {w_piece : Value} {w_balances : Value} {w_prices : Value} {w_hands : Value} {w_hand : Value} {w_dealing : Value} {v_hasImage : Int32} {v_rows : Int32} {v_lettered : Int32} {v_stepsMany : Int32} {v_splicedMany : Int32} {v_most : Int32} {v_together : Int32} {v_z : Int32} {v_letters : (Nat → Int32)} {v_p1 : (Nat → Int32)} {v_p1' : (Nat → Int32)} : (w_X10_takes D q_this q_letters q_p1 w_now w_kept w_trial w_refusals w_row w_dists w_left w_steps w_partners w_times w_spliced w_piece w_balances w_prices w_hands w_hand w_dealing v_hasImage v_rows v_lettered v_stepsMany v_splicedMany v_most v_together v_z v_letters v_p1).set 2 (q_p1, .inl (D.1 100, 50, .inl v_p1')) = (w_X10_takes D q_this q_letters q_p1 w_now w_kept w_trial w_refusals w_row w_dists w_left w_steps w_partners w_times w_spliced w_piece w_balances w_prices w_hands w_hand w_dealing v_hasImage v_rows v_lettered v_stepsMany v_splicedMany v_most v_together v_z v_letters v_p1') := rfl
theorem w_X10_takes_a {D : va_G} {q_this : Nat} {q_letters : Nat} {q_p1 : Nat} {w_now : Value} {w_kept : Value} {w_trial : Value} {w_refusals : Value} {w_row : Value} {w_dists : Value} {w_left : Value} {w_steps : Value} {w_partners : Value} {w_times : Value} {w_spliced : Value} {w_piece : Value} {w_balances : Value} {w_prices : Value} {w_hands : Value} {w_hand : Value} {w_dealing : Value} {v_hasImage : Int32} {v_rows : Int32} {v_lettered : Int32} {v_stepsMany : Int32} {v_splicedMany : Int32} {v_most : Int32} {v_together : Int32} {v_z : Int32} {v_letters : (Nat → Int32)} {v_p1 : (Nat → Int32)} : (w_X10_takes D q_this q_letters q_p1 w_now w_kept w_trial w_refusals w_row w_dists w_left w_steps w_partners w_times w_spliced w_piece w_balances w_prices w_hands w_hand w_dealing v_hasImage v_rows v_lettered v_stepsMany v_splicedMany v_most v_together v_z v_letters v_p1).map (fun q => q.1) = [q_this, q_letters, q_p1] := rfl
def f_X10_takes (x2 : Int32) (v_letters : (Nat → Int32)) (v_p1 : (Nat → Int32)) : Option (Int32 × (Nat → Int32)) :=
  ga x2 96 ((if (v_letters (Int32.toNatClampNeg x2)) = (115 : Int32) then ga (x2 + (1 : Int32)) 96 (ga (x2 + (2 : Int32)) 96 ((f_X10_digit (x2 + (3 : Int32)) v_letters).bind (fun r_digit_12 => (f_X10_digit (x2 + (4 : Int32)) v_letters).bind (fun r_digit_13 => (f_X10_comes ((v_letters (Int32.toNatClampNeg (x2 + (1 : Int32)))) - (97 : Int32)) ((v_letters (Int32.toNatClampNeg (x2 + (2 : Int32)))) - (97 : Int32)) (((10 : Int32) * r_digit_12) + r_digit_13) v_p1).bind (fun r_comes_14 => gb (r_comes_14.1) (some (r_comes_14.1, r_comes_14.2))))))) else (if (v_letters (Int32.toNatClampNeg x2)) = (104 : Int32) then ga (x2 + (1 : Int32)) 96 ((f_X10_isCorner ((v_letters (Int32.toNatClampNeg (x2 + (1 : Int32)))) - (97 : Int32))).bind (fun r_isCorner_9 => ((if r_isCorner_9 = 0 then ga (48 : Int32) 50 (some (v_p1 (Int32.toNatClampNeg (48 : Int32)))) else some ((v_letters (Int32.toNatClampNeg (x2 + (1 : Int32)))) - (97 : Int32))) : Option Int32).bind (fun m_10 => ga (48 : Int32) 50 ((f_X10_isCorner ((v_letters (Int32.toNatClampNeg (x2 + (1 : Int32)))) - (97 : Int32))).bind (fun r_isCorner_11 => gb (r_isCorner_11) (some (r_isCorner_11, upd v_p1 (Int32.toNatClampNeg (48 : Int32)) m_10))))))) else (f_X10_digit (x2 + (1 : Int32)) v_letters).bind (fun r_digit_1 => (f_X10_isStreet r_digit_1 v_p1).bind (fun r_isStreet_2 => (if r_isStreet_2 = 0 then some ((0 : Int32), v_p1) else (if (v_letters (Int32.toNatClampNeg x2)) = (120 : Int32) then ga ((40 : Int32) + r_digit_1) 50 (ga ((40 : Int32) + r_digit_1) 50 (some ((1 : Int32), upd v_p1 (Int32.toNatClampNeg ((40 : Int32) + r_digit_1)) ((1 : Int32) - (v_p1 (Int32.toNatClampNeg ((40 : Int32) + r_digit_1))))))) else (if (v_letters (Int32.toNatClampNeg x2)) = (108 : Int32) then (f_X10_digit (x2 + (2 : Int32)) v_letters).bind (fun r_digit_6 => (f_X10_digit (x2 + (3 : Int32)) v_letters).bind (fun r_digit_7 => ga ((16 : Int32) + r_digit_1) 50 (ga ((16 : Int32) + r_digit_1) 50 (gb (if ((upd v_p1 (Int32.toNatClampNeg ((16 : Int32) + r_digit_1)) (((10 : Int32) * r_digit_6) + r_digit_7)) (Int32.toNatClampNeg ((16 : Int32) + r_digit_1))) ≤ 0 then (0 : Int32) else (1 : Int32)) (some (if ((upd v_p1 (Int32.toNatClampNeg ((16 : Int32) + r_digit_1)) (((10 : Int32) * r_digit_6) + r_digit_7)) (Int32.toNatClampNeg ((16 : Int32) + r_digit_1))) ≤ 0 then (0 : Int32) else (1 : Int32), upd v_p1 (Int32.toNatClampNeg ((16 : Int32) + r_digit_1)) (((10 : Int32) * r_digit_6) + r_digit_7))))))) else (f_X10_digit (x2 + (2 : Int32)) v_letters).bind (fun r_digit_3 => ga ((24 : Int32) + r_digit_1) 50 ((f_X10_digit (x2 + (3 : Int32)) v_letters).bind (fun r_digit_4 => ga ((32 : Int32) + r_digit_1) 50 (ga ((24 : Int32) + r_digit_1) 50 (gb (if (5 : Int32) < ((upd (upd v_p1 (Int32.toNatClampNeg ((24 : Int32) + r_digit_1)) r_digit_3) (Int32.toNatClampNeg ((32 : Int32) + r_digit_1)) r_digit_4) (Int32.toNatClampNeg ((24 : Int32) + r_digit_1))) then (0 : Int32) else (1 : Int32)) (some (if (5 : Int32) < ((upd (upd v_p1 (Int32.toNatClampNeg ((24 : Int32) + r_digit_1)) r_digit_3) (Int32.toNatClampNeg ((32 : Int32) + r_digit_1)) r_digit_4) (Int32.toNatClampNeg ((24 : Int32) + r_digit_1))) then (0 : Int32) else (1 : Int32), upd (upd v_p1 (Int32.toNatClampNeg ((24 : Int32) + r_digit_1)) r_digit_3) (Int32.toNatClampNeg ((32 : Int32) + r_digit_1)) r_digit_4)))))))))))))))
set_option maxRecDepth 100000 in
set_option maxHeartbeats 4000000 in
theorem c_X10_takes (l : Launch) (D : va_G) {q_this q_letters q_p1 : Nat} {w_now w_kept w_trial w_refusals w_row w_dists w_left w_steps w_partners w_times w_spliced w_piece w_balances w_prices w_hands w_hand w_dealing : Value} {v_hasImage : Int32} {v_rows : Int32} {v_lettered : Int32} {v_stepsMany : Int32} {v_splicedMany : Int32} {v_most : Int32} {v_together : Int32} {v_z : Int32} {v_letters : (Nat → Int32)} {v_p1 : (Nat → Int32)} {x2 : Int32} {o : (Int32 × (Nat → Int32))} (h : f_X10_takes x2 v_letters v_p1 = some o) : CT l D yX10_takes cX10_takes 5 (Option.some FieldType.boolean) 3 [.ref q_this, .ref q_p1, .int x2] (w_X10_takes D q_this q_letters q_p1 w_now w_kept w_trial w_refusals w_row w_dists w_left w_steps w_partners w_times w_spliced w_piece w_balances w_prices w_hands w_hand w_dealing v_hasImage v_rows v_lettered v_stepsMany v_splicedMany v_most v_together v_z v_letters v_p1) (w_X10_takes D q_this q_letters q_p1 w_now w_kept w_trial w_refusals w_row w_dists w_left w_steps w_partners w_times w_spliced w_piece w_balances w_prices w_hands w_hand w_dealing v_hasImage v_rows v_lettered v_stepsMany v_splicedMany v_most v_together v_z v_letters o.2) (some (.int o.1)) := by
  refine CT.of mk_X10_takes (Nat.le_of_ble_eq_true rfl) (fun g hl hD C E => ?_)
  subst hl
  subst hD
  unfold f_X10_takes at h
  refine j_aload_n C dX10_takes_0 rfl ?_
  refine j_get C 0 w_X10_takes_g0 rfl inX10 7 (by decide) kw_988 rfl rfl dX10_takes_1 ?_
  refine j_iload_n C dX10_takes_4 rfl ?_
  refine j_iaload 1 C h w_X10_takes_g1 rfl dX10_takes_5 (fun h => ?_)
  refine j_istore_n C dX10_takes_6 (by decide) ?_
  refine j_iload_n C dX10_takes_7 rfl ?_
  refine j_bipush C (115) dX10_takes_8 kb_115 ?_
  refine j_icmp_ne C h 58 dX10_takes_10 (by decide) (fun hc h => ?_) (fun hc h => ?_)
  · refine j_aload_n C dX10_takes_13 rfl ?_
    refine j_aload_n C dX10_takes_14 rfl ?_
    refine j_get C 0 w_X10_takes_g0 rfl inX10 7 (by decide) kw_988 rfl rfl dX10_takes_15 ?_
    refine j_iload_n C dX10_takes_18 rfl ?_
    refine j_iconst C (1) dX10_takes_19 ki_1 ?_
    refine j_iadd C dX10_takes_20 ?_
    refine j_iaload 1 C h w_X10_takes_g1 rfl dX10_takes_21 (fun h => ?_)
    refine j_bipush C (97) dX10_takes_22 kb_97 ?_
    refine j_isub C dX10_takes_24 ?_
    refine j_aload_n C dX10_takes_25 rfl ?_
    refine j_get C 0 w_X10_takes_g0 rfl inX10 7 (by decide) kw_988 rfl rfl dX10_takes_26 ?_
    refine j_iload_n C dX10_takes_29 rfl ?_
    refine j_iconst C (2) dX10_takes_30 ki_2 ?_
    refine j_iadd C dX10_takes_31 ?_
    refine j_iaload 1 C h w_X10_takes_g1 rfl dX10_takes_32 (fun h => ?_)
    refine j_bipush C (97) dX10_takes_33 kb_97 ?_
    refine j_isub C dX10_takes_35 ?_
    refine j_bipush C (10) dX10_takes_36 kb_10 ?_
    refine j_aload_n C dX10_takes_38 rfl ?_
    refine j_iload_n C dX10_takes_39 rfl ?_
    refine j_iconst C (3) dX10_takes_40 ki_3 ?_
    refine j_iadd C dX10_takes_41 ?_
    obtain ⟨r_digit_12, h_12, h⟩ := of_bind h
    refine j_callV1 C mk_X10_digit ms_X10_digit kw_1101 (c_X10_digit (gl g) (gD g) h_12) (by decide) 0 w_X10_takes_g0 rfl [0, 1] (hC_cons w_X10_takes_g0 (hC_cons w_X10_takes_g1 hC_nil)) rfl (w_X10_digit_a.trans w_X10_digit_a.symm) rfl rfl (Nat.le_of_ble_eq_true rfl) dX10_takes_42 (wput_cons w_X10_takes_s0 (wput_cons w_X10_takes_s1 wput_nil)) ?_
    refine j_imul C dX10_takes_45 ?_
    refine j_aload_n C dX10_takes_46 rfl ?_
    refine j_iload_n C dX10_takes_47 rfl ?_
    refine j_iconst C (4) dX10_takes_48 ki_4 ?_
    refine j_iadd C dX10_takes_49 ?_
    obtain ⟨r_digit_13, h_13, h⟩ := of_bind h
    refine j_callV1 C mk_X10_digit ms_X10_digit kw_1101 (c_X10_digit (gl g) (gD g) h_13) (by decide) 0 w_X10_takes_g0 rfl [0, 1] (hC_cons w_X10_takes_g0 (hC_cons w_X10_takes_g1 hC_nil)) rfl (w_X10_digit_a.trans w_X10_digit_a.symm) rfl rfl (Nat.le_of_ble_eq_true rfl) dX10_takes_50 (wput_cons w_X10_takes_s0 (wput_cons w_X10_takes_s1 wput_nil)) ?_
    refine j_iadd C dX10_takes_53 ?_
    obtain ⟨r_comes_14, h_14, h⟩ := of_bind h
    refine j_callS1 C mk_X10_comes ms_X10_comes kw_1105 (c_X10_comes (gl g) (gD g) h_14) (by decide) [2] (hC_cons w_X10_takes_g2 hC_nil) rfl (w_X10_comes_a.trans w_X10_comes_a.symm) rfl rfl (Nat.le_of_ble_eq_true rfl) dX10_takes_54 (wput_cons w_X10_takes_s2 wput_nil) ?_
    obtain ⟨hz, h⟩ := of_gb h
    have h := Option.some.inj h
    subst h
    exact j_zret C E hz.1 dX10_takes_57
  · refine j_iload_n C dX10_takes_58 rfl ?_
    refine j_bipush C (104) dX10_takes_59 kb_104 ?_
    refine j_icmp_ne C h 104 dX10_takes_61 (by decide) (fun hc h => ?_) (fun hc h => ?_)
    · refine j_aload_n C dX10_takes_64 rfl ?_
      refine j_get C 0 w_X10_takes_g0 rfl inX10 7 (by decide) kw_988 rfl rfl dX10_takes_65 ?_
      refine j_iload_n C dX10_takes_68 rfl ?_
      refine j_iconst C (1) dX10_takes_69 ki_1 ?_
      refine j_iadd C dX10_takes_70 ?_
      refine j_iaload 1 C h w_X10_takes_g1 rfl dX10_takes_71 (fun h => ?_)
      refine j_bipush C (97) dX10_takes_72 kb_97 ?_
      refine j_isub C dX10_takes_74 ?_
      refine j_istore C dX10_takes_75 (by decide) ?_
      refine j_aload_n C dX10_takes_77 rfl ?_
      refine j_bipush C (48) dX10_takes_78 kb_48 ?_
      refine j_iload C dX10_takes_80 rfl ?_
      obtain ⟨r_isCorner_9, h_9, h⟩ := of_bind h
      refine j_callS1 C mk_X10_isCorner ms_X10_isCorner kw_1108 (c_X10_isCorner (gl g) (gD g) h_9) (by decide) [] hC_nil rfl (w_X10_isCorner_a.trans w_X10_isCorner_a.symm) rfl rfl (Nat.le_of_ble_eq_true rfl) dX10_takes_82 wput_nil ?_
      obtain ⟨m_10, hm_10, h⟩ := of_bind h
      have hj_10 : J g (w_X10_takes (gD g) q_this q_letters q_p1 w_now w_kept w_trial w_refusals w_row w_dists w_left w_steps w_partners w_times w_spliced w_piece w_balances w_prices w_hands w_hand w_dealing v_hasImage v_rows v_lettered v_stepsMany v_splicedMany v_most v_together v_z v_letters v_p1) [(4, .int ((v_letters (Int32.toNatClampNeg (x2 + (1 : Int32)))) - (97 : Int32)))] 97 [.int (m_10), .int ((48 : Int32)), .ref q_p1] := by
        refine j_iastore 2 C h w_X10_takes_g2 rfl dX10_takes_97 (fun h => ?_)
        refine j_ws w_X10_takes_s2 ?_
        refine j_iload C dX10_takes_98 rfl ?_
        obtain ⟨r_isCorner_11, h_11, h⟩ := of_bind h
        refine j_callS1 C mk_X10_isCorner ms_X10_isCorner kw_1108 (c_X10_isCorner (gl g) (gD g) h_11) (by decide) [] hC_nil rfl (w_X10_isCorner_a.trans w_X10_isCorner_a.symm) rfl rfl (Nat.le_of_ble_eq_true rfl) dX10_takes_100 wput_nil ?_
        obtain ⟨hz, h⟩ := of_gb h
        have h := Option.some.inj h
        subst h
        exact j_zret C E hz.1 dX10_takes_103
      refine j_if_eq C hm_10 93 dX10_takes_85 (by decide) (fun hc h => ?_) (fun hc h => ?_)
      · refine j_aload_n C dX10_takes_93 rfl ?_
        refine j_bipush C (48) dX10_takes_94 kb_48 ?_
        refine j_iaload 2 C h w_X10_takes_g2 rfl dX10_takes_96 (fun h => ?_)
        have h := Option.some.inj h
        subst h
        exact j_lw hj_10 rfl
      · refine j_iload C dX10_takes_88 rfl ?_
        refine j_goto C 97 dX10_takes_90 (by decide) ?_
        have h := Option.some.inj h
        subst h
        exact j_lw hj_10 rfl
    · refine j_aload_n C dX10_takes_104 rfl ?_
      refine j_iload_n C dX10_takes_105 rfl ?_
      refine j_iconst C (1) dX10_takes_106 ki_1 ?_
      refine j_iadd C dX10_takes_107 ?_
      obtain ⟨r_digit_1, h_1, h⟩ := of_bind h
      refine j_callV1 C mk_X10_digit ms_X10_digit kw_1101 (c_X10_digit (gl g) (gD g) h_1) (by decide) 0 w_X10_takes_g0 rfl [0, 1] (hC_cons w_X10_takes_g0 (hC_cons w_X10_takes_g1 hC_nil)) rfl (w_X10_digit_a.trans w_X10_digit_a.symm) rfl rfl (Nat.le_of_ble_eq_true rfl) dX10_takes_108 (wput_cons w_X10_takes_s0 (wput_cons w_X10_takes_s1 wput_nil)) ?_
      refine j_istore C dX10_takes_111 (by decide) ?_
      refine j_aload_n C dX10_takes_113 rfl ?_
      refine j_iload C dX10_takes_114 rfl ?_
      obtain ⟨r_isStreet_2, h_2, h⟩ := of_bind h
      refine j_callS1 C mk_X10_isStreet ms_X10_isStreet kw_1113 (c_X10_isStreet (gl g) (gD g) h_2) (by decide) [2] (hC_cons w_X10_takes_g2 hC_nil) rfl (w_X10_isStreet_a.trans w_X10_isStreet_a.symm) rfl rfl (Nat.le_of_ble_eq_true rfl) dX10_takes_116 (wput_cons w_X10_takes_s2 wput_nil) ?_
      refine j_if_ne C h 124 dX10_takes_119 (by decide) (fun hc h => ?_) (fun hc h => ?_)
      · refine j_iconst C (0) dX10_takes_122 ki_0 ?_
        have h := Option.some.inj h
        subst h
        exact j_zret C E rfl dX10_takes_123
      · refine j_iload_n C dX10_takes_124 rfl ?_
        refine j_bipush C (120) dX10_takes_125 kb_120 ?_
        refine j_icmp_ne C h 148 dX10_takes_127 (by decide) (fun hc h => ?_) (fun hc h => ?_)
        · refine j_aload_n C dX10_takes_130 rfl ?_
          refine j_bipush C (40) dX10_takes_131 kb_40 ?_
          refine j_iload C dX10_takes_133 rfl ?_
          refine j_iadd C dX10_takes_135 ?_
          refine j_iconst C (1) dX10_takes_136 ki_1 ?_
          refine j_aload_n C dX10_takes_137 rfl ?_
          refine j_bipush C (40) dX10_takes_138 kb_40 ?_
          refine j_iload C dX10_takes_140 rfl ?_
          refine j_iadd C dX10_takes_142 ?_
          refine j_iaload 2 C h w_X10_takes_g2 rfl dX10_takes_143 (fun h => ?_)
          refine j_isub C dX10_takes_144 ?_
          refine j_iastore 2 C h w_X10_takes_g2 rfl dX10_takes_145 (fun h => ?_)
          refine j_ws w_X10_takes_s2 ?_
          refine j_iconst C (1) dX10_takes_146 ki_1 ?_
          have h := Option.some.inj h
          subst h
          exact j_zret C E rfl dX10_takes_147
        · refine j_iload_n C dX10_takes_148 rfl ?_
          refine j_bipush C (108) dX10_takes_149 kb_108 ?_
          refine j_icmp_ne C h 195 dX10_takes_151 (by decide) (fun hc h => ?_) (fun hc h => ?_)
          · refine j_aload_n C dX10_takes_154 rfl ?_
            refine j_bipush C (16) dX10_takes_155 kb_16 ?_
            refine j_iload C dX10_takes_157 rfl ?_
            refine j_iadd C dX10_takes_159 ?_
            refine j_bipush C (10) dX10_takes_160 kb_10 ?_
            refine j_aload_n C dX10_takes_162 rfl ?_
            refine j_iload_n C dX10_takes_163 rfl ?_
            refine j_iconst C (2) dX10_takes_164 ki_2 ?_
            refine j_iadd C dX10_takes_165 ?_
            obtain ⟨r_digit_6, h_6, h⟩ := of_bind h
            refine j_callV1 C mk_X10_digit ms_X10_digit kw_1101 (c_X10_digit (gl g) (gD g) h_6) (by decide) 0 w_X10_takes_g0 rfl [0, 1] (hC_cons w_X10_takes_g0 (hC_cons w_X10_takes_g1 hC_nil)) rfl (w_X10_digit_a.trans w_X10_digit_a.symm) rfl rfl (Nat.le_of_ble_eq_true rfl) dX10_takes_166 (wput_cons w_X10_takes_s0 (wput_cons w_X10_takes_s1 wput_nil)) ?_
            refine j_imul C dX10_takes_169 ?_
            refine j_aload_n C dX10_takes_170 rfl ?_
            refine j_iload_n C dX10_takes_171 rfl ?_
            refine j_iconst C (3) dX10_takes_172 ki_3 ?_
            refine j_iadd C dX10_takes_173 ?_
            obtain ⟨r_digit_7, h_7, h⟩ := of_bind h
            refine j_callV1 C mk_X10_digit ms_X10_digit kw_1101 (c_X10_digit (gl g) (gD g) h_7) (by decide) 0 w_X10_takes_g0 rfl [0, 1] (hC_cons w_X10_takes_g0 (hC_cons w_X10_takes_g1 hC_nil)) rfl (w_X10_digit_a.trans w_X10_digit_a.symm) rfl rfl (Nat.le_of_ble_eq_true rfl) dX10_takes_174 (wput_cons w_X10_takes_s0 (wput_cons w_X10_takes_s1 wput_nil)) ?_
            refine j_iadd C dX10_takes_177 ?_
            refine j_iastore 2 C h w_X10_takes_g2 rfl dX10_takes_178 (fun h => ?_)
            refine j_ws w_X10_takes_s2 ?_
            refine j_aload_n C dX10_takes_179 rfl ?_
            refine j_bipush C (16) dX10_takes_180 kb_16 ?_
            refine j_iload C dX10_takes_182 rfl ?_
            refine j_iadd C dX10_takes_184 ?_
            refine j_iaload 2 C h w_X10_takes_g2 rfl dX10_takes_185 (fun h => ?_)
            have hj_8 : J g (w_X10_takes (gD g) q_this q_letters q_p1 w_now w_kept w_trial w_refusals w_row w_dists w_left w_steps w_partners w_times w_spliced w_piece w_balances w_prices w_hands w_hand w_dealing v_hasImage v_rows v_lettered v_stepsMany v_splicedMany v_most v_together v_z v_letters (upd v_p1 (Int32.toNatClampNeg ((16 : Int32) + r_digit_1)) (((10 : Int32) * r_digit_6) + r_digit_7))) [] 194 [.int (if ((upd v_p1 (Int32.toNatClampNeg ((16 : Int32) + r_digit_1)) (((10 : Int32) * r_digit_6) + r_digit_7)) (Int32.toNatClampNeg ((16 : Int32) + r_digit_1))) ≤ 0 then (0 : Int32) else (1 : Int32))] := by
              obtain ⟨hz, h⟩ := of_gb h
              have h := Option.some.inj h
              subst h
              exact j_zret C E hz.1 dX10_takes_194
            refine jv_if_le C 193 dX10_takes_186 (by decide) (fun hc => ?_) (fun hc => ?_)
            · try simp only [if_pos hc] at hj_8
              refine j_iconst C (0) dX10_takes_193 ki_0 ?_
              exact j_lw hj_8 rfl
            · try simp only [if_neg hc] at hj_8
              refine j_iconst C (1) dX10_takes_189 ki_1 ?_
              refine j_goto C 194 dX10_takes_190 (by decide) ?_
              exact j_lw hj_8 rfl
          · refine j_aload_n C dX10_takes_195 rfl ?_
            refine j_bipush C (24) dX10_takes_196 kb_24 ?_
            refine j_iload C dX10_takes_198 rfl ?_
            refine j_iadd C dX10_takes_200 ?_
            refine j_aload_n C dX10_takes_201 rfl ?_
            refine j_iload_n C dX10_takes_202 rfl ?_
            refine j_iconst C (2) dX10_takes_203 ki_2 ?_
            refine j_iadd C dX10_takes_204 ?_
            obtain ⟨r_digit_3, h_3, h⟩ := of_bind h
            refine j_callV1 C mk_X10_digit ms_X10_digit kw_1101 (c_X10_digit (gl g) (gD g) h_3) (by decide) 0 w_X10_takes_g0 rfl [0, 1] (hC_cons w_X10_takes_g0 (hC_cons w_X10_takes_g1 hC_nil)) rfl (w_X10_digit_a.trans w_X10_digit_a.symm) rfl rfl (Nat.le_of_ble_eq_true rfl) dX10_takes_205 (wput_cons w_X10_takes_s0 (wput_cons w_X10_takes_s1 wput_nil)) ?_
            refine j_iastore 2 C h w_X10_takes_g2 rfl dX10_takes_208 (fun h => ?_)
            refine j_ws w_X10_takes_s2 ?_
            refine j_aload_n C dX10_takes_209 rfl ?_
            refine j_bipush C (32) dX10_takes_210 kb_32 ?_
            refine j_iload C dX10_takes_212 rfl ?_
            refine j_iadd C dX10_takes_214 ?_
            refine j_aload_n C dX10_takes_215 rfl ?_
            refine j_iload_n C dX10_takes_216 rfl ?_
            refine j_iconst C (3) dX10_takes_217 ki_3 ?_
            refine j_iadd C dX10_takes_218 ?_
            obtain ⟨r_digit_4, h_4, h⟩ := of_bind h
            refine j_callV1 C mk_X10_digit ms_X10_digit kw_1101 (c_X10_digit (gl g) (gD g) h_4) (by decide) 0 w_X10_takes_g0 rfl [0, 1] (hC_cons w_X10_takes_g0 (hC_cons w_X10_takes_g1 hC_nil)) rfl (w_X10_digit_a.trans w_X10_digit_a.symm) rfl rfl (Nat.le_of_ble_eq_true rfl) dX10_takes_219 (wput_cons w_X10_takes_s0 (wput_cons w_X10_takes_s1 wput_nil)) ?_
            refine j_iastore 2 C h w_X10_takes_g2 rfl dX10_takes_222 (fun h => ?_)
            refine j_ws w_X10_takes_s2 ?_
            refine j_aload_n C dX10_takes_223 rfl ?_
            refine j_bipush C (24) dX10_takes_224 kb_24 ?_
            refine j_iload C dX10_takes_226 rfl ?_
            refine j_iadd C dX10_takes_228 ?_
            refine j_iaload 2 C h w_X10_takes_g2 rfl dX10_takes_229 (fun h => ?_)
            refine j_iconst C (5) dX10_takes_230 ki_5 ?_
            have hj_5 : J g (w_X10_takes (gD g) q_this q_letters q_p1 w_now w_kept w_trial w_refusals w_row w_dists w_left w_steps w_partners w_times w_spliced w_piece w_balances w_prices w_hands w_hand w_dealing v_hasImage v_rows v_lettered v_stepsMany v_splicedMany v_most v_together v_z v_letters (upd (upd v_p1 (Int32.toNatClampNeg ((24 : Int32) + r_digit_1)) r_digit_3) (Int32.toNatClampNeg ((32 : Int32) + r_digit_1)) r_digit_4)) [] 239 [.int (if (5 : Int32) < ((upd (upd v_p1 (Int32.toNatClampNeg ((24 : Int32) + r_digit_1)) r_digit_3) (Int32.toNatClampNeg ((32 : Int32) + r_digit_1)) r_digit_4) (Int32.toNatClampNeg ((24 : Int32) + r_digit_1))) then (0 : Int32) else (1 : Int32))] := by
              obtain ⟨hz, h⟩ := of_gb h
              have h := Option.some.inj h
              subst h
              exact j_zret C E hz.1 dX10_takes_239
            refine jv_icmp_gt C 238 dX10_takes_231 (by decide) (fun hc => ?_) (fun hc => ?_)
            · try simp only [if_pos hc] at hj_5
              refine j_iconst C (0) dX10_takes_238 ki_0 ?_
              exact j_lw hj_5 rfl
            · try simp only [if_neg hc] at hj_5
              refine j_iconst C (1) dX10_takes_234 ki_1 ?_
              refine j_goto C 239 dX10_takes_235 (by decide) ?_
              exact j_lw hj_5 rfl

def w_X10_map (D : va_G) (q_this q_now q_trial q_letters : Nat) (w_kept w_refusals w_row w_dists w_left w_steps w_partners w_times w_spliced w_piece w_balances w_prices w_hands w_hand w_dealing : Value) (v_hasImage : Int32) (v_rows : Int32) (v_lettered : Int32) (v_stepsMany : Int32) (v_splicedMany : Int32) (v_most : Int32) (v_together : Int32) (v_z : Int32) (v_now : (Nat → Int32)) (v_trial : (Nat → Int32)) (v_letters : (Nat → Int32)) : va_W := [(q_this, .inr (9, [.ref q_now, w_kept, .ref q_trial, .int v_hasImage, w_refusals, w_row, .int v_rows, .ref q_letters, .int v_lettered, w_dists, w_left, w_steps, .int v_stepsMany, w_partners, w_times, w_spliced, .int v_splicedMany, w_piece, w_balances, w_prices, w_hands, w_hand, w_dealing, .int v_most, .int v_together, .int v_z])), (q_now, .inl (D.1 100, 50, .inl v_now)), (q_trial, .inl (D.1 100, 50, .inl v_trial)), (q_letters, .inl (D.1 100, 96, .inl v_letters))]
theorem w_X10_map_g0 {D : va_G} {q_this : Nat} {q_now : Nat} {q_trial : Nat} {q_letters : Nat} {w_kept : Value} {w_refusals : Value} {w_row : Value} {w_dists : Value} {w_left : Value} {w_steps : Value} {w_partners : Value} {w_times : Value} {w_spliced : Value} {w_piece : Value} {w_balances : Value} {w_prices : Value} {w_hands : Value} {w_hand : Value} {w_dealing : Value} {v_hasImage : Int32} {v_rows : Int32} {v_lettered : Int32} {v_stepsMany : Int32} {v_splicedMany : Int32} {v_most : Int32} {v_together : Int32} {v_z : Int32} {v_now : (Nat → Int32)} {v_trial : (Nat → Int32)} {v_letters : (Nat → Int32)} : (w_X10_map D q_this q_now q_trial q_letters w_kept w_refusals w_row w_dists w_left w_steps w_partners w_times w_spliced w_piece w_balances w_prices w_hands w_hand w_dealing v_hasImage v_rows v_lettered v_stepsMany v_splicedMany v_most v_together v_z v_now v_trial v_letters)[0]? = some (q_this, .inr (9, [.ref q_now, w_kept, .ref q_trial, .int v_hasImage, w_refusals, w_row, .int v_rows, .ref q_letters, .int v_lettered, w_dists, w_left, w_steps, .int v_stepsMany, w_partners, w_times, w_spliced, .int v_splicedMany, w_piece, w_balances, w_prices, w_hands, w_hand, w_dealing, .int v_most, .int v_together, .int v_z])) := rfl
theorem w_X10_map_s0 {D : va_G} {q_this : Nat} {q_now : Nat} {q_trial : Nat} {q_letters : Nat} {w_kept : Value} {w_refusals : Value} {w_row : Value} {w_dists : Value} {w_left : Value} {w_steps : Value} {w_partners : Value} {w_times : Value} {w_spliced : Value} {w_piece : Value} {w_balances : Value} {w_prices : Value} {w_hands : Value} {w_hand : Value} {w_dealing : Value} {v_hasImage : Int32} {v_rows : Int32} {v_lettered : Int32} {v_stepsMany : Int32} {v_splicedMany : Int32} {v_most : Int32} {v_together : Int32} {v_z : Int32} {v_now : (Nat → Int32)} {v_trial : (Nat → Int32)} {v_letters : (Nat → Int32)} {v_hasImage' : Int32} {v_rows' : Int32} {v_lettered' : Int32} {v_stepsMany' : Int32} {v_splicedMany' : Int32} {v_most' : Int32} {v_together' : Int32} {v_z' : Int32} : (w_X10_map D q_this q_now q_trial q_letters w_kept w_refusals w_row w_dists w_left w_steps w_partners w_times w_spliced w_piece w_balances w_prices w_hands w_hand w_dealing v_hasImage v_rows v_lettered v_stepsMany v_splicedMany v_most v_together v_z v_now v_trial v_letters).set 0 (q_this, .inr (9, [.ref q_now, w_kept, .ref q_trial, .int v_hasImage', w_refusals, w_row, .int v_rows', .ref q_letters, .int v_lettered', w_dists, w_left, w_steps, .int v_stepsMany', w_partners, w_times, w_spliced, .int v_splicedMany', w_piece, w_balances, w_prices, w_hands, w_hand, w_dealing, .int v_most', .int v_together', .int v_z'])) = (w_X10_map D q_this q_now q_trial q_letters w_kept w_refusals w_row w_dists w_left w_steps w_partners w_times w_spliced w_piece w_balances w_prices w_hands w_hand w_dealing v_hasImage' v_rows' v_lettered' v_stepsMany' v_splicedMany' v_most' v_together' v_z' v_now v_trial v_letters) := rfl
theorem w_X10_map_g1 {D : va_G} {q_this : Nat} {q_now : Nat} {q_trial : Nat} {q_letters : Nat} {w_kept : Value} {w_refusals : Value} {w_row : Value} {w_dists : Value} {w_left : Value} {w_steps : Value} {w_partners : Value} {w_times : Value} {w_spliced : Value} {w_piece : Value} {w_balances : Value} {w_prices : Value} {w_hands : Value} {w_hand : Value} {w_dealing : Value} {v_hasImage : Int32} {v_rows : Int32} {v_lettered : Int32} {v_stepsMany : Int32} {v_splicedMany : Int32} {v_most : Int32} {v_together : Int32} {v_z : Int32} {v_now : (Nat → Int32)} {v_trial : (Nat → Int32)} {v_letters : (Nat → Int32)} : (w_X10_map D q_this q_now q_trial q_letters w_kept w_refusals w_row w_dists w_left w_steps w_partners w_times w_spliced w_piece w_balances w_prices w_hands w_hand w_dealing v_hasImage v_rows v_lettered v_stepsMany v_splicedMany v_most v_together v_z v_now v_trial v_letters)[1]? = some (q_now, .inl (D.1 100, 50, .inl v_now)) := rfl
theorem w_X10_map_s1 {D : va_G} {q_this : Nat} {q_now : Nat} {q_trial : Nat} {q_letters : Nat} {w_kept : Value} {w_refusals : Value} {w_row : Value} {w_dists : Value} {w_left : Value} {w_steps : Value} {w_partners : Value} {w_times : Value} {w_spliced : Value} {w_piece : Value} {w_balances : Value} {w_prices : Value} {w_hands : Value} {w_hand : Value} {w_dealing : Value} {v_hasImage : Int32} {v_rows : Int32} {v_lettered : Int32} {v_stepsMany : Int32} {v_splicedMany : Int32} {v_most : Int32} {v_together : Int32} {v_z : Int32} {v_now : (Nat → Int32)} {v_trial : (Nat → Int32)} {v_letters : (Nat → Int32)} {v_now' : (Nat → Int32)} : (w_X10_map D q_this q_now q_trial q_letters w_kept w_refusals w_row w_dists w_left w_steps w_partners w_times w_spliced w_piece w_balances w_prices w_hands w_hand w_dealing v_hasImage v_rows v_lettered v_stepsMany v_splicedMany v_most v_together v_z v_now v_trial v_letters).set 1 (q_now, .inl (D.1 100, 50, .inl v_now')) = (w_X10_map D q_this q_now q_trial q_letters w_kept w_refusals w_row w_dists w_left w_steps w_partners w_times w_spliced w_piece w_balances w_prices w_hands w_hand w_dealing v_hasImage v_rows v_lettered v_stepsMany v_splicedMany v_most v_together v_z v_now' v_trial v_letters) := rfl
theorem w_X10_map_g2 {D : va_G} {q_this : Nat} {q_now : Nat} {q_trial : Nat} {q_letters : Nat} {w_kept : Value} {w_refusals : Value} {w_row : Value} {w_dists : Value} {w_left : Value} {w_steps : Value} {w_partners : Value} {w_times : Value} {w_spliced : Value} {w_piece : Value} {w_balances : Value} {w_prices : Value} {w_hands : Value} {w_hand : Value} {w_dealing : Value} {v_hasImage : Int32} {v_rows : Int32} {v_lettered : Int32} {v_stepsMany : Int32} {v_splicedMany : Int32} {v_most : Int32} {v_together : Int32} {v_z : Int32} {v_now : (Nat → Int32)} {v_trial : (Nat → Int32)} {v_letters : (Nat → Int32)} : (w_X10_map D q_this q_now q_trial q_letters w_kept w_refusals w_row w_dists w_left w_steps w_partners w_times w_spliced w_piece w_balances w_prices w_hands w_hand w_dealing v_hasImage v_rows v_lettered v_stepsMany v_splicedMany v_most v_together v_z v_now v_trial v_letters)[2]? = some (q_trial, .inl (D.1 100, 50, .inl v_trial)) := rfl
theorem w_X10_map_s2 {D : va_G} {q_this : Nat} {q_now : Nat} {q_trial : Nat} {q_letters : Nat} {w_kept : Value} {w_refusals : Value} {w_row : Value} {w_dists : Value} {w_left : Value} {w_steps : Value} {w_partners : Value} {w_times : Value} {w_spliced : Value} {w_piece : Value} {w_balances : Value} {w_prices : Value} {w_hands : Value} {w_hand : Value} {w_dealing : Value} {v_hasImage : Int32} {v_rows : Int32} {v_lettered : Int32} {v_stepsMany : Int32} {v_splicedMany : Int32} {v_most : Int32} {v_together : Int32} {v_z : Int32} {v_now : (Nat → Int32)} {v_trial : (Nat → Int32)} {v_letters : (Nat → Int32)} {v_trial' : (Nat → Int32)} : (w_X10_map D q_this q_now q_trial q_letters w_kept w_refusals w_row w_dists w_left w_steps w_partners w_times w_spliced w_piece w_balances w_prices w_hands w_hand w_dealing v_hasImage v_rows v_lettered v_stepsMany v_splicedMany v_most v_together v_z v_now v_trial v_letters).set 2 (q_trial, .inl (D.1 100, 50, .inl v_trial')) = (w_X10_map D q_this q_now q_trial q_letters w_kept w_refusals w_row w_dists w_left w_steps w_partners w_times w_spliced w_piece w_balances w_prices w_hands w_hand w_dealing v_hasImage v_rows v_lettered v_stepsMany v_splicedMany v_most v_together v_z v_now v_trial' v_letters) := rfl
theorem w_X10_map_g3 {D : va_G} {q_this : Nat} {q_now : Nat} {q_trial : Nat} {q_letters : Nat} {w_kept : Value} {w_refusals : Value} {w_row : Value} {w_dists : Value} {w_left : Value} {w_steps : Value} {w_partners : Value} {w_times : Value} {w_spliced : Value} {w_piece : Value} {w_balances : Value} {w_prices : Value} {w_hands : Value} {w_hand : Value} {w_dealing : Value} {v_hasImage : Int32} {v_rows : Int32} {v_lettered : Int32} {v_stepsMany : Int32} {v_splicedMany : Int32} {v_most : Int32} {v_together : Int32} {v_z : Int32} {v_now : (Nat → Int32)} {v_trial : (Nat → Int32)} {v_letters : (Nat → Int32)} : (w_X10_map D q_this q_now q_trial q_letters w_kept w_refusals w_row w_dists w_left w_steps w_partners w_times w_spliced w_piece w_balances w_prices w_hands w_hand w_dealing v_hasImage v_rows v_lettered v_stepsMany v_splicedMany v_most v_together v_z v_now v_trial v_letters)[3]? = some (q_letters, .inl (D.1 100, 96, .inl v_letters)) := rfl
theorem w_X10_map_s3 {D : va_G} {q_this : Nat} {q_now : Nat} {q_trial : Nat} {q_letters : Nat} {w_kept : Value} {w_refusals : Value} {w_row : Value} {w_dists : Value} {w_left : Value} {w_steps : Value} {w_partners : Value} {w_times : Value} {w_spliced : Value} {w_piece : Value} {w_balances : Value} {w_prices : Value} {w_hands : Value} {w_hand : Value} {w_dealing : Value} {v_hasImage : Int32} {v_rows : Int32} {v_lettered : Int32} {v_stepsMany : Int32} {v_splicedMany : Int32} {v_most : Int32} {v_together : Int32} {v_z : Int32} {v_now : (Nat → Int32)} {v_trial : (Nat → Int32)} {v_letters : (Nat → Int32)} {v_letters' : (Nat → Int32)} : (w_X10_map D q_this q_now q_trial q_letters w_kept w_refusals w_row w_dists w_left w_steps w_partners w_times w_spliced w_piece w_balances w_prices w_hands w_hand w_dealing v_hasImage v_rows v_lettered v_stepsMany v_splicedMany v_most v_together v_z v_now v_trial v_letters).set 3 (q_letters, .inl (D.1 100, 96, .inl v_letters')) = (w_X10_map D q_this q_now q_trial q_letters w_kept w_refusals w_row w_dists w_left w_steps w_partners w_times w_spliced w_piece w_balances w_prices w_hands w_hand w_dealing v_hasImage v_rows v_lettered v_stepsMany v_splicedMany v_most v_together v_z v_now v_trial v_letters') := rfl
theorem w_X10_map_a {D : va_G} {q_this : Nat} {q_now : Nat} {q_trial : Nat} {q_letters : Nat} {w_kept : Value} {w_refusals : Value} {w_row : Value} {w_dists : Value} {w_left : Value} {w_steps : Value} {w_partners : Value} {w_times : Value} {w_spliced : Value} {w_piece : Value} {w_balances : Value} {w_prices : Value} {w_hands : Value} {w_hand : Value} {w_dealing : Value} {v_hasImage : Int32} {v_rows : Int32} {v_lettered : Int32} {v_stepsMany : Int32} {v_splicedMany : Int32} {v_most : Int32} {v_together : Int32} {v_z : Int32} {v_now : (Nat → Int32)} {v_trial : (Nat → Int32)} {v_letters : (Nat → Int32)} : (w_X10_map D q_this q_now q_trial q_letters w_kept w_refusals w_row w_dists w_left w_steps w_partners w_times w_spliced w_piece w_balances w_prices w_hands w_hand w_dealing v_hasImage v_rows v_lettered v_stepsMany v_splicedMany v_most v_together v_z v_now v_trial v_letters).map (fun q => q.1) = [q_this, q_now, q_trial, q_letters] := rfl
def f_X10_map_b37 (v_lettered : Int32) (x5_37 : Int32) (x4_37 : Int32) (v_trial_37 : (Nat → Int32)) (v_letters : (Nat → Int32)) (v_now : (Nat → Int32)) : Option ((Int32 × Int32 × (Nat → Int32)) ⊕ ((Int32 × (Nat → Int32)) ⊕ (Int32 × Int32 × (Nat → Int32) × (Nat → Int32)))) :=
  (if v_lettered ≤ x5_37 then some (.inr (.inl (x4_37, v_trial_37))) else (f_X10_takes x5_37 v_letters v_trial_37).bind (fun r_takes_3 => (if r_takes_3.1 = 0 then some (.inr (.inr ((-2000 : Int32) - x5_37, (0 : Int32), v_now, r_takes_3.2))) else ga x5_37 96 ((f_X10_sizeOf (v_letters (Int32.toNatClampNeg x5_37))).bind (fun r_sizeOf_4 => some (.inl (x4_37 + (1 : Int32), x5_37 + (r_sizeOf_4 + (1 : Int32)), r_takes_3.2)))))))
def f_X10_map (N : Nat) (v_lettered : Int32) (v_now : (Nat → Int32)) (v_trial : (Nat → Int32)) (v_letters : (Nat → Int32)) : Option (Int32 × Int32 × (Nat → Int32) × (Nat → Int32)) :=
  (f_X10_faultOf N v_lettered v_letters).bind (fun r_faultOf_1 => (if r_faultOf_1 < 0 then (f_X10_thought N v_now v_trial).bind (fun r_thought_2 => (lp (fun s_37 => f_X10_map_b37 v_lettered s_37.2.1 s_37.1 s_37.2.2 v_letters v_now) N ((0 : Int32), (0 : Int32), r_thought_2)).bind (fun e_37 => match e_37 with | .inl x_37 => (f_X10_copies N x_37.2 v_now).bind (fun r_copies_5 => some (x_37.1, (0 : Int32), r_copies_5, x_37.2)) | .inr o_37 => some o_37)) else some ((-1000 : Int32) - r_faultOf_1, (0 : Int32), v_now, v_trial)))
set_option maxRecDepth 100000 in
set_option maxHeartbeats 4000000 in
theorem c_X10_map (l : Launch) (D : va_G) (N : Nat) {q_this q_now q_trial q_letters : Nat} {w_kept w_refusals w_row w_dists w_left w_steps w_partners w_times w_spliced w_piece w_balances w_prices w_hands w_hand w_dealing : Value} {v_hasImage : Int32} {v_rows : Int32} {v_lettered : Int32} {v_stepsMany : Int32} {v_splicedMany : Int32} {v_most : Int32} {v_together : Int32} {v_z : Int32} {v_now : (Nat → Int32)} {v_trial : (Nat → Int32)} {v_letters : (Nat → Int32)} {o : (Int32 × Int32 × (Nat → Int32) × (Nat → Int32))} (h : f_X10_map N v_lettered v_now v_trial v_letters = some o) : CT l D yX10_map cX10_map 6 (Option.some FieldType.int) 4 [.ref q_this] (w_X10_map D q_this q_now q_trial q_letters w_kept w_refusals w_row w_dists w_left w_steps w_partners w_times w_spliced w_piece w_balances w_prices w_hands w_hand w_dealing v_hasImage v_rows v_lettered v_stepsMany v_splicedMany v_most v_together v_z v_now v_trial v_letters) (w_X10_map D q_this q_now q_trial q_letters w_kept w_refusals w_row w_dists w_left w_steps w_partners w_times w_spliced w_piece w_balances w_prices w_hands w_hand w_dealing v_hasImage v_rows o.2.1 v_stepsMany v_splicedMany v_most v_together v_z o.2.2.1 o.2.2.2 v_letters) (some (.int o.1)) := by
  refine CT.of mk_X10_map (Nat.le_of_ble_eq_true rfl) (fun g hl hD C E => ?_)
  subst hl
  subst hD
  unfold f_X10_map at h
  refine j_aload_n C dX10_map_0 rfl ?_
  refine j_get C 0 w_X10_map_g0 rfl inX10 8 (by decide) kw_989 rfl rfl dX10_map_1 ?_
  refine j_istore_n C dX10_map_4 (by decide) ?_
  refine j_aload_n C dX10_map_5 rfl ?_
  refine j_iconst C (0) dX10_map_6 ki_0 ?_
  refine j_put C 0 w_X10_map_g0 rfl inX10 tyX10_ok nmX10 8 (by decide) kw_989 rfl rfl rfl rfl (Nat.le_of_ble_eq_true rfl) dX10_map_7 ?_
  refine j_ws w_X10_map_s0 ?_
  refine j_aload_n C dX10_map_10 rfl ?_
  refine j_iload_n C dX10_map_11 rfl ?_
  obtain ⟨r_faultOf_1, h_1, h⟩ := of_bind h
  refine j_callV1 C mk_X10_faultOf ms_X10_faultOf kw_1072 (c_X10_faultOf (gl g) (gD g) N h_1) (by decide) 0 w_X10_map_g0 rfl [0, 3] (hC_cons w_X10_map_g0 (hC_cons w_X10_map_g3 hC_nil)) rfl (w_X10_faultOf_a.trans w_X10_faultOf_a.symm) rfl rfl (Nat.le_of_ble_eq_true rfl) dX10_map_12 (wput_cons w_X10_map_s0 (wput_cons w_X10_map_s3 wput_nil)) ?_
  refine j_istore_n C dX10_map_15 (by decide) ?_
  refine j_iload_n C dX10_map_16 rfl ?_
  refine j_if_lt C h 26 dX10_map_17 (by decide) (fun hc h => ?_) (fun hc h => ?_)
  · refine j_aload_n C dX10_map_26 rfl ?_
    obtain ⟨r_thought_2, h_2, h⟩ := of_bind h
    refine j_callV1 C mk_X10_thought ms_X10_thought kw_1090 (c_X10_thought (gl g) (gD g) N h_2) (by decide) 0 w_X10_map_g0 rfl [0, 1, 2] (hC_cons w_X10_map_g0 (hC_cons w_X10_map_g1 (hC_cons w_X10_map_g2 hC_nil))) rfl (w_X10_thought_a.trans w_X10_thought_a.symm) rfl rfl (Nat.le_of_ble_eq_true rfl) dX10_map_27 (wput_cons w_X10_map_s0 (wput_cons w_X10_map_s1 (wput_cons w_X10_map_s2 wput_nil))) ?_
    refine j_astore_n C dX10_map_30 (by decide) ?_
    refine j_iconst C (0) dX10_map_31 ki_0 ?_
    refine j_istore C dX10_map_32 (by decide) ?_
    refine j_iconst C (0) dX10_map_34 ki_0 ?_
    refine j_istore C dX10_map_35 (by decide) ?_
    obtain ⟨e_37, hl_37, h⟩ := of_bind h
    have hR_37 : ∀ o9, Sum.inr o9 = e_37 → some o9 = some o := by
      intro o9 ho9
      rw [← ho9] at h
      exact h
    have ha_37 : ∀ x_37, Sum.inl x_37 = e_37 → J g (w_X10_map (gD g) q_this q_now q_trial q_letters w_kept w_refusals w_row w_dists w_left w_steps w_partners w_times w_spliced w_piece w_balances w_prices w_hands w_hand w_dealing v_hasImage v_rows ((0 : Int32)) v_stepsMany v_splicedMany v_most v_together v_z v_now x_37.2 v_letters) [(0, .ref q_this), (3, .ref q_trial), (4, .int (x_37.1))] 83 [] := by
      intro x_37 hx9
      rw [← hx9] at h
      dsimp only at h
      refine j_aload_n C dX10_map_83 rfl ?_
      refine j_aload_n C dX10_map_84 rfl ?_
      refine j_get C 0 w_X10_map_g0 rfl inX10 0 (by decide) kw_981 rfl rfl dX10_map_85 ?_
      obtain ⟨r_copies_5, h_5, h⟩ := of_bind h
      refine j_callS0 C mk_X10_copies ms_X10_copies kw_1094 (c_X10_copies (gl g) (gD g) N h_5) (by decide) [2, 1] (hC_cons w_X10_map_g2 (hC_cons w_X10_map_g1 hC_nil)) rfl (w_X10_copies_a.trans w_X10_copies_a.symm) rfl rfl (Nat.le_of_ble_eq_true rfl) dX10_map_88 (wput_cons w_X10_map_s2 (wput_cons w_X10_map_s1 wput_nil)) ?_
      refine j_iload C dX10_map_91 rfl ?_
      have h := Option.some.inj h
      subst h
      exact j_iret C E dX10_map_93
    refine j_lv (lv' := [(0, .ref q_this), (1, .int (v_lettered)), (3, .ref q_trial), (4, .int ((0 : Int32))), (5, .int ((0 : Int32)))]) rfl ?_
    refine lp_ind hl_37 (fun s_37 => J g (w_X10_map (gD g) q_this q_now q_trial q_letters w_kept w_refusals w_row w_dists w_left w_steps w_partners w_times w_spliced w_piece w_balances w_prices w_hands w_hand w_dealing v_hasImage v_rows ((0 : Int32)) v_stepsMany v_splicedMany v_most v_together v_z v_now s_37.2.2 v_letters) [(0, .ref q_this), (1, .int (v_lettered)), (3, .ref q_trial), (4, .int (s_37.1)), (5, .int (s_37.2.1))] 37 []) (fun s_37 r_37 h hc_37 hx_37 => ?_)
    unfold f_X10_map_b37 at h
    refine j_iload C dX10_map_37 rfl ?_
    refine j_iload_n C dX10_map_39 rfl ?_
    refine j_icmp_ge C h 83 dX10_map_40 (by decide) (fun hc h => ?_) (fun hc h => ?_)
    · have h := Option.some.inj h
      subst h
      have hx9 := hx_37 _ rfl
      have ha9 := ha_37 _ hx9
      exact j_lw ha9 rfl
    · refine j_aload_n C dX10_map_43 rfl ?_
      refine j_aload_n C dX10_map_44 rfl ?_
      refine j_iload C dX10_map_45 rfl ?_
      obtain ⟨r_takes_3, h_3, h⟩ := of_bind h
      refine j_callV1 C mk_X10_takes ms_X10_takes kw_1097 (c_X10_takes (gl g) (gD g) h_3) (by decide) 0 w_X10_map_g0 rfl [0, 3, 2] (hC_cons w_X10_map_g0 (hC_cons w_X10_map_g3 (hC_cons w_X10_map_g2 hC_nil))) rfl (w_X10_takes_a.trans w_X10_takes_a.symm) rfl rfl (Nat.le_of_ble_eq_true rfl) dX10_map_47 (wput_cons w_X10_map_s0 (wput_cons w_X10_map_s3 (wput_cons w_X10_map_s2 wput_nil))) ?_
      refine j_if_ne C h 60 dX10_map_50 (by decide) (fun hc h => ?_) (fun hc h => ?_)
      · refine j_sipush C (-2000) dX10_map_53 kc_m2000 ?_
        refine j_iload C dX10_map_56 rfl ?_
        refine j_isub C dX10_map_58 ?_
        have h := Option.some.inj h
        subst h
        have h := hR_37 _ (hx_37 _ rfl)
        have h := Option.some.inj h
        subst h
        exact j_iret C E dX10_map_59
      · refine j_iload C dX10_map_60 rfl ?_
        refine j_aload_n C dX10_map_62 rfl ?_
        refine j_get C 0 w_X10_map_g0 rfl inX10 7 (by decide) kw_988 rfl rfl dX10_map_63 ?_
        refine j_iload C dX10_map_66 rfl ?_
        refine j_iaload 3 C h w_X10_map_g3 rfl dX10_map_68 (fun h => ?_)
        obtain ⟨r_sizeOf_4, h_4, h⟩ := of_bind h
        refine j_callS1 C mk_X10_sizeOf ms_X10_sizeOf kw_1080 (c_X10_sizeOf (gl g) (gD g) h_4) (by decide) [] hC_nil rfl (w_X10_sizeOf_a.trans w_X10_sizeOf_a.symm) rfl rfl (Nat.le_of_ble_eq_true rfl) dX10_map_69 wput_nil ?_
        refine j_iconst C (1) dX10_map_72 ki_1 ?_
        refine j_iadd C dX10_map_73 ?_
        refine j_iadd C dX10_map_74 ?_
        refine j_istore C dX10_map_75 (by decide) ?_
        refine j_inc C (1) dX10_map_77 rfl ki_1 (by decide) ?_
        refine j_goto C 37 dX10_map_80 (by decide) ?_
        have h := Option.some.inj h
        subst h
        have hc9 := hc_37 _ rfl
        exact j_lw hc9 rfl
  · refine j_sipush C (-1000) dX10_map_20 kc_m1000 ?_
    refine j_iload_n C dX10_map_23 rfl ?_
    refine j_isub C dX10_map_24 ?_
    have h := Option.some.inj h
    subst h
    exact j_iret C E dX10_map_25
