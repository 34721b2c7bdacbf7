def w_X9_refuse (D : va_G) (q_this q_refusals : Nat) (w_now w_trial w_kept w_ways w_tour w_pairs w_splice w_flows w_deal w_reader w_told : Value) (v_isKept : Int32) (v_tellings : Int32) (v_refusals : (Nat → Int32)) : va_W := [(q_this, .inr (8, [w_now, w_trial, w_kept, .int v_isKept, w_ways, w_tour, w_pairs, w_splice, w_flows, w_deal, w_reader, w_told, .int v_tellings, .ref q_refusals])), (q_refusals, .inl (D.1 100, 7, .inl v_refusals))]
theorem w_X9_refuse_g0 {D : va_G} {q_this : Nat} {q_refusals : Nat} {w_now : Value} {w_trial : Value} {w_kept : Value} {w_ways : Value} {w_tour : Value} {w_pairs : Value} {w_splice : Value} {w_flows : Value} {w_deal : Value} {w_reader : Value} {w_told : Value} {v_isKept : Int32} {v_tellings : Int32} {v_refusals : (Nat → Int32)} : (w_X9_refuse D q_this q_refusals w_now w_trial w_kept w_ways w_tour w_pairs w_splice w_flows w_deal w_reader w_told v_isKept v_tellings v_refusals)[0]? = some (q_this, .inr (8, [w_now, w_trial, w_kept, .int v_isKept, w_ways, w_tour, w_pairs, w_splice, w_flows, w_deal, w_reader, w_told, .int v_tellings, .ref q_refusals])) := rfl
theorem w_X9_refuse_s0 {D : va_G} {q_this : Nat} {q_refusals : Nat} {w_now : Value} {w_trial : Value} {w_kept : Value} {w_ways : Value} {w_tour : Value} {w_pairs : Value} {w_splice : Value} {w_flows : Value} {w_deal : Value} {w_reader : Value} {w_told : Value} {v_isKept : Int32} {v_tellings : Int32} {v_refusals : (Nat → Int32)} {v_isKept' : Int32} {v_tellings' : Int32} : (w_X9_refuse D q_this q_refusals w_now w_trial w_kept w_ways w_tour w_pairs w_splice w_flows w_deal w_reader w_told v_isKept v_tellings v_refusals).set 0 (q_this, .inr (8, [w_now, w_trial, w_kept, .int v_isKept', w_ways, w_tour, w_pairs, w_splice, w_flows, w_deal, w_reader, w_told, .int v_tellings', .ref q_refusals])) = (w_X9_refuse D q_this q_refusals w_now w_trial w_kept w_ways w_tour w_pairs w_splice w_flows w_deal w_reader w_told v_isKept' v_tellings' v_refusals) := rfl
theorem w_X9_refuse_g1 {D : va_G} {q_this : Nat} {q_refusals : Nat} {w_now : Value} {w_trial : Value} {w_kept : Value} {w_ways : Value} {w_tour : Value} {w_pairs : Value} {w_splice : Value} {w_flows : Value} {w_deal : Value} {w_reader : Value} {w_told : Value} {v_isKept : Int32} {v_tellings : Int32} {v_refusals : (Nat → Int32)} : (w_X9_refuse D q_this q_refusals w_now w_trial w_kept w_ways w_tour w_pairs w_splice w_flows w_deal w_reader w_told v_isKept v_tellings v_refusals)[1]? = some (q_refusals, .inl (D.1 100, 7, .inl v_refusals)) := rfl
theorem w_X9_refuse_s1 {D : va_G} {q_this : Nat} {q_refusals : Nat} {w_now : Value} {w_trial : Value} {w_kept : Value} {w_ways : Value} {w_tour : Value} {w_pairs : Value} {w_splice : Value} {w_flows : Value} {w_deal : Value} {w_reader : Value} {w_told : Value} {v_isKept : Int32} {v_tellings : Int32} {v_refusals : (Nat → Int32)} {v_refusals' : (Nat → Int32)} : (w_X9_refuse D q_this q_refusals w_now w_trial w_kept w_ways w_tour w_pairs w_splice w_flows w_deal w_reader w_told v_isKept v_tellings v_refusals).set 1 (q_refusals, .inl (D.1 100, 7, .inl v_refusals')) = (w_X9_refuse D q_this q_refusals w_now w_trial w_kept w_ways w_tour w_pairs w_splice w_flows w_deal w_reader w_told v_isKept v_tellings v_refusals') := rfl
theorem w_X9_refuse_a {D : va_G} {q_this : Nat} {q_refusals : Nat} {w_now : Value} {w_trial : Value} {w_kept : Value} {w_ways : Value} {w_tour : Value} {w_pairs : Value} {w_splice : Value} {w_flows : Value} {w_deal : Value} {w_reader : Value} {w_told : Value} {v_isKept : Int32} {v_tellings : Int32} {v_refusals : (Nat → Int32)} : (w_X9_refuse D q_this q_refusals w_now w_trial w_kept w_ways w_tour w_pairs w_splice w_flows w_deal w_reader w_told v_isKept v_tellings v_refusals).map (fun q => q.1) = [q_this, q_refusals] := rfl
def f_X9_refuse (x1 : Int32) (v_refusals : (Nat → Int32)) : Option (Int32 × (Nat → Int32)) :=
  (if (-x1) ≤ 0 then some (x1, v_refusals) else (if (7 : Int32) ≤ (-x1) then some (x1, v_refusals) else ga (-x1) 7 (ga (-x1) 7 (some (x1, upd v_refusals (Int32.toNatClampNeg (-x1)) ((v_refusals (Int32.toNatClampNeg (-x1))) + (1 : Int32)))))))
set_option maxRecDepth 100000 in
set_option maxHeartbeats 4000000 in
theorem c_X9_refuse (l : Launch) (D : va_G) {q_this q_refusals : Nat} {w_now w_trial w_kept w_ways w_tour w_pairs w_splice w_flows w_deal w_reader w_told : Value} {v_isKept : Int32} {v_tellings : Int32} {v_refusals : (Nat → Int32)} {x1 : Int32} {o : (Int32 × (Nat → Int32))} (h : f_X9_refuse x1 v_refusals = some o) : CT l D yX9_refuse cX9_refuse 3 (Option.some FieldType.int) 0 [.ref q_this, .int x1] (w_X9_refuse D q_this q_refusals w_now w_trial w_kept w_ways w_tour w_pairs w_splice w_flows w_deal w_reader w_told v_isKept v_tellings v_refusals) (w_X9_refuse D q_this q_refusals w_now w_trial w_kept w_ways w_tour w_pairs w_splice w_flows w_deal w_reader w_told v_isKept v_tellings o.2) (some (.int o.1)) := by
  refine CT.of mk_X9_refuse (Nat.le_of_ble_eq_true rfl) (fun g hl hD C E => ?_)
  subst hl
  subst hD
  unfold f_X9_refuse at h
  refine j_iload_n C dX9_refuse_0 rfl ?_
  refine j_ineg C dX9_refuse_1 ?_
  refine j_istore_n C dX9_refuse_2 (by decide) ?_
  refine j_iload_n C dX9_refuse_3 rfl ?_
  refine j_if_le C h 26 dX9_refuse_4 (by decide) (fun hc h => ?_) (fun hc h => ?_)
  · refine j_iload_n C dX9_refuse_26 rfl ?_
    have h := Option.some.inj h
    subst h
    exact j_iret C E dX9_refuse_27
  · refine j_iload_n C dX9_refuse_7 rfl ?_
    refine j_aload_n C dX9_refuse_8 rfl ?_
    refine j_get C 0 w_X9_refuse_g0 rfl inX9 13 (by decide) kw_280 rfl rfl dX9_refuse_9 ?_
    refine j_alen C 7 1 w_X9_refuse_g1 rfl (by decide) dX9_refuse_12 ?_
    refine j_icmp_ge C h 26 dX9_refuse_13 (by decide) (fun hc h => ?_) (fun hc h => ?_)
    · refine j_iload_n C dX9_refuse_26 rfl ?_
      have h := Option.some.inj h
      subst h
      exact j_iret C E dX9_refuse_27
    · refine j_aload_n C dX9_refuse_16 rfl ?_
      refine j_get C 0 w_X9_refuse_g0 rfl inX9 13 (by decide) kw_280 rfl rfl dX9_refuse_17 ?_
      refine j_iload_n C dX9_refuse_20 rfl ?_
      refine j_dup2 C dX9_refuse_21 rfl rfl ?_
      refine j_iaload 1 C h w_X9_refuse_g1 rfl dX9_refuse_22 (fun h => ?_)
      refine j_iconst C (1) dX9_refuse_23 ki_1 ?_
      refine j_iadd C dX9_refuse_24 ?_
      refine j_iastore 1 C h w_X9_refuse_g1 rfl dX9_refuse_25 (fun h => ?_)
      refine j_ws w_X9_refuse_s1 ?_
      refine j_iload_n C dX9_refuse_26 rfl ?_
      have h := Option.some.inj h
      subst h
      exact j_iret C E dX9_refuse_27

def w_X9_orNone (D : va_G) : va_W := []
theorem w_X9_orNone_a {D : va_G} : (w_X9_orNone D).map (fun q => q.1) = [] := rfl
def f_X9_orNone (x0 : Int32) : Option Int32 :=
  some (if x0 < (1000000 : Int32) then x0 else (-9 : Int32))
set_option maxRecDepth 100000 in
set_option maxHeartbeats 4000000 in
theorem c_X9_orNone (l : Launch) (D : va_G) {x0 : Int32} {o : Int32} (h : f_X9_orNone x0 = some o) : CT l D yX9_orNone cX9_orNone 1 (Option.some FieldType.int) 0 [.int x0] (w_X9_orNone D) (w_X9_orNone D) (some (.int o)) := by
  refine CT.of mk_X9_orNone (Nat.le_of_ble_eq_true rfl) (fun g hl hD C E => ?_)
  subst hl
  subst hD
  unfold f_X9_orNone at h
  refine j_iload_n C dX9_orNone_0 rfl ?_
  refine j_ldc C kw_525 dX9_orNone_1 ?_
  have hj_1 : J g (w_X9_orNone (gD g)) [] 12 [.int (if x0 < (1000000 : Int32) then x0 else (-9 : Int32))] := by
    have h := Option.some.inj h
    subst h
    exact j_iret C E dX9_orNone_12
  refine jv_icmp_lt C 11 dX9_orNone_3 (by decide) (fun hc => ?_) (fun hc => ?_)
  · try simp only [if_pos hc] at hj_1
    refine j_iload_n C dX9_orNone_11 rfl ?_
    exact j_lw hj_1 rfl
  · try simp only [if_neg hc] at hj_1
    refine j_bipush C (-9) dX9_orNone_6 kb_m9 ?_
    refine j_goto C 12 dX9_orNone_8 (by decide) ?_
    exact j_lw hj_1 rfl

def w_X9_isCorner (D : va_G) : va_W := []
theorem w_X9_isCorner_a {D : va_G} : (w_X9_isCorner D).map (fun q => q.1) = [] := rfl
def f_X9_isCorner (x0 : Int32) : Option Int32 :=
  gb (if x0 < 0 then (0 : Int32) else (if (6 : Int32) ≤ x0 then (0 : Int32) else (1 : Int32))) (some (if x0 < 0 then (0 : Int32) else (if (6 : Int32) ≤ x0 then (0 : Int32) else (1 : Int32))))
set_option maxRecDepth 100000 in
set_option maxHeartbeats 4000000 in
theorem c_X9_isCorner (l : Launch) (D : va_G) {x0 : Int32} {o : Int32} (h : f_X9_isCorner x0 = some o) : CT l D yX9_isCorner cX9_isCorner 1 (Option.some FieldType.boolean) 0 [.int x0] (w_X9_isCorner D) (w_X9_isCorner D) (some (.int o)) := by
  refine CT.of mk_X9_isCorner (Nat.le_of_ble_eq_true rfl) (fun g hl hD C E => ?_)
  subst hl
  subst hD
  unfold f_X9_isCorner at h
  refine j_iload_n C dX9_isCorner_0 rfl ?_
  have hj_1 : J g (w_X9_isCorner (gD g)) [] 15 [.int (if x0 < 0 then (0 : Int32) else (if (6 : Int32) ≤ x0 then (0 : Int32) else (1 : Int32)))] := by
    obtain ⟨hz, h⟩ := of_gb h
    have h := Option.some.inj h
    subst h
    exact j_zret C E hz.1 dX9_isCorner_15
  refine jv_if_lt C 14 dX9_isCorner_1 (by decide) (fun hc => ?_) (fun hc => ?_)
  · try simp only [if_pos hc] at hj_1
    refine j_iconst C (0) dX9_isCorner_14 ki_0 ?_
    exact j_lw hj_1 rfl
  · try simp only [if_neg hc] at hj_1
    refine j_iload_n C dX9_isCorner_4 rfl ?_
    refine j_bipush C (6) dX9_isCorner_5 kb_6 ?_
    refine jv_icmp_ge C 14 dX9_isCorner_7 (by decide) (fun hc => ?_) (fun hc => ?_)
    · try simp only [if_pos hc] at hj_1
      refine j_iconst C (0) dX9_isCorner_14 ki_0 ?_
      exact j_lw hj_1 rfl
    · try simp only [if_neg hc] at hj_1
      refine j_iconst C (1) dX9_isCorner_10 ki_1 ?_
      refine j_goto C 15 dX9_isCorner_11 (by decide) ?_
      exact j_lw hj_1 rfl

def w_X4_take (D : va_G) (q_this q_text : Nat) (v_size : Int32) (v_statements : Int32) (v_text : (Nat → Int32)) : va_W := [(q_this, .inr (3, [.ref q_text, .int v_size, .int v_statements])), (q_text, .inl (D.1 100, 96, .inl v_text))]
theorem w_X4_take_g0 {D : va_G} {q_this : Nat} {q_text : Nat} {v_size : Int32} {v_statements : Int32} {v_text : (Nat → Int32)} : (w_X4_take D q_this q_text v_size v_statements v_text)[0]? = some (q_this, .inr (3, [.ref q_text, .int v_size, .int v_statements])) := rfl
theorem w_X4_take_s0 {D : va_G} {q_this : Nat} {q_text : Nat} {v_size : Int32} {v_statements : Int32} {v_text : (Nat → Int32)} {v_size' : Int32} {v_statements' : Int32} : (w_X4_take D q_this q_text v_size v_statements v_text).set 0 (q_this, .inr (3, [.ref q_text, .int v_size', .int v_statements'])) = (w_X4_take D q_this q_text v_size' v_statements' v_text) := rfl
theorem w_X4_take_g1 {D : va_G} {q_this : Nat} {q_text : Nat} {v_size : Int32} {v_statements : Int32} {v_text : (Nat → Int32)} : (w_X4_take D q_this q_text v_size v_statements v_text)[1]? = some (q_text, .inl (D.1 100, 96, .inl v_text)) := rfl
theorem w_X4_take_s1 {D : va_G} {q_this : Nat} {q_text : Nat} {v_size : Int32} {v_statements : Int32} {v_text : (Nat → Int32)} {v_text' : (Nat → Int32)} : (w_X4_take D q_this q_text v_size v_statements v_text).set 1 (q_text, .inl (D.1 100, 96, .inl v_text')) = (w_X4_take D q_this q_text v_size v_statements v_text') := rfl
theorem w_X4_take_a {D : va_G} {q_this : Nat} {q_text : Nat} {v_size : Int32} {v_statements : Int32} {v_text : (Nat → Int32)} : (w_X4_take D q_this q_text v_size v_statements v_text).map (fun q => q.1) = [q_this, q_text] := rfl
def f_X4_take (x1 : Int32) (v_size : Int32) (v_text : (Nat → Int32)) : Option (Int32 × (Nat → Int32)) :=
  (if (96 : Int32) ≤ v_size then some (v_size, v_text) else ga v_size 96 (some (v_size + (1 : Int32), upd v_text (Int32.toNatClampNeg v_size) x1)))
set_option maxRecDepth 100000 in
set_option maxHeartbeats 4000000 in
theorem c_X4_take (l : Launch) (D : va_G) {q_this q_text : Nat} {v_size : Int32} {v_statements : Int32} {v_text : (Nat → Int32)} {x1 : Int32} {o : (Int32 × (Nat → Int32))} (h : f_X4_take x1 v_size v_text = some o) : CT l D yX4_take cX4_take 2 (Option.none : Option FieldType) 0 [.ref q_this, .int x1] (w_X4_take D q_this q_text v_size v_statements v_text) (w_X4_take D q_this q_text o.1 v_statements o.2) (none) := by
  refine CT.of mk_X4_take (Nat.le_of_ble_eq_true rfl) (fun g hl hD C E => ?_)
  subst hl
  subst hD
  unfold f_X4_take at h
  refine j_aload_n C dX4_take_0 rfl ?_
  refine j_get C 0 w_X4_take_g0 rfl inX4 1 (by decide) kw_256 rfl rfl dX4_take_1 ?_
  refine j_bipush C (96) dX4_take_4 kb_96 ?_
  refine j_icmp_ge C h 29 dX4_take_6 (by decide) (fun hc h => ?_) (fun hc h => ?_)
  · have h := Option.some.inj h
    subst h
    exact j_vret C E dX4_take_29
  · refine j_aload_n C dX4_take_9 rfl ?_
    refine j_get C 0 w_X4_take_g0 rfl inX4 0 (by decide) kw_255 rfl rfl dX4_take_10 ?_
    refine j_aload_n C dX4_take_13 rfl ?_
    refine j_get C 0 w_X4_take_g0 rfl inX4 1 (by decide) kw_256 rfl rfl dX4_take_14 ?_
    refine j_iload_n C dX4_take_17 rfl ?_
    refine j_iastore 1 C h w_X4_take_g1 rfl dX4_take_18 (fun h => ?_)
    refine j_ws w_X4_take_s1 ?_
    refine j_aload_n C dX4_take_19 rfl ?_
    refine j_dup C dX4_take_20 rfl ?_
    refine j_get C 0 w_X4_take_g0 rfl inX4 1 (by decide) kw_256 rfl rfl dX4_take_21 ?_
    refine j_iconst C (1) dX4_take_24 ki_1 ?_
    refine j_iadd C dX4_take_25 ?_
    refine j_put C 0 w_X4_take_g0 rfl inX4 tyX4_ok nmX4 1 (by decide) kw_256 rfl rfl rfl rfl (Nat.le_of_ble_eq_true rfl) dX4_take_26 ?_
    refine j_ws w_X4_take_s0 ?_
    have h := Option.some.inj h
    subst h
    exact j_vret C E dX4_take_29

def w_X4_forget (D : va_G) (q_this : Nat) (w_text : Value) (v_size : Int32) (v_statements : Int32) : va_W := [(q_this, .inr (3, [w_text, .int v_size, .int v_statements]))]
theorem w_X4_forget_g0 {D : va_G} {q_this : Nat} {w_text : Value} {v_size : Int32} {v_statements : Int32} : (w_X4_forget D q_this w_text v_size v_statements)[0]? = some (q_this, .inr (3, [w_text, .int v_size, .int v_statements])) := rfl
theorem w_X4_forget_s0 {D : va_G} {q_this : Nat} {w_text : Value} {v_size : Int32} {v_statements : Int32} {v_size' : Int32} {v_statements' : Int32} : (w_X4_forget D q_this w_text v_size v_statements).set 0 (q_this, .inr (3, [w_text, .int v_size', .int v_statements'])) = (w_X4_forget D q_this w_text v_size' v_statements') := rfl
theorem w_X4_forget_a {D : va_G} {q_this : Nat} {w_text : Value} {v_size : Int32} {v_statements : Int32} : (w_X4_forget D q_this w_text v_size v_statements).map (fun q => q.1) = [q_this] := rfl
def f_X4_forget (v_size : Int32) : Option Int32 :=
  some (0 : Int32)
set_option maxRecDepth 100000 in
set_option maxHeartbeats 4000000 in
theorem c_X4_forget (l : Launch) (D : va_G) {q_this : Nat} {w_text : Value} {v_size : Int32} {v_statements : Int32} {o : Int32} (h : f_X4_forget v_size = some o) : CT l D yX4_forget cX4_forget 1 (Option.none : Option FieldType) 0 [.ref q_this] (w_X4_forget D q_this w_text v_size v_statements) (w_X4_forget D q_this w_text o v_statements) (none) := by
  refine CT.of mk_X4_forget (Nat.le_of_ble_eq_true rfl) (fun g hl hD C E => ?_)
  subst hl
  subst hD
  unfold f_X4_forget at h
  refine j_aload_n C dX4_forget_0 rfl ?_
  refine j_iconst C (0) dX4_forget_1 ki_0 ?_
  refine j_put C 0 w_X4_forget_g0 rfl inX4 tyX4_ok nmX4 1 (by decide) kw_256 rfl rfl rfl rfl (Nat.le_of_ble_eq_true rfl) dX4_forget_2 ?_
  refine j_ws w_X4_forget_s0 ?_
  have h := Option.some.inj h
  subst h
  exact j_vret C E dX4_forget_5

def w_X4_at (D : va_G) (q_this q_text : Nat) (v_size : Int32) (v_statements : Int32) (v_text : (Nat → Int32)) : va_W := [(q_this, .inr (3, [.ref q_text, .int v_size, .int v_statements])), (q_text, .inl (D.1 100, 96, .inl v_text))]
theorem w_X4_at_g0 {D : va_G} {q_this : Nat} {q_text : Nat} {v_size : Int32} {v_statements : Int32} {v_text : (Nat → Int32)} : (w_X4_at D q_this q_text v_size v_statements v_text)[0]? = some (q_this, .inr (3, [.ref q_text, .int v_size, .int v_statements])) := rfl
theorem w_X4_at_s0 {D : va_G} {q_this : Nat} {q_text : Nat} {v_size : Int32} {v_statements : Int32} {v_text : (Nat → Int32)} {v_size' : Int32} {v_statements' : Int32} : (w_X4_at D q_this q_text v_size v_statements v_text).set 0 (q_this, .inr (3, [.ref q_text, .int v_size', .int v_statements'])) = (w_X4_at D q_this q_text v_size' v_statements' v_text) := rfl
theorem w_X4_at_g1 {D : va_G} {q_this : Nat} {q_text : Nat} {v_size : Int32} {v_statements : Int32} {v_text : (Nat → Int32)} : (w_X4_at D q_this q_text v_size v_statements v_text)[1]? = some (q_text, .inl (D.1 100, 96, .inl v_text)) := rfl
theorem w_X4_at_s1 {D : va_G} {q_this : Nat} {q_text : Nat} {v_size : Int32} {v_statements : Int32} {v_text : (Nat → Int32)} {v_text' : (Nat → Int32)} : (w_X4_at D q_this q_text v_size v_statements v_text).set 1 (q_text, .inl (D.1 100, 96, .inl v_text')) = (w_X4_at D q_this q_text v_size v_statements v_text') := rfl
theorem w_X4_at_a {D : va_G} {q_this : Nat} {q_text : Nat} {v_size : Int32} {v_statements : Int32} {v_text : (Nat → Int32)} : (w_X4_at D q_this q_text v_size v_statements v_text).map (fun q => q.1) = [q_this, q_text] := rfl
def f_X4_at (x1 : Int32) (v_size : Int32) (v_text : (Nat → Int32)) : Option Int32 :=
  (if x1 < 0 then some (-1 : Int32) else (if v_size ≤ x1 then some (-1 : Int32) else ga x1 96 (some (v_text (Int32.toNatClampNeg x1)))))
set_option maxRecDepth 100000 in
set_option maxHeartbeats 4000000 in
theorem c_X4_at (l : Launch) (D : va_G) {q_this q_text : Nat} {v_size : Int32} {v_statements : Int32} {v_text : (Nat → Int32)} {x1 : Int32} {o : Int32} (h : f_X4_at x1 v_size v_text = some o) : CT l D yX4_at cX4_at 2 (Option.some FieldType.int) 0 [.ref q_this, .int x1] (w_X4_at D q_this q_text v_size v_statements v_text) (w_X4_at D q_this q_text v_size v_statements v_text) (some (.int o)) := by
  refine CT.of mk_X4_at (Nat.le_of_ble_eq_true rfl) (fun g hl hD C E => ?_)
  subst hl
  subst hD
  unfold f_X4_at at h
  refine j_iload_n C dX4_at_0 rfl ?_
  refine j_if_lt C h 21 dX4_at_1 (by decide) (fun hc h => ?_) (fun hc h => ?_)
  · refine j_iconst C (-1) dX4_at_21 ki_m1 ?_
    have h := Option.some.inj h
    subst h
    exact j_iret C E dX4_at_22
  · refine j_iload_n C dX4_at_4 rfl ?_
    refine j_aload_n C dX4_at_5 rfl ?_
    refine j_get C 0 w_X4_at_g0 rfl inX4 1 (by decide) kw_256 rfl rfl dX4_at_6 ?_
    refine j_icmp_ge C h 21 dX4_at_9 (by decide) (fun hc h => ?_) (fun hc h => ?_)
    · refine j_iconst C (-1) dX4_at_21 ki_m1 ?_
      have h := Option.some.inj h
      subst h
      exact j_iret C E dX4_at_22
    · refine j_aload_n C dX4_at_12 rfl ?_
      refine j_get C 0 w_X4_at_g0 rfl inX4 0 (by decide) kw_255 rfl rfl dX4_at_13 ?_
      refine j_iload_n C dX4_at_16 rfl ?_
      refine j_iaload 1 C h w_X4_at_g1 rfl dX4_at_17 (fun h => ?_)
      refine j_goto C 22 dX4_at_18 (by decide) ?_
      have h := Option.some.inj h
      subst h
      exact j_iret C E dX4_at_22

def w_X4_formOf (D : va_G) : va_W := []
theorem w_X4_formOf_a {D : va_G} : (w_X4_formOf D).map (fun q => q.1) = [] := rfl
def f_X4_formOf (x0 : Int32) : Option Nat :=
  (if x0 = 104 then some 3 else (if x0 = 107 then some 1 else (if x0 = 108 then some 1 else (if x0 = 115 then some 0 else (if x0 = 120 then some 2 else some 4)))))
set_option maxRecDepth 100000 in
set_option maxHeartbeats 4000000 in
theorem c_X4_formOf (l : Launch) (D : va_G) {x0 : Int32} {o : Nat} (h : f_X4_formOf x0 = some o) : CT l D yX4_formOf cX4_formOf 1 (Option.some (FieldType.object "java/lang/String")) 0 [.int x0] (w_X4_formOf D) (w_X4_formOf D) (some (.ref (D.2 101 o))) := by
  refine CT.of mk_X4_formOf (Nat.le_of_ble_eq_true rfl) (fun g hl hD C E => ?_)
  subst hl
  subst hD
  unfold f_X4_formOf at h
  refine j_iload_n C dX4_formOf_0 rfl ?_
  refine j_case h (fun hc h => ?_) (fun hn_0 h => ?_)
  · refine j_lookup C 64 dX4_formOf_1 (by decide) (by rw [hc] <;> decide) (by decide) ?_
    refine j_ldcs28 C rfl dX4_formOf_64 ?_
    have h := Option.some.inj h
    subst h
    exact j_aret C E (by first | exact Or.inl ⟨_, rfl⟩ | exact Or.inr ⟨_, rfl⟩) dX4_formOf_66
  · refine j_case h (fun hc h => ?_) (fun hn_1 h => ?_)
    · refine j_lookup C 55 dX4_formOf_1 (by decide) (by rw [hc] <;> decide) (by decide) ?_
      refine j_ldcs24 C rfl dX4_formOf_55 ?_
      have h := Option.some.inj h
      subst h
      exact j_aret C E (by first | exact Or.inl ⟨_, rfl⟩ | exact Or.inr ⟨_, rfl⟩) dX4_formOf_57
    · refine j_case h (fun hc h => ?_) (fun hn_2 h => ?_)
      · refine j_lookup C 58 dX4_formOf_1 (by decide) (by rw [hc] <;> decide) (by decide) ?_
        refine j_ldcs24 C rfl dX4_formOf_58 ?_
        have h := Option.some.inj h
        subst h
        exact j_aret C E (by first | exact Or.inl ⟨_, rfl⟩ | exact Or.inr ⟨_, rfl⟩) dX4_formOf_60
      · refine j_case h (fun hc h => ?_) (fun hn_3 h => ?_)
        · refine j_lookup C 52 dX4_formOf_1 (by decide) (by rw [hc] <;> decide) (by decide) ?_
          refine j_ldcs22 C rfl dX4_formOf_52 ?_
          have h := Option.some.inj h
          subst h
          exact j_aret C E (by first | exact Or.inl ⟨_, rfl⟩ | exact Or.inr ⟨_, rfl⟩) dX4_formOf_54
        · refine j_case h (fun hc h => ?_) (fun hn_4 h => ?_)
          · refine j_lookup C 61 dX4_formOf_1 (by decide) (by rw [hc] <;> decide) (by decide) ?_
            refine j_ldcs26 C rfl dX4_formOf_61 ?_
            have h := Option.some.inj h
            subst h
            exact j_aret C E (by first | exact Or.inl ⟨_, rfl⟩ | exact Or.inr ⟨_, rfl⟩) dX4_formOf_63
          · refine j_lookup C 67 dX4_formOf_1 (by decide) (lk_cons (i32ne hn_0 (by decide)) (lk_cons (i32ne hn_1 (by decide)) (lk_cons (i32ne hn_2 (by decide)) (lk_cons (i32ne hn_3 (by decide)) (lk_cons (i32ne hn_4 (by decide)) lk_nil))))) (by decide) ?_
            refine j_ldcs30 C rfl dX4_formOf_67 ?_
            have h := Option.some.inj h
            subst h
            exact j_aret C E (by first | exact Or.inl ⟨_, rfl⟩ | exact Or.inr ⟨_, rfl⟩) dX4_formOf_69

def w_X4_fits (D : va_G) : va_W := []
theorem w_X4_fits_a {D : va_G} : (w_X4_fits D).map (fun q => q.1) = [] := rfl
def f_X4_fits (x0 : Int32) (x1 : Int32) : Option Int32 :=
  (if x1 = 99 then gb (if x0 < (97 : Int32) then (0 : Int32) else (if (122 : Int32) < x0 then (0 : Int32) else (1 : Int32))) (some (if x0 < (97 : Int32) then (0 : Int32) else (if (122 : Int32) < x0 then (0 : Int32) else (1 : Int32)))) else (if x1 = 100 then gb (if x0 < (48 : Int32) then (0 : Int32) else (if (57 : Int32) < x0 then (0 : Int32) else (1 : Int32))) (some (if x0 < (48 : Int32) then (0 : Int32) else (if (57 : Int32) < x0 then (0 : Int32) else (1 : Int32)))) else gb (if x0 = x1 then (1 : Int32) else (0 : Int32)) (some (if x0 = x1 then (1 : Int32) else (0 : Int32)))))
set_option maxRecDepth 100000 in
set_option maxHeartbeats 4000000 in
theorem c_X4_fits (l : Launch) (D : va_G) {x0 : Int32} {x1 : Int32} {o : Int32} (h : f_X4_fits x0 x1 = some o) : CT l D yX4_fits cX4_fits 2 (Option.some FieldType.boolean) 0 [.int x0, .int x1] (w_X4_fits D) (w_X4_fits D) (some (.int o)) := by
  refine CT.of mk_X4_fits (Nat.le_of_ble_eq_true rfl) (fun g hl hD C E => ?_)
  subst hl
  subst hD
  unfold f_X4_fits at h
  refine j_iload_n C dX4_fits_0 rfl ?_
  refine j_case h (fun hc h => ?_) (fun hn_0 h => ?_)
  · refine j_lookup C 28 dX4_fits_1 (by decide) (by rw [hc] <;> decide) (by decide) ?_
    refine j_iload_n C dX4_fits_28 rfl ?_
    refine j_bipush C (97) dX4_fits_29 kb_97 ?_
    have hj_1 : J g (w_X4_fits (gD g)) [] 45 [.int (if x0 < (97 : Int32) then (0 : Int32) else (if (122 : Int32) < x0 then (0 : Int32) else (1 : Int32)))] := by
      obtain ⟨hz, h⟩ := of_gb h
      have h := Option.some.inj h
      subst h
      exact j_zret C E hz.1 dX4_fits_45
    refine jv_icmp_lt C 44 dX4_fits_31 (by decide) (fun hc => ?_) (fun hc => ?_)
    · try simp only [if_pos hc] at hj_1
      refine j_iconst C (0) dX4_fits_44 ki_0 ?_
      exact j_lw hj_1 rfl
    · try simp only [if_neg hc] at hj_1
      refine j_iload_n C dX4_fits_34 rfl ?_
      refine j_bipush C (122) dX4_fits_35 kb_122 ?_
      refine jv_icmp_gt C 44 dX4_fits_37 (by decide) (fun hc => ?_) (fun hc => ?_)
      · try simp only [if_pos hc] at hj_1
        refine j_iconst C (0) dX4_fits_44 ki_0 ?_
        exact j_lw hj_1 rfl
      · try simp only [if_neg hc] at hj_1
        refine j_iconst C (1) dX4_fits_40 ki_1 ?_
        refine j_goto C 45 dX4_fits_41 (by decide) ?_
        exact j_lw hj_1 rfl
  · refine j_case h (fun hc h => ?_) (fun hn_1 h => ?_)
    · refine j_lookup C 46 dX4_fits_1 (by decide) (by rw [hc] <;> decide) (by decide) ?_
      refine j_iload_n C dX4_fits_46 rfl ?_
      refine j_bipush C (48) dX4_fits_47 kb_48 ?_
      have hj_2 : J g (w_X4_fits (gD g)) [] 63 [.int (if x0 < (48 : Int32) then (0 : Int32) else (if (57 : Int32) < x0 then (0 : Int32) else (1 : Int32)))] := by
        obtain ⟨hz, h⟩ := of_gb h
        have h := Option.some.inj h
        subst h
        exact j_zret C E hz.1 dX4_fits_63
      refine jv_icmp_lt C 62 dX4_fits_49 (by decide) (fun hc => ?_) (fun hc => ?_)
      · try simp only [if_pos hc] at hj_2
        refine j_iconst C (0) dX4_fits_62 ki_0 ?_
        exact j_lw hj_2 rfl
      · try simp only [if_neg hc] at hj_2
        refine j_iload_n C dX4_fits_52 rfl ?_
        refine j_bipush C (57) dX4_fits_53 kb_57 ?_
        refine jv_icmp_gt C 62 dX4_fits_55 (by decide) (fun hc => ?_) (fun hc => ?_)
        · try simp only [if_pos hc] at hj_2
          refine j_iconst C (0) dX4_fits_62 ki_0 ?_
          exact j_lw hj_2 rfl
        · try simp only [if_neg hc] at hj_2
          refine j_iconst C (1) dX4_fits_58 ki_1 ?_
          refine j_goto C 63 dX4_fits_59 (by decide) ?_
          exact j_lw hj_2 rfl
    · refine j_lookup C 64 dX4_fits_1 (by decide) (lk_cons (i32ne hn_0 (by decide)) (lk_cons (i32ne hn_1 (by decide)) lk_nil)) (by decide) ?_
      refine j_iload_n C dX4_fits_64 rfl ?_
      refine j_iload_n C dX4_fits_65 rfl ?_
      have hj_3 : J g (w_X4_fits (gD g)) [] 74 [.int (if x0 = x1 then (1 : Int32) else (0 : Int32))] := by
        obtain ⟨hz, h⟩ := of_gb h
        have h := Option.some.inj h
        subst h
        exact j_zret C E hz.1 dX4_fits_74
      refine jv_icmp_ne C 73 dX4_fits_66 (by decide) (fun hc => ?_) (fun hc => ?_)
      · try simp only [if_pos hc] at hj_3
        refine j_iconst C (1) dX4_fits_69 ki_1 ?_
        refine j_goto C 74 dX4_fits_70 (by decide) ?_
        exact j_lw hj_3 rfl
      · try simp only [if_neg hc] at hj_3
        refine j_iconst C (0) dX4_fits_73 ki_0 ?_
        exact j_lw hj_3 rfl

def w_X4_fitting (D : va_G) (q_this q_text : Nat) (v_size : Int32) (v_statements : Int32) (v_text : (Nat → Int32)) : va_W := [(q_this, .inr (3, [.ref q_text, .int v_size, .int v_statements])), (q_text, .inl (D.1 100, 96, .inl v_text))]
theorem w_X4_fitting_g0 {D : va_G} {q_this : Nat} {q_text : Nat} {v_size : Int32} {v_statements : Int32} {v_text : (Nat → Int32)} : (w_X4_fitting D q_this q_text v_size v_statements v_text)[0]? = some (q_this, .inr (3, [.ref q_text, .int v_size, .int v_statements])) := rfl
theorem w_X4_fitting_s0 {D : va_G} {q_this : Nat} {q_text : Nat} {v_size : Int32} {v_statements : Int32} {v_text : (Nat → Int32)} {v_size' : Int32} {v_statements' : Int32} : (w_X4_fitting D q_this q_text v_size v_statements v_text).set 0 (q_this, .inr (3, [.ref q_text, .int v_size', .int v_statements'])) = (w_X4_fitting D q_this q_text v_size' v_statements' v_text) := rfl
theorem w_X4_fitting_g1 {D : va_G} {q_this : Nat} {q_text : Nat} {v_size : Int32} {v_statements : Int32} {v_text : (Nat → Int32)} : (w_X4_fitting D q_this q_text v_size v_statements v_text)[1]? = some (q_text, .inl (D.1 100, 96, .inl v_text)) := rfl
theorem w_X4_fitting_s1 {D : va_G} {q_this : Nat} {q_text : Nat} {v_size : Int32} {v_statements : Int32} {v_text : (Nat → Int32)} {v_text' : (Nat → Int32)} : (w_X4_fitting D q_this q_text v_size v_statements v_text).set 1 (q_text, .inl (D.1 100, 96, .inl v_text')) = (w_X4_fitting D q_this q_text v_size v_statements v_text') := rfl
theorem w_X4_fitting_a {D : va_G} {q_this : Nat} {q_text : Nat} {v_size : Int32} {v_statements : Int32} {v_text : (Nat → Int32)} : (w_X4_fitting D q_this q_text v_size v_statements v_text).map (fun q => q.1) = [q_this, q_text] := rfl
def f_X4_fitting_b2 (x2 : Nat) (x3_2 : Int32) (x1 : Int32) (v_size : Int32) (v_text : (Nat → Int32)) : Option (Int32 ⊕ Int32) :=
  gs x2 ((if (Int32.ofNat (slen x2)) ≤ x3_2 then some (.inr x3_2) else (f_X4_at (x1 + x3_2) v_size v_text).bind (fun r_at_1 => gs x2 (ga x3_2 (slen x2) ((f_X4_fits r_at_1 (sch x2 x3_2)).bind (fun r_fits_2 => (if r_fits_2 = 0 then some (.inr x3_2) else some (.inl (x3_2 + (1 : Int32))))))))))
def f_X4_fitting (N : Nat) (x1 : Int32) (x2 : Nat) (v_size : Int32) (v_text : (Nat → Int32)) : Option Int32 :=
  (lp (fun s_2 => f_X4_fitting_b2 x2 s_2 x1 v_size v_text) N ((0 : Int32))).bind (fun e_2 => some e_2)
set_option maxRecDepth 100000 in
set_option maxHeartbeats 4000000 in
theorem c_X4_fitting (l : Launch) (D : va_G) (N : Nat) {q_this q_text : Nat} {v_size : Int32} {v_statements : Int32} {v_text : (Nat → Int32)} {x1 : Int32} {x2 : Nat} {o : Int32} (h : f_X4_fitting N x1 x2 v_size v_text = some o) : CT l D yX4_fitting cX4_fitting 4 (Option.some FieldType.int) 4 [.ref q_this, .int x1, .ref (D.2 101 x2)] (w_X4_fitting D q_this q_text v_size v_statements v_text) (w_X4_fitting D q_this q_text v_size v_statements v_text) (some (.int o)) := by
  refine CT.of mk_X4_fitting (Nat.le_of_ble_eq_true rfl) (fun g hl hD C E => ?_)
  subst hl
  subst hD
  unfold f_X4_fitting at h
  refine j_iconst C (0) dX4_fitting_0 ki_0 ?_
  refine j_istore_n C dX4_fitting_1 (by decide) ?_
  obtain ⟨e_2, hl_2, h⟩ := of_bind h
  have ha_2 : J g (w_X4_fitting (gD g) q_this q_text v_size v_statements v_text) [(3, .int (e_2))] 34 [] := by
    refine j_iload_n C dX4_fitting_34 rfl ?_
    have h := Option.some.inj h
    subst h
    exact j_iret C E dX4_fitting_35
  refine j_lv (lv' := [(0, .ref q_this), (1, .int (x1)), (2, .ref ((gD g).2 101 (x2))), (3, .int ((0 : Int32)))]) rfl ?_
  refine lp_ind hl_2 (fun s_2 => J g (w_X4_fitting (gD g) q_this q_text v_size v_statements v_text) [(0, .ref q_this), (1, .int (x1)), (2, .ref ((gD g).2 101 (x2))), (3, .int (s_2))] 2 []) (fun s_2 r_2 h hc_2 hx_2 => ?_)
  unfold f_X4_fitting_b2 at h
  refine j_iload_n C dX4_fitting_2 rfl ?_
  refine j_aload_n C dX4_fitting_3 rfl ?_
  obtain ⟨hs, h⟩ := of_gs h
  refine j_callT1 hs C mk_J0_length_8abf5 ms_J0_length_8abf5 kw_350 (c_slen (gl g) (gD g) hs) (by decide) rfl rfl rfl (Nat.le_of_ble_eq_true rfl) dX4_fitting_4 ?_
  refine j_icmp_ge C h 34 dX4_fitting_7 (by decide) (fun hc h => ?_) (fun hc h => ?_)
  · have h := Option.some.inj h
    subst h
    have h9 := hx_2 _ rfl
    subst h9
    exact j_lw ha_2 rfl
  · refine j_aload_n C dX4_fitting_10 rfl ?_
    refine j_iload_n C dX4_fitting_11 rfl ?_
    refine j_iload_n C dX4_fitting_12 rfl ?_
    refine j_iadd C dX4_fitting_13 ?_
    obtain ⟨r_at_1, h_1, h⟩ := of_bind h
    refine j_callV1 C mk_X4_at ms_X4_at kw_334 (c_X4_at (gl g) (gD g) h_1) (by decide) 0 w_X4_fitting_g0 rfl [0, 1] (hC_cons w_X4_fitting_g0 (hC_cons w_X4_fitting_g1 hC_nil)) rfl (w_X4_at_a.trans w_X4_at_a.symm) rfl rfl (Nat.le_of_ble_eq_true rfl) dX4_fitting_14 (wput_cons w_X4_fitting_s0 (wput_cons w_X4_fitting_s1 wput_nil)) ?_
    refine j_aload_n C dX4_fitting_17 rfl ?_
    refine j_iload_n C dX4_fitting_18 rfl ?_
    obtain ⟨hs, h⟩ := of_gs h
    obtain ⟨hin, h⟩ := of_ga h
    refine j_callT1 hs C mk_J0_charAt_5068e ms_J0_charAt_5068e kw_360 (c_scharAt (gl g) (gD g) hs hin) (by decide) rfl rfl rfl (Nat.le_of_ble_eq_true rfl) dX4_fitting_19 ?_
    obtain ⟨r_fits_2, h_2, h⟩ := of_bind h
    refine j_callS1 C mk_X4_fits ms_X4_fits kw_398 (c_X4_fits (gl g) (gD g) h_2) (by decide) [] hC_nil rfl (w_X4_fits_a.trans w_X4_fits_a.symm) rfl rfl (Nat.le_of_ble_eq_true rfl) dX4_fitting_22 wput_nil ?_
    refine j_if_eq C h 34 dX4_fitting_25 (by decide) (fun hc h => ?_) (fun hc h => ?_)
    · have h := Option.some.inj h
      subst h
      have h9 := hx_2 _ rfl
      subst h9
      exact j_lw ha_2 rfl
    · refine j_inc C (1) dX4_fitting_28 rfl ki_1 (by decide) ?_
      refine j_goto C 2 dX4_fitting_31 (by decide) ?_
      have h := Option.some.inj h
      subst h
      have hc9 := hc_2 _ rfl
      exact j_lw hc9 rfl

def w_X4_faultOfForm (D : va_G) (q_this q_text : Nat) (v_size : Int32) (v_statements : Int32) (v_text : (Nat → Int32)) : va_W := [(q_this, .inr (3, [.ref q_text, .int v_size, .int v_statements])), (q_text, .inl (D.1 100, 96, .inl v_text))]
theorem w_X4_faultOfForm_g0 {D : va_G} {q_this : Nat} {q_text : Nat} {v_size : Int32} {v_statements : Int32} {v_text : (Nat → Int32)} : (w_X4_faultOfForm D q_this q_text v_size v_statements v_text)[0]? = some (q_this, .inr (3, [.ref q_text, .int v_size, .int v_statements])) := rfl
theorem w_X4_faultOfForm_s0 {D : va_G} {q_this : Nat} {q_text : Nat} {v_size : Int32} {v_statements : Int32} {v_text : (Nat → Int32)} {v_size' : Int32} {v_statements' : Int32} : (w_X4_faultOfForm D q_this q_text v_size v_statements v_text).set 0 (q_this, .inr (3, [.ref q_text, .int v_size', .int v_statements'])) = (w_X4_faultOfForm D q_this q_text v_size' v_statements' v_text) := rfl
theorem w_X4_faultOfForm_g1 {D : va_G} {q_this : Nat} {q_text : Nat} {v_size : Int32} {v_statements : Int32} {v_text : (Nat → Int32)} : (w_X4_faultOfForm D q_this q_text v_size v_statements v_text)[1]? = some (q_text, .inl (D.1 100, 96, .inl v_text)) := rfl
theorem w_X4_faultOfForm_s1 {D : va_G} {q_this : Nat} {q_text : Nat} {v_size : Int32} {v_statements : Int32} {v_text : (Nat → Int32)} {v_text' : (Nat → Int32)} : (w_X4_faultOfForm D q_this q_text v_size v_statements v_text).set 1 (q_text, .inl (D.1 100, 96, .inl v_text')) = (w_X4_faultOfForm D q_this q_text v_size v_statements v_text') := rfl
theorem w_X4_faultOfForm_a {D : va_G} {q_this : Nat} {q_text : Nat} {v_size : Int32} {v_statements : Int32} {v_text : (Nat → Int32)} : (w_X4_faultOfForm D q_this q_text v_size v_statements v_text).map (fun q => q.1) = [q_this, q_text] := rfl
def f_X4_faultOfForm_j1 (N : Nat) (x1_7 : Int32) (v_size : Int32) (v_text : (Nat → Int32)) (v_statements_7 : Int32) : Option ((Int32 × Int32) ⊕ (Int32 ⊕ (Int32 × Int32))) :=
  (f_X4_at x1_7 v_size v_text).bind (fun r_at_2 => (f_X4_formOf r_at_2).bind (fun r_formOf_3 => (f_X4_fitting N (x1_7 + (1 : Int32)) r_formOf_3 v_size v_text).bind (fun r_fitting_4 => gs r_formOf_3 ((if (if Int32.ofNat (slen r_formOf_3) = 0 then (1 : Int32) else (0 : Int32)) = 0 then gs r_formOf_3 ((if (Int32.ofNat (slen r_formOf_3)) ≤ r_fitting_4 then some (.inl (x1_7 + ((1 : Int32) + r_fitting_4), v_statements_7 + (1 : Int32))) else some (.inr (.inr ((x1_7 + (1 : Int32)) + r_fitting_4, v_statements_7))))) else some (.inr (.inr (x1_7, v_statements_7))))))))
def f_X4_faultOfForm_b7 (N : Nat) (v_statements_7 : Int32) (x1_7 : Int32) (v_size : Int32) (v_text : (Nat → Int32)) : Option ((Int32 × Int32) ⊕ (Int32 ⊕ (Int32 × Int32))) :=
  (if (96 : Int32) ≤ v_statements_7 then some (.inr (.inl v_statements_7)) else (if v_statements_7 ≤ 0 then f_X4_faultOfForm_j1 N x1_7 v_size v_text v_statements_7 else (if x1_7 < v_size then f_X4_faultOfForm_j1 N x1_7 v_size v_text v_statements_7 else some (.inr (.inr ((-9 : Int32), v_statements_7))))))
def f_X4_faultOfForm (N : Nat) (v_size : Int32) (v_statements : Int32) (v_text : (Nat → Int32)) : Option (Int32 × Int32) :=
  (lp (fun s_7 => f_X4_faultOfForm_b7 N s_7.2 s_7.1 v_size v_text) N ((0 : Int32), (0 : Int32))).bind (fun e_7 => match e_7 with | .inl x_7 => some ((-9 : Int32), x_7) | .inr o_7 => some o_7)
set_option maxRecDepth 100000 in
set_option maxHeartbeats 4000000 in
theorem c_X4_faultOfForm (l : Launch) (D : va_G) (N : Nat) {q_this q_text : Nat} {v_size : Int32} {v_statements : Int32} {v_text : (Nat → Int32)} {o : (Int32 × Int32)} (h : f_X4_faultOfForm N v_size v_statements v_text = some o) : CT l D yX4_faultOfForm cX4_faultOfForm 4 (Option.some FieldType.int) 5 [.ref q_this] (w_X4_faultOfForm D q_this q_text v_size v_statements v_text) (w_X4_faultOfForm D q_this q_text v_size o.2 v_text) (some (.int o.1)) := by
  refine CT.of mk_X4_faultOfForm (Nat.le_of_ble_eq_true rfl) (fun g hl hD C E => ?_)
  subst hl
  subst hD
  unfold f_X4_faultOfForm at h
  refine j_iconst C (0) dX4_faultOfForm_0 ki_0 ?_
  refine j_istore_n C dX4_faultOfForm_1 (by decide) ?_
  refine j_aload_n C dX4_faultOfForm_2 rfl ?_
  refine j_iconst C (0) dX4_faultOfForm_3 ki_0 ?_
  refine j_put C 0 w_X4_faultOfForm_g0 rfl inX4 tyX4_ok nmX4 2 (by decide) kw_258 rfl rfl rfl rfl (Nat.le_of_ble_eq_true rfl) dX4_faultOfForm_4 ?_
  refine j_ws w_X4_faultOfForm_s0 ?_
  obtain ⟨e_7, hl_7, h⟩ := of_bind h
  have hR_7 : ∀ o9, Sum.inr o9 = e_7 → some o9 = some o := by
    intro o9 ho9
    rw [← ho9] at h
    exact h
  have ha_7 : ∀ x_7, Sum.inl x_7 = e_7 → J g (w_X4_faultOfForm (gD g) q_this q_text v_size x_7 v_text) [] 94 [] := by
    intro x_7 hx9
    rw [← hx9] at h
    dsimp only at h
    refine j_bipush C (-9) dX4_faultOfForm_94 kb_m9 ?_
    have h := Option.some.inj h
    subst h
    exact j_iret C E dX4_faultOfForm_96
  refine j_lv (lv' := [(0, .ref q_this), (1, .int ((0 : Int32)))]) rfl ?_
  refine lp_ind hl_7 (fun s_7 => J g (w_X4_faultOfForm (gD g) q_this q_text v_size s_7.2 v_text) [(0, .ref q_this), (1, .int (s_7.1))] 7 []) (fun s_7 r_7 h hc_7 hx_7 => ?_)
  unfold f_X4_faultOfForm_b7 at h
  refine j_aload_n C dX4_faultOfForm_7 rfl ?_
  refine j_get C 0 w_X4_faultOfForm_g0 rfl inX4 2 (by decide) kw_258 rfl rfl dX4_faultOfForm_8 ?_
  refine j_bipush C (96) dX4_faultOfForm_11 kb_96 ?_
  refine j_icmp_ge C h 94 dX4_faultOfForm_13 (by decide) (fun hc h => ?_) (fun hc h => ?_)
  · have h := Option.some.inj h
    subst h
    have hx9 := hx_7 _ rfl
    have ha9 := ha_7 _ hx9
    exact j_lw ha9 rfl
  · refine j_aload_n C dX4_faultOfForm_16 rfl ?_
    refine j_get C 0 w_X4_faultOfForm_g0 rfl inX4 2 (by decide) kw_258 rfl rfl dX4_faultOfForm_17 ?_
    have hj_1 : f_X4_faultOfForm_j1 N s_7.1 v_size v_text s_7.2 = some r_7 → J g (w_X4_faultOfForm (gD g) q_this q_text v_size s_7.2 v_text) [(0, .ref q_this), (1, .int (s_7.1))] 34 [] := by
      intro  h
      unfold f_X4_faultOfForm_j1 at h
      refine j_aload_n C dX4_faultOfForm_34 rfl ?_
      refine j_iload_n C dX4_faultOfForm_35 rfl ?_
      obtain ⟨r_at_2, h_2, h⟩ := of_bind h
      refine j_callV1 C mk_X4_at ms_X4_at kw_334 (c_X4_at (gl g) (gD g) h_2) (by decide) 0 w_X4_faultOfForm_g0 rfl [0, 1] (hC_cons w_X4_faultOfForm_g0 (hC_cons w_X4_faultOfForm_g1 hC_nil)) rfl (w_X4_at_a.trans w_X4_at_a.symm) rfl rfl (Nat.le_of_ble_eq_true rfl) dX4_faultOfForm_36 (wput_cons w_X4_faultOfForm_s0 (wput_cons w_X4_faultOfForm_s1 wput_nil)) ?_
      obtain ⟨r_formOf_3, h_3, h⟩ := of_bind h
      refine j_callS1 C mk_X4_formOf ms_X4_formOf kw_338 (c_X4_formOf (gl g) (gD g) h_3) (by decide) [] hC_nil rfl (w_X4_formOf_a.trans w_X4_formOf_a.symm) rfl rfl (Nat.le_of_ble_eq_true rfl) dX4_faultOfForm_39 wput_nil ?_
      refine j_astore_n C dX4_faultOfForm_42 (by decide) ?_
      refine j_aload_n C dX4_faultOfForm_43 rfl ?_
      refine j_iload_n C dX4_faultOfForm_44 rfl ?_
      refine j_iconst C (1) dX4_faultOfForm_45 ki_1 ?_
      refine j_iadd C dX4_faultOfForm_46 ?_
      refine j_aload_n C dX4_faultOfForm_47 rfl ?_
      obtain ⟨r_fitting_4, h_4, h⟩ := of_bind h
      refine j_callV1 C mk_X4_fitting ms_X4_fitting kw_346 (c_X4_fitting (gl g) (gD g) N h_4) (by decide) 0 w_X4_faultOfForm_g0 rfl [0, 1] (hC_cons w_X4_faultOfForm_g0 (hC_cons w_X4_faultOfForm_g1 hC_nil)) rfl (w_X4_fitting_a.trans w_X4_fitting_a.symm) rfl rfl (Nat.le_of_ble_eq_true rfl) dX4_faultOfForm_48 (wput_cons w_X4_faultOfForm_s0 (wput_cons w_X4_faultOfForm_s1 wput_nil)) ?_
      refine j_istore_n C dX4_faultOfForm_51 (by decide) ?_
      refine j_aload_n C dX4_faultOfForm_52 rfl ?_
      obtain ⟨hs, h⟩ := of_gs h
      refine j_callT1 hs C mk_J0_isEmpty_aae02 ms_J0_isEmpty_aae02 kw_401 (c_sempty (gl g) (gD g) hs) (by decide) rfl rfl rfl (Nat.le_of_ble_eq_true rfl) dX4_faultOfForm_53 ?_
      refine j_if_eq C h 61 dX4_faultOfForm_56 (by decide) (fun hc h => ?_) (fun hc h => ?_)
      · refine j_iload_n C dX4_faultOfForm_61 rfl ?_
        refine j_aload_n C dX4_faultOfForm_62 rfl ?_
        obtain ⟨hs, h⟩ := of_gs h
        refine j_callT1 hs C mk_J0_length_8abf5 ms_J0_length_8abf5 kw_350 (c_slen (gl g) (gD g) hs) (by decide) rfl rfl rfl (Nat.le_of_ble_eq_true rfl) dX4_faultOfForm_63 ?_
        refine j_icmp_ge C h 75 dX4_faultOfForm_66 (by decide) (fun hc h => ?_) (fun hc h => ?_)
        · refine j_iload_n C dX4_faultOfForm_75 rfl ?_
          refine j_iconst C (1) dX4_faultOfForm_76 ki_1 ?_
          refine j_iload_n C dX4_faultOfForm_77 rfl ?_
          refine j_iadd C dX4_faultOfForm_78 ?_
          refine j_iadd C dX4_faultOfForm_79 ?_
          refine j_istore_n C dX4_faultOfForm_80 (by decide) ?_
          refine j_aload_n C dX4_faultOfForm_81 rfl ?_
          refine j_dup C dX4_faultOfForm_82 rfl ?_
          refine j_get C 0 w_X4_faultOfForm_g0 rfl inX4 2 (by decide) kw_258 rfl rfl dX4_faultOfForm_83 ?_
          refine j_iconst C (1) dX4_faultOfForm_86 ki_1 ?_
          refine j_iadd C dX4_faultOfForm_87 ?_
          refine j_put C 0 w_X4_faultOfForm_g0 rfl inX4 tyX4_ok nmX4 2 (by decide) kw_258 rfl rfl rfl rfl (Nat.le_of_ble_eq_true rfl) dX4_faultOfForm_88 ?_
          refine j_ws w_X4_faultOfForm_s0 ?_
          refine j_goto C 7 dX4_faultOfForm_91 (by decide) ?_
          have h := Option.some.inj h
          subst h
          have hc9 := hc_7 _ rfl
          exact j_lw hc9 rfl
        · refine j_iload_n C dX4_faultOfForm_69 rfl ?_
          refine j_iconst C (1) dX4_faultOfForm_70 ki_1 ?_
          refine j_iadd C dX4_faultOfForm_71 ?_
          refine j_iload_n C dX4_faultOfForm_72 rfl ?_
          refine j_iadd C dX4_faultOfForm_73 ?_
          have h := Option.some.inj h
          subst h
          have h := hR_7 _ (hx_7 _ rfl)
          have h := Option.some.inj h
          subst h
          exact j_iret C E dX4_faultOfForm_74
      · refine j_iload_n C dX4_faultOfForm_59 rfl ?_
        have h := Option.some.inj h
        subst h
        have h := hR_7 _ (hx_7 _ rfl)
        have h := Option.some.inj h
        subst h
        exact j_iret C E dX4_faultOfForm_60
    refine j_if_le C h 34 dX4_faultOfForm_20 (by decide) (fun hc h => ?_) (fun hc h => ?_)
    · have hj9 := hj_1  h
      exact j_lw hj9 rfl
    · refine j_iload_n C dX4_faultOfForm_23 rfl ?_
      refine j_aload_n C dX4_faultOfForm_24 rfl ?_
      refine j_get C 0 w_X4_faultOfForm_g0 rfl inX4 1 (by decide) kw_256 rfl rfl dX4_faultOfForm_25 ?_
      refine j_icmp_lt C h 34 dX4_faultOfForm_28 (by decide) (fun hc h => ?_) (fun hc h => ?_)
      · have hj9 := hj_1  h
        exact j_lw hj9 rfl
      · refine j_bipush C (-9) dX4_faultOfForm_31 kb_m9 ?_
        have h := Option.some.inj h
        subst h
        have h := hR_7 _ (hx_7 _ rfl)
        have h := Option.some.inj h
        subst h
        exact j_iret C E dX4_faultOfForm_33

def w_X4_digit (D : va_G) (q_this q_text : Nat) (v_size : Int32) (v_statements : Int32) (v_text : (Nat → Int32)) : va_W := [(q_this, .inr (3, [.ref q_text, .int v_size, .int v_statements])), (q_text, .inl (D.1 100, 96, .inl v_text))]
theorem w_X4_digit_g0 {D : va_G} {q_this : Nat} {q_text : Nat} {v_size : Int32} {v_statements : Int32} {v_text : (Nat → Int32)} : (w_X4_digit D q_this q_text v_size v_statements v_text)[0]? = some (q_this, .inr (3, [.ref q_text, .int v_size, .int v_statements])) := rfl
theorem w_X4_digit_s0 {D : va_G} {q_this : Nat} {q_text : Nat} {v_size : Int32} {v_statements : Int32} {v_text : (Nat → Int32)} {v_size' : Int32} {v_statements' : Int32} : (w_X4_digit D q_this q_text v_size v_statements v_text).set 0 (q_this, .inr (3, [.ref q_text, .int v_size', .int v_statements'])) = (w_X4_digit D q_this q_text v_size' v_statements' v_text) := rfl
theorem w_X4_digit_g1 {D : va_G} {q_this : Nat} {q_text : Nat} {v_size : Int32} {v_statements : Int32} {v_text : (Nat → Int32)} : (w_X4_digit D q_this q_text v_size v_statements v_text)[1]? = some (q_text, .inl (D.1 100, 96, .inl v_text)) := rfl
theorem w_X4_digit_s1 {D : va_G} {q_this : Nat} {q_text : Nat} {v_size : Int32} {v_statements : Int32} {v_text : (Nat → Int32)} {v_text' : (Nat → Int32)} : (w_X4_digit D q_this q_text v_size v_statements v_text).set 1 (q_text, .inl (D.1 100, 96, .inl v_text')) = (w_X4_digit D q_this q_text v_size v_statements v_text') := rfl
theorem w_X4_digit_a {D : va_G} {q_this : Nat} {q_text : Nat} {v_size : Int32} {v_statements : Int32} {v_text : (Nat → Int32)} : (w_X4_digit D q_this q_text v_size v_statements v_text).map (fun q => q.1) = [q_this, q_text] := rfl
def f_X4_digit (x1 : Int32) (v_size : Int32) (v_text : (Nat → Int32)) : Option Int32 :=
  (f_X4_at x1 v_size v_text).bind (fun r_at_1 => some (r_at_1 - (48 : Int32)))
set_option maxRecDepth 100000 in
set_option maxHeartbeats 4000000 in
theorem c_X4_digit (l : Launch) (D : va_G) {q_this q_text : Nat} {v_size : Int32} {v_statements : Int32} {v_text : (Nat → Int32)} {x1 : Int32} {o : Int32} (h : f_X4_digit x1 v_size v_text = some o) : CT l D yX4_digit cX4_digit 2 (Option.some FieldType.int) 1 [.ref q_this, .int x1] (w_X4_digit D q_this q_text v_size v_statements v_text) (w_X4_digit D q_this q_text v_size v_statements v_text) (some (.int o)) := by
  refine CT.of mk_X4_digit (Nat.le_of_ble_eq_true rfl) (fun g hl hD C E => ?_)
  subst hl
  subst hD
  unfold f_X4_digit at h
  refine j_aload_n C dX4_digit_0 rfl ?_
  refine j_iload_n C dX4_digit_1 rfl ?_
  obtain ⟨r_at_1, h_1, h⟩ := of_bind h
  refine j_callV1 C mk_X4_at ms_X4_at kw_334 (c_X4_at (gl g) (gD g) h_1) (by decide) 0 w_X4_digit_g0 rfl [0, 1] (hC_cons w_X4_digit_g0 (hC_cons w_X4_digit_g1 hC_nil)) rfl (w_X4_at_a.trans w_X4_at_a.symm) rfl rfl (Nat.le_of_ble_eq_true rfl) dX4_digit_2 (wput_cons w_X4_digit_s0 (wput_cons w_X4_digit_s1 wput_nil)) ?_
  refine j_bipush C (48) dX4_digit_5 kb_48 ?_
  refine j_isub C dX4_digit_7 ?_
  have h := Option.some.inj h
  subst h
  exact j_iret C E dX4_digit_8

def w_X4_number (D : va_G) (q_this q_text : Nat) (v_size : Int32) (v_statements : Int32) (v_text : (Nat → Int32)) : va_W := [(q_this, .inr (3, [.ref q_text, .int v_size, .int v_statements])), (q_text, .inl (D.1 100, 96, .inl v_text))]
theorem w_X4_number_g0 {D : va_G} {q_this : Nat} {q_text : Nat} {v_size : Int32} {v_statements : Int32} {v_text : (Nat → Int32)} : (w_X4_number D q_this q_text v_size v_statements v_text)[0]? = some (q_this, .inr (3, [.ref q_text, .int v_size, .int v_statements])) := rfl
theorem w_X4_number_s0 {D : va_G} {q_this : Nat} {q_text : Nat} {v_size : Int32} {v_statements : Int32} {v_text : (Nat → Int32)} {v_size' : Int32} {v_statements' : Int32} : (w_X4_number D q_this q_text v_size v_statements v_text).set 0 (q_this, .inr (3, [.ref q_text, .int v_size', .int v_statements'])) = (w_X4_number D q_this q_text v_size' v_statements' v_text) := rfl
theorem w_X4_number_g1 {D : va_G} {q_this : Nat} {q_text : Nat} {v_size : Int32} {v_statements : Int32} {v_text : (Nat → Int32)} : (w_X4_number D q_this q_text v_size v_statements v_text)[1]? = some (q_text, .inl (D.1 100, 96, .inl v_text)) := rfl
theorem w_X4_number_s1 {D : va_G} {q_this : Nat} {q_text : Nat} {v_size : Int32} {v_statements : Int32} {v_text : (Nat → Int32)} {v_text' : (Nat → Int32)} : (w_X4_number D q_this q_text v_size v_statements v_text).set 1 (q_text, .inl (D.1 100, 96, .inl v_text')) = (w_X4_number D q_this q_text v_size v_statements v_text') := rfl
theorem w_X4_number_a {D : va_G} {q_this : Nat} {q_text : Nat} {v_size : Int32} {v_statements : Int32} {v_text : (Nat → Int32)} : (w_X4_number D q_this q_text v_size v_statements v_text).map (fun q => q.1) = [q_this, q_text] := rfl
def f_X4_number (x1 : Int32) (v_size : Int32) (v_text : (Nat → Int32)) : Option Int32 :=
  (f_X4_digit x1 v_size v_text).bind (fun r_digit_1 => (f_X4_digit (x1 + (1 : Int32)) v_size v_text).bind (fun r_digit_2 => some (((10 : Int32) * r_digit_1) + r_digit_2)))
set_option maxRecDepth 100000 in
set_option maxHeartbeats 4000000 in
theorem c_X4_number (l : Launch) (D : va_G) {q_this q_text : Nat} {v_size : Int32} {v_statements : Int32} {v_text : (Nat → Int32)} {x1 : Int32} {o : Int32} (h : f_X4_number x1 v_size v_text = some o) : CT l D yX4_number cX4_number 2 (Option.some FieldType.int) 2 [.ref q_this, .int x1] (w_X4_number D q_this q_text v_size v_statements v_text) (w_X4_number D q_this q_text v_size v_statements v_text) (some (.int o)) := by
  refine CT.of mk_X4_number (Nat.le_of_ble_eq_true rfl) (fun g hl hD C E => ?_)
  subst hl
  subst hD
  unfold f_X4_number at h
  refine j_bipush C (10) dX4_number_0 kb_10 ?_
  refine j_aload_n C dX4_number_2 rfl ?_
  refine j_iload_n C dX4_number_3 rfl ?_
  obtain ⟨r_digit_1, h_1, h⟩ := of_bind h
  refine j_callV1 C mk_X4_digit ms_X4_digit kw_428 (c_X4_digit (gl g) (gD g) h_1) (by decide) 0 w_X4_number_g0 rfl [0, 1] (hC_cons w_X4_number_g0 (hC_cons w_X4_number_g1 hC_nil)) rfl (w_X4_digit_a.trans w_X4_digit_a.symm) rfl rfl (Nat.le_of_ble_eq_true rfl) dX4_number_4 (wput_cons w_X4_number_s0 (wput_cons w_X4_number_s1 wput_nil)) ?_
  refine j_imul C dX4_number_7 ?_
  refine j_aload_n C dX4_number_8 rfl ?_
  refine j_iload_n C dX4_number_9 rfl ?_
  refine j_iconst C (1) dX4_number_10 ki_1 ?_
  refine j_iadd C dX4_number_11 ?_
  obtain ⟨r_digit_2, h_2, h⟩ := of_bind h
  refine j_callV1 C mk_X4_digit ms_X4_digit kw_428 (c_X4_digit (gl g) (gD g) h_2) (by decide) 0 w_X4_number_g0 rfl [0, 1] (hC_cons w_X4_number_g0 (hC_cons w_X4_number_g1 hC_nil)) rfl (w_X4_digit_a.trans w_X4_digit_a.symm) rfl rfl (Nat.le_of_ble_eq_true rfl) dX4_number_12 (wput_cons w_X4_number_s0 (wput_cons w_X4_number_s1 wput_nil)) ?_
  refine j_iadd C dX4_number_15 ?_
  have h := Option.some.inj h
  subst h
  exact j_iret C E dX4_number_16

def w_X4_tellStreet (D : va_G) (q_this q_text q_p1 q_p1_froms q_p1_tos q_p1_lengths q_p1_kinds q_p1_figures : Nat) (v_size : Int32) (v_statements : Int32) (v_text : (Nat → Int32)) (v_p1_closed : Int32) (v_p1_size : Int32) (v_p1_home : Int32) (v_p1_froms : (Nat → Int32)) (v_p1_tos : (Nat → Int32)) (v_p1_lengths : (Nat → Int32)) (v_p1_kinds : (Nat → Int32)) (v_p1_figures : (Nat → Int32)) : va_W := [(q_this, .inr (3, [.ref q_text, .int v_size, .int v_statements])), (q_text, .inl (D.1 100, 96, .inl v_text)), (q_p1, .inr (6, [.ref q_p1_froms, .ref q_p1_tos, .ref q_p1_lengths, .ref q_p1_kinds, .ref q_p1_figures, .int v_p1_closed, .int v_p1_size, .int v_p1_home])), (q_p1_froms, .inl (D.1 100, 8, .inl v_p1_froms)), (q_p1_tos, .inl (D.1 100, 8, .inl v_p1_tos)), (q_p1_lengths, .inl (D.1 100, 8, .inl v_p1_lengths)), (q_p1_kinds, .inl (D.1 100, 8, .inl v_p1_kinds)), (q_p1_figures, .inl (D.1 100, 8, .inl v_p1_figures))]
theorem w_X4_tellStreet_g0 {D : va_G} {q_this : Nat} {q_text : Nat} {q_p1 : Nat} {q_p1_froms : Nat} {q_p1_tos : Nat} {q_p1_lengths : Nat} {q_p1_kinds : Nat} {q_p1_figures : Nat} {v_size : Int32} {v_statements : Int32} {v_text : (Nat → Int32)} {v_p1_closed : Int32} {v_p1_size : Int32} {v_p1_home : Int32} {v_p1_froms : (Nat → Int32)} {v_p1_tos : (Nat → Int32)} {v_p1_lengths : (Nat → Int32)} {v_p1_kinds : (Nat → Int32)} {v_p1_figures : (Nat → Int32)} : (w_X4_tellStreet D q_this q_text q_p1 q_p1_froms q_p1_tos q_p1_lengths q_p1_kinds q_p1_figures v_size v_statements v_text v_p1_closed v_p1_size v_p1_home v_p1_froms v_p1_tos v_p1_lengths v_p1_kinds v_p1_figures)[0]? = some (q_this, .inr (3, [.ref q_text, .int v_size, .int v_statements])) := rfl
theorem w_X4_tellStreet_s0 {D : va_G} {q_this : Nat} {q_text : Nat} {q_p1 : Nat} {q_p1_froms : Nat} {q_p1_tos : Nat} {q_p1_lengths : Nat} {q_p1_kinds : Nat} {q_p1_figures : Nat} {v_size : Int32} {v_statements : Int32} {v_text : (Nat → Int32)} {v_p1_closed : Int32} {v_p1_size : Int32} {v_p1_home : Int32} {v_p1_froms : (Nat → Int32)} {v_p1_tos : (Nat → Int32)} {v_p1_lengths : (Nat → Int32)} {v_p1_kinds : (Nat → Int32)} {v_p1_figures : (Nat → Int32)} {v_size' : Int32} {v_statements' : Int32} : (w_X4_tellStreet D q_this q_text q_p1 q_p1_froms q_p1_tos q_p1_lengths q_p1_kinds q_p1_figures v_size v_statements v_text v_p1_closed v_p1_size v_p1_home v_p1_froms v_p1_tos v_p1_lengths v_p1_kinds v_p1_figures).set 0 (q_this, .inr (3, [.ref q_text, .int v_size', .int v_statements'])) = (w_X4_tellStreet D q_this q_text q_p1 q_p1_froms q_p1_tos q_p1_lengths q_p1_kinds q_p1_figures v_size' v_statements' v_text v_p1_closed v_p1_size v_p1_home v_p1_froms v_p1_tos v_p1_lengths v_p1_kinds v_p1_figures) := rfl
theorem w_X4_tellStreet_g1 {D : va_G} {q_this : Nat} {q_text : Nat} {q_p1 : Nat} {q_p1_froms : Nat} {q_p1_tos : Nat} {q_p1_lengths : Nat} {q_p1_kinds : Nat} {q_p1_figures : Nat} {v_size : Int32} {v_statements : Int32} {v_text : (Nat → Int32)} {v_p1_closed : Int32} {v_p1_size : Int32} {v_p1_home : Int32} {v_p1_froms : (Nat → Int32)} {v_p1_tos : (Nat → Int32)} {v_p1_lengths : (Nat → Int32)} {v_p1_kinds : (Nat → Int32)} {v_p1_figures : (Nat → Int32)} : (w_X4_tellStreet D q_this q_text q_p1 q_p1_froms q_p1_tos q_p1_lengths q_p1_kinds q_p1_figures v_size v_statements v_text v_p1_closed v_p1_size v_p1_home v_p1_froms v_p1_tos v_p1_lengths v_p1_kinds v_p1_figures)[1]? = some (q_text, .inl (D.1 100, 96, .inl v_text)) := rfl
theorem w_X4_tellStreet_s1 {D : va_G} {q_this : Nat} {q_text : Nat} {q_p1 : Nat} {q_p1_froms : Nat} {q_p1_tos : Nat} {q_p1_lengths : Nat} {q_p1_kinds : Nat} {q_p1_figures : Nat} {v_size : Int32} {v_statements : Int32} {v_text : (Nat → Int32)} {v_p1_closed : Int32} {v_p1_size : Int32} {v_p1_home : Int32} {v_p1_froms : (Nat → Int32)} {v_p1_tos : (Nat → Int32)} {v_p1_lengths : (Nat → Int32)} {v_p1_kinds : (Nat → Int32)} {v_p1_figures : (Nat → Int32)} {v_text' : (Nat → Int32)} : (w_X4_tellStreet D q_this q_text q_p1 q_p1_froms q_p1_tos q_p1_lengths q_p1_kinds q_p1_figures v_size v_statements v_text v_p1_closed v_p1_size v_p1_home v_p1_froms v_p1_tos v_p1_lengths v_p1_kinds v_p1_figures).set 1 (q_text, .inl (D.1 100, 96, .inl v_text')) = (w_X4_tellStreet D q_this q_text q_p1 q_p1_froms q_p1_tos q_p1_lengths q_p1_kinds q_p1_figures v_size v_statements v_text' v_p1_closed v_p1_size v_p1_home v_p1_froms v_p1_tos v_p1_lengths v_p1_kinds v_p1_figures) := rfl
theorem w_X4_tellStreet_g2 {D : va_G} {q_this : Nat} {q_text : Nat} {q_p1 : Nat} {q_p1_froms : Nat} {q_p1_tos : Nat} {q_p1_lengths : Nat} {q_p1_kinds : Nat} {q_p1_figures : Nat} {v_size : Int32} {v_statements : Int32} {v_text : (Nat → Int32)} {v_p1_closed : Int32} {v_p1_size : Int32} {v_p1_home : Int32} {v_p1_froms : (Nat → Int32)} {v_p1_tos : (Nat → Int32)} {v_p1_lengths : (Nat → Int32)} {v_p1_kinds : (Nat → Int32)} {v_p1_figures : (Nat → Int32)} : (w_X4_tellStreet D q_this q_text q_p1 q_p1_froms q_p1_tos q_p1_lengths q_p1_kinds q_p1_figures v_size v_statements v_text v_p1_closed v_p1_size v_p1_home v_p1_froms v_p1_tos v_p1_lengths v_p1_kinds v_p1_figures)[2]? = some (q_p1, .inr (6, [.ref q_p1_froms, .ref q_p1_tos, .ref q_p1_lengths, .ref q_p1_kinds, .ref q_p1_figures, .int v_p1_closed, .int v_p1_size, .int v_p1_home])) := rfl
theorem w_X4_tellStreet_s2 {D : va_G} {q_this : Nat} {q_text : Nat} {q_p1 : Nat} {q_p1_froms : Nat} {q_p1_tos : Nat} {q_p1_lengths : Nat} {q_p1_kinds : Nat} {q_p1_figures : Nat} {v_size : Int32} {v_statements : Int32} {v_text : (Nat → Int32)} {v_p1_closed : Int32} {v_p1_size : Int32} {v_p1_home : Int32} {v_p1_froms : (Nat → Int32)} {v_p1_tos : (Nat → Int32)} {v_p1_lengths : (Nat → Int32)} {v_p1_kinds : (Nat → Int32)} {v_p1_figures : (Nat → Int32)} {v_p1_closed' : Int32} {v_p1_size' : Int32} {v_p1_home' : Int32} : (w_X4_tellStreet D q_this q_text q_p1 q_p1_froms q_p1_tos q_p1_lengths q_p1_kinds q_p1_figures v_size v_statements v_text v_p1_closed v_p1_size v_p1_home v_p1_froms v_p1_tos v_p1_lengths v_p1_kinds v_p1_figures).set 2 (q_p1, .inr (6, [.ref q_p1_froms, .ref q_p1_tos, .ref q_p1_lengths, .ref q_p1_kinds, .ref q_p1_figures, .int v_p1_closed', .int v_p1_size', .int v_p1_home'])) = (w_X4_tellStreet D q_this q_text q_p1 q_p1_froms q_p1_tos q_p1_lengths q_p1_kinds q_p1_figures v_size v_statements v_text v_p1_closed' v_p1_size' v_p1_home' v_p1_froms v_p1_tos v_p1_lengths v_p1_kinds v_p1_figures) := rfl
theorem w_X4_tellStreet_g3 {D : va_G} {q_this : Nat} {q_text : Nat} {q_p1 : Nat} {q_p1_froms : Nat} {q_p1_tos : Nat} {q_p1_lengths : Nat} {q_p1_kinds : Nat} {q_p1_figures : Nat} {v_size : Int32} {v_statements : Int32} {v_text : (Nat → Int32)} {v_p1_closed : Int32} {v_p1_size : Int32} {v_p1_home : Int32} {v_p1_froms : (Nat → Int32)} {v_p1_tos : (Nat → Int32)} {v_p1_lengths : (Nat → Int32)} {v_p1_kinds : (Nat → Int32)} {v_p1_figures : (Nat → Int32)} : (w_X4_tellStreet D q_this q_text q_p1 q_p1_froms q_p1_tos q_p1_lengths q_p1_kinds q_p1_figures v_size v_statements v_text v_p1_closed v_p1_size v_p1_home v_p1_froms v_p1_tos v_p1_lengths v_p1_kinds v_p1_figures)[3]? = some (q_p1_froms, .inl (D.1 100, 8, .inl v_p1_froms)) := rfl
theorem w_X4_tellStreet_s3 {D : va_G} {q_this : Nat} {q_text : Nat} {q_p1 : Nat} {q_p1_froms : Nat} {q_p1_tos : Nat} {q_p1_lengths : Nat} {q_p1_kinds : Nat} {q_p1_figures : Nat} {v_size : Int32} {v_statements : Int32} {v_text : (Nat → Int32)} {v_p1_closed : Int32} {v_p1_size : Int32} {v_p1_home : Int32} {v_p1_froms : (Nat → Int32)} {v_p1_tos : (Nat → Int32)} {v_p1_lengths : (Nat → Int32)} {v_p1_kinds : (Nat → Int32)} {v_p1_figures : (Nat → Int32)} {v_p1_froms' : (Nat → Int32)} : (w_X4_tellStreet D q_this q_text q_p1 q_p1_froms q_p1_tos q_p1_lengths q_p1_kinds q_p1_figures v_size v_statements v_text v_p1_closed v_p1_size v_p1_home v_p1_froms v_p1_tos v_p1_lengths v_p1_kinds v_p1_figures).set 3 (q_p1_froms, .inl (D.1 100, 8, .inl v_p1_froms')) = (w_X4_tellStreet D q_this q_text q_p1 q_p1_froms q_p1_tos q_p1_lengths q_p1_kinds q_p1_figures v_size v_statements v_text v_p1_closed v_p1_size v_p1_home v_p1_froms' v_p1_tos v_p1_lengths v_p1_kinds v_p1_figures) := rfl
theorem w_X4_tellStreet_g4 {D : va_G} {q_this : Nat} {q_text : Nat} {q_p1 : Nat} {q_p1_froms : Nat} {q_p1_tos : Nat} {q_p1_lengths : Nat} {q_p1_kinds : Nat} {q_p1_figures : Nat} {v_size : Int32} {v_statements : Int32} {v_text : (Nat → Int32)} {v_p1_closed : Int32} {v_p1_size : Int32} {v_p1_home : Int32} {v_p1_froms : (Nat → Int32)} {v_p1_tos : (Nat → Int32)} {v_p1_lengths : (Nat → Int32)} {v_p1_kinds : (Nat → Int32)} {v_p1_figures : (Nat → Int32)} : (w_X4_tellStreet D q_this q_text q_p1 q_p1_froms q_p1_tos q_p1_lengths q_p1_kinds q_p1_figures v_size v_statements v_text v_p1_closed v_p1_size v_p1_home v_p1_froms v_p1_tos v_p1_lengths v_p1_kinds v_p1_figures)[4]? = some (q_p1_tos, .inl (D.1 100, 8, .inl v_p1_tos)) := rfl
theorem w_X4_tellStreet_s4 {D : va_G} {q_this : Nat} {q_text : Nat} {q_p1 : Nat} {q_p1_froms : Nat} {q_p1_tos : Nat} {q_p1_lengths : Nat} {q_p1_kinds : Nat} {q_p1_figures : Nat} {v_size : Int32} {v_statements : Int32} {v_text : (Nat → Int32)} {v_p1_closed : Int32} {v_p1_size : Int32} {v_p1_home : Int32} {v_p1_froms : (Nat → Int32)} {v_p1_tos : (Nat → Int32)} {v_p1_lengths : (Nat → Int32)} {v_p1_kinds : (Nat → Int32)} {v_p1_figures : (Nat → Int32)} {v_p1_tos' : (Nat → Int32)} : (w_X4_tellStreet D q_this q_text q_p1 q_p1_froms q_p1_tos q_p1_lengths q_p1_kinds q_p1_figures v_size v_statements v_text v_p1_closed v_p1_size v_p1_home v_p1_froms v_p1_tos v_p1_lengths v_p1_kinds v_p1_figures).set 4 (q_p1_tos, .inl (D.1 100, 8, .inl v_p1_tos')) = (w_X4_tellStreet D q_this q_text q_p1 q_p1_froms q_p1_tos q_p1_lengths q_p1_kinds q_p1_figures v_size v_statements v_text v_p1_closed v_p1_size v_p1_home v_p1_froms v_p1_tos' v_p1_lengths v_p1_kinds v_p1_figures) := rfl
theorem w_X4_tellStreet_g5 {D : va_G} {q_this : Nat} {q_text : Nat} {q_p1 : Nat} {q_p1_froms : Nat} {q_p1_tos : Nat} {q_p1_lengths : Nat} {q_p1_kinds : Nat} {q_p1_figures : Nat} {v_size : Int32} {v_statements : Int32} {v_text : (Nat → Int32)} {v_p1_closed : Int32} {v_p1_size : Int32} {v_p1_home : Int32} {v_p1_froms : (Nat → Int32)} {v_p1_tos : (Nat → Int32)} {v_p1_lengths : (Nat → Int32)} {v_p1_kinds : (Nat → Int32)} {v_p1_figures : (Nat → Int32)} : (w_X4_tellStreet D q_this q_text q_p1 q_p1_froms q_p1_tos q_p1_lengths q_p1_kinds q_p1_figures v_size v_statements v_text v_p1_closed v_p1_size v_p1_home v_p1_froms v_p1_tos v_p1_lengths v_p1_kinds v_p1_figures)[5]? = some (q_p1_lengths, .inl (D.1 100, 8, .inl v_p1_lengths)) := rfl
theorem w_X4_tellStreet_s5 {D : va_G} {q_this : Nat} {q_text : Nat} {q_p1 : Nat} {q_p1_froms : Nat} {q_p1_tos : Nat} {q_p1_lengths : Nat} {q_p1_kinds : Nat} {q_p1_figures : Nat} {v_size : Int32} {v_statements : Int32} {v_text : (Nat → Int32)} {v_p1_closed : Int32} {v_p1_size : Int32} {v_p1_home : Int32} {v_p1_froms : (Nat → Int32)} {v_p1_tos : (Nat → Int32)} {v_p1_lengths : (Nat → Int32)} {v_p1_kinds : (Nat → Int32)} {v_p1_figures : (Nat → Int32)} {v_p1_lengths' : (Nat → Int32)} : (w_X4_tellStreet D q_this q_text q_p1 q_p1_froms q_p1_tos q_p1_lengths q_p1_kinds q_p1_figures v_size v_statements v_text v_p1_closed v_p1_size v_p1_home v_p1_froms v_p1_tos v_p1_lengths v_p1_kinds v_p1_figures).set 5 (q_p1_lengths, .inl (D.1 100, 8, .inl v_p1_lengths')) = (w_X4_tellStreet D q_this q_text q_p1 q_p1_froms q_p1_tos q_p1_lengths q_p1_kinds q_p1_figures v_size v_statements v_text v_p1_closed v_p1_size v_p1_home v_p1_froms v_p1_tos v_p1_lengths' v_p1_kinds v_p1_figures) := rfl
theorem w_X4_tellStreet_g6 {D : va_G} {q_this : Nat} {q_text : Nat} {q_p1 : Nat} {q_p1_froms : Nat} {q_p1_tos : Nat} {q_p1_lengths : Nat} {q_p1_kinds : Nat} {q_p1_figures : Nat} {v_size : Int32} {v_statements : Int32} {v_text : (Nat → Int32)} {v_p1_closed : Int32} {v_p1_size : Int32} {v_p1_home : Int32} {v_p1_froms : (Nat → Int32)} {v_p1_tos : (Nat → Int32)} {v_p1_lengths : (Nat → Int32)} {v_p1_kinds : (Nat → Int32)} {v_p1_figures : (Nat → Int32)} : (w_X4_tellStreet D q_this q_text q_p1 q_p1_froms q_p1_tos q_p1_lengths q_p1_kinds q_p1_figures v_size v_statements v_text v_p1_closed v_p1_size v_p1_home v_p1_froms v_p1_tos v_p1_lengths v_p1_kinds v_p1_figures)[6]? = some (q_p1_kinds, .inl (D.1 100, 8, .inl v_p1_kinds)) := rfl
theorem w_X4_tellStreet_s6 {D : va_G} {q_this : Nat} {q_text : Nat} {q_p1 : Nat} {q_p1_froms : Nat} {q_p1_tos : Nat} {q_p1_lengths : Nat} {q_p1_kinds : Nat} {q_p1_figures : Nat} {v_size : Int32} {v_statements : Int32} {v_text : (Nat → Int32)} {v_p1_closed : Int32} {v_p1_size : Int32} {v_p1_home : Int32} {v_p1_froms : (Nat → Int32)} {v_p1_tos : (Nat → Int32)} {v_p1_lengths : (Nat → Int32)} {v_p1_kinds : (Nat → Int32)} {v_p1_figures : (Nat → Int32)} {v_p1_kinds' : (Nat → Int32)} : (w_X4_tellStreet D q_this q_text q_p1 q_p1_froms q_p1_tos q_p1_lengths q_p1_kinds q_p1_figures v_size v_statements v_text v_p1_closed v_p1_size v_p1_home v_p1_froms v_p1_tos v_p1_lengths v_p1_kinds v_p1_figures).set 6 (q_p1_kinds, .inl (D.1 100, 8, .inl v_p1_kinds')) = (w_X4_tellStreet D q_this q_text q_p1 q_p1_froms q_p1_tos q_p1_lengths q_p1_kinds q_p1_figures v_size v_statements v_text v_p1_closed v_p1_size v_p1_home v_p1_froms v_p1_tos v_p1_lengths v_p1_kinds' v_p1_figures) := rfl
theorem w_X4_tellStreet_g7 {D : va_G} {q_this : Nat} {q_text : Nat} {q_p1 : Nat} {q_p1_froms : Nat} {q_p1_tos : Nat} {q_p1_lengths : Nat} {q_p1_kinds : Nat} {q_p1_figures : Nat} {v_size : Int32} {v_statements : Int32} {v_text : (Nat → Int32)} {v_p1_closed : Int32} {v_p1_size : Int32} {v_p1_home : Int32} {v_p1_froms : (Nat → Int32)} {v_p1_tos : (Nat → Int32)} {v_p1_lengths : (Nat → Int32)} {v_p1_kinds : (Nat → Int32)} {v_p1_figures : (Nat → Int32)} : (w_X4_tellStreet D q_this q_text q_p1 q_p1_froms q_p1_tos q_p1_lengths q_p1_kinds q_p1_figures v_size v_statements v_text v_p1_closed v_p1_size v_p1_home v_p1_froms v_p1_tos v_p1_lengths v_p1_kinds v_p1_figures)[7]? = some (q_p1_figures, .inl (D.1 100, 8, .inl v_p1_figures)) := rfl
theorem w_X4_tellStreet_s7 {D : va_G} {q_this : Nat} {q_text : Nat} {q_p1 : Nat} {q_p1_froms : Nat} {q_p1_tos : Nat} {q_p1_lengths : Nat} {q_p1_kinds : Nat} {q_p1_figures : Nat} {v_size : Int32} {v_statements : Int32} {v_text : (Nat → Int32)} {v_p1_closed : Int32} {v_p1_size : Int32} {v_p1_home : Int32} {v_p1_froms : (Nat → Int32)} {v_p1_tos : (Nat → Int32)} {v_p1_lengths : (Nat → Int32)} {v_p1_kinds : (Nat → Int32)} {v_p1_figures : (Nat → Int32)} {v_p1_figures' : (Nat → Int32)} : (w_X4_tellStreet D q_this q_text q_p1 q_p1_froms q_p1_tos q_p1_lengths q_p1_kinds q_p1_figures v_size v_statements v_text v_p1_closed v_p1_size v_p1_home v_p1_froms v_p1_tos v_p1_lengths v_p1_kinds v_p1_figures).set 7 (q_p1_figures, .inl (D.1 100, 8, .inl v_p1_figures')) = (w_X4_tellStreet D q_this q_text q_p1 q_p1_froms q_p1_tos q_p1_lengths q_p1_kinds q_p1_figures v_size v_statements v_text v_p1_closed v_p1_size v_p1_home v_p1_froms v_p1_tos v_p1_lengths v_p1_kinds v_p1_figures') := rfl
theorem w_X4_tellStreet_a {D : va_G} {q_this : Nat} {q_text : Nat} {q_p1 : Nat} {q_p1_froms : Nat} {q_p1_tos : Nat} {q_p1_lengths : Nat} {q_p1_kinds : Nat} {q_p1_figures : Nat} {v_size : Int32} {v_statements : Int32} {v_text : (Nat → Int32)} {v_p1_closed : Int32} {v_p1_size : Int32} {v_p1_home : Int32} {v_p1_froms : (Nat → Int32)} {v_p1_tos : (Nat → Int32)} {v_p1_lengths : (Nat → Int32)} {v_p1_kinds : (Nat → Int32)} {v_p1_figures : (Nat → Int32)} : (w_X4_tellStreet D q_this q_text q_p1 q_p1_froms q_p1_tos q_p1_lengths q_p1_kinds q_p1_figures v_size v_statements v_text v_p1_closed v_p1_size v_p1_home v_p1_froms v_p1_tos v_p1_lengths v_p1_kinds v_p1_figures).map (fun q => q.1) = [q_this, q_text, q_p1, q_p1_froms, q_p1_tos, q_p1_lengths, q_p1_kinds, q_p1_figures] := rfl
def f_X4_tellStreet (x2 : Int32) (v_size : Int32) (v_text : (Nat → Int32)) (v_p1_closed : Int32) (v_p1_size : Int32) (v_p1_froms : (Nat → Int32)) (v_p1_tos : (Nat → Int32)) (v_p1_lengths : (Nat → Int32)) (v_p1_kinds : (Nat → Int32)) (v_p1_figures : (Nat → Int32)) : Option (Int32 × Int32 × Int32 × (Nat → Int32) × (Nat → Int32) × (Nat → Int32) × (Nat → Int32) × (Nat → Int32)) :=
  (f_X4_at (x2 + (1 : Int32)) v_size v_text).bind (fun r_at_1 => (f_X4_at (x2 + (2 : Int32)) v_size v_text).bind (fun r_at_2 => (f_X4_number (x2 + (3 : Int32)) v_size v_text).bind (fun r_number_3 => (f_X9_isCorner (r_at_1 - (97 : Int32))).bind (fun r_isCorner_4 => (if r_isCorner_4 = 0 then some ((0 : Int32), v_p1_closed, v_p1_size, v_p1_froms, v_p1_tos, v_p1_lengths, v_p1_kinds, v_p1_figures) else (f_X9_isCorner (r_at_2 - (97 : Int32))).bind (fun r_isCorner_5 => (if r_isCorner_5 = 0 then some ((0 : Int32), v_p1_closed, v_p1_size, v_p1_froms, v_p1_tos, v_p1_lengths, v_p1_kinds, v_p1_figures) else (if (r_at_1 - (97 : Int32)) = (r_at_2 - (97 : Int32)) then some ((0 : Int32), v_p1_closed, v_p1_size, v_p1_froms, v_p1_tos, v_p1_lengths, v_p1_kinds, v_p1_figures) else (if r_number_3 < (1 : Int32) then some ((0 : Int32), v_p1_closed, v_p1_size, v_p1_froms, v_p1_tos, v_p1_lengths, v_p1_kinds, v_p1_figures) else (f_X7_hasRoom v_p1_size).bind (fun r_hasRoom_6 => (if r_hasRoom_6 = 0 then some ((0 : Int32), v_p1_closed, v_p1_size, v_p1_froms, v_p1_tos, v_p1_lengths, v_p1_kinds, v_p1_figures) else (f_X7_add (r_at_1 - (97 : Int32)) (r_at_2 - (97 : Int32)) r_number_3 v_p1_closed v_p1_size v_p1_froms v_p1_tos v_p1_lengths v_p1_kinds v_p1_figures).bind (fun r_add_7 => some ((1 : Int32), r_add_7.1, r_add_7.2.1, r_add_7.2.2.1, r_add_7.2.2.2.1, r_add_7.2.2.2.2.1, r_add_7.2.2.2.2.2.1, r_add_7.2.2.2.2.2.2)))))))))))))
set_option maxRecDepth 100000 in
set_option maxHeartbeats 4000000 in
theorem c_X4_tellStreet (l : Launch) (D : va_G) {q_this q_text q_p1 q_p1_froms q_p1_tos q_p1_lengths q_p1_kinds q_p1_figures : Nat} {v_size : Int32} {v_statements : Int32} {v_text : (Nat → Int32)} {v_p1_closed : Int32} {v_p1_size : Int32} {v_p1_home : Int32} {v_p1_froms : (Nat → Int32)} {v_p1_tos : (Nat → Int32)} {v_p1_lengths : (Nat → Int32)} {v_p1_kinds : (Nat → Int32)} {v_p1_figures : (Nat → Int32)} {x2 : Int32} {o : (Int32 × Int32 × Int32 × (Nat → Int32) × (Nat → Int32) × (Nat → Int32) × (Nat → Int32) × (Nat → Int32))} (h : f_X4_tellStreet x2 v_size v_text v_p1_closed v_p1_size v_p1_froms v_p1_tos v_p1_lengths v_p1_kinds v_p1_figures = some o) : CT l D yX4_tellStreet cX4_tellStreet 6 (Option.some FieldType.boolean) 3 [.ref q_this, .ref q_p1, .int x2] (w_X4_tellStreet D q_this q_text q_p1 q_p1_froms q_p1_tos q_p1_lengths q_p1_kinds q_p1_figures v_size v_statements v_text v_p1_closed v_p1_size v_p1_home v_p1_froms v_p1_tos v_p1_lengths v_p1_kinds v_p1_figures) (w_X4_tellStreet D q_this q_text q_p1 q_p1_froms q_p1_tos q_p1_lengths q_p1_kinds q_p1_figures v_size v_statements v_text o.2.1 o.2.2.1 v_p1_home o.2.2.2.1 o.2.2.2.2.1 o.2.2.2.2.2.1 o.2.2.2.2.2.2.1 o.2.2.2.2.2.2.2) (some (.int o.1)) := by
  refine CT.of mk_X4_tellStreet (Nat.le_of_ble_eq_true rfl) (fun g hl hD C E => ?_)
  subst hl
  subst hD
  unfold f_X4_tellStreet at h
  refine j_aload_n C dX4_tellStreet_0 rfl ?_
  refine j_iload_n C dX4_tellStreet_1 rfl ?_
  refine j_iconst C (1) dX4_tellStreet_2 ki_1 ?_
  refine j_iadd C dX4_tellStreet_3 ?_
  obtain ⟨r_at_1, h_1, h⟩ := of_bind h
  refine j_callV1 C mk_X4_at ms_X4_at kw_334 (c_X4_at (gl g) (gD g) h_1) (by decide) 0 w_X4_tellStreet_g0 rfl [0, 1] (hC_cons w_X4_tellStreet_g0 (hC_cons w_X4_tellStreet_g1 hC_nil)) rfl (w_X4_at_a.trans w_X4_at_a.symm) rfl rfl (Nat.le_of_ble_eq_true rfl) dX4_tellStreet_4 (wput_cons w_X4_tellStreet_s0 (wput_cons w_X4_tellStreet_s1 wput_nil)) ?_
  refine j_bipush C (97) dX4_tellStreet_7 kb_97 ?_
  refine j_isub C dX4_tellStreet_9 ?_
  refine j_istore_n C dX4_tellStreet_10 (by decide) ?_
  refine j_aload_n C dX4_tellStreet_11 rfl ?_
  refine j_iload_n C dX4_tellStreet_12 rfl ?_
  refine j_iconst C (2) dX4_tellStreet_13 ki_2 ?_
  refine j_iadd C dX4_tellStreet_14 ?_
  obtain ⟨r_at_2, h_2, h⟩ := of_bind h
  refine j_callV1 C mk_X4_at ms_X4_at kw_334 (c_X4_at (gl g) (gD g) h_2) (by decide) 0 w_X4_tellStreet_g0 rfl [0, 1] (hC_cons w_X4_tellStreet_g0 (hC_cons w_X4_tellStreet_g1 hC_nil)) rfl (w_X4_at_a.trans w_X4_at_a.symm) rfl rfl (Nat.le_of_ble_eq_true rfl) dX4_tellStreet_15 (wput_cons w_X4_tellStreet_s0 (wput_cons w_X4_tellStreet_s1 wput_nil)) ?_
  refine j_bipush C (97) dX4_tellStreet_18 kb_97 ?_
  refine j_isub C dX4_tellStreet_20 ?_
  refine j_istore C dX4_tellStreet_21 (by decide) ?_
  refine j_aload_n C dX4_tellStreet_23 rfl ?_
  refine j_iload_n C dX4_tellStreet_24 rfl ?_
  refine j_iconst C (3) dX4_tellStreet_25 ki_3 ?_
  refine j_iadd C dX4_tellStreet_26 ?_
  obtain ⟨r_number_3, h_3, h⟩ := of_bind h
  refine j_callV1 C mk_X4_number ms_X4_number kw_424 (c_X4_number (gl g) (gD g) h_3) (by decide) 0 w_X4_tellStreet_g0 rfl [0, 1] (hC_cons w_X4_tellStreet_g0 (hC_cons w_X4_tellStreet_g1 hC_nil)) rfl (w_X4_number_a.trans w_X4_number_a.symm) rfl rfl (Nat.le_of_ble_eq_true rfl) dX4_tellStreet_27 (wput_cons w_X4_tellStreet_s0 (wput_cons w_X4_tellStreet_s1 wput_nil)) ?_
  refine j_istore C dX4_tellStreet_30 (by decide) ?_
  refine j_iload_n C dX4_tellStreet_32 rfl ?_
  obtain ⟨r_isCorner_4, h_4, h⟩ := of_bind h
  refine j_callSN1 C mk_X9_isCorner ms_X9_isCorner (by decide) (c_X9_isCorner (gl g) (gD g) h_4) (by decide) [] hC_nil rfl (w_X9_isCorner_a.trans w_X9_isCorner_a.symm) rfl rfl (Nat.le_of_ble_eq_true rfl) dX4_tellStreet_33 wput_nil ?_
  refine j_if_eq C h 66 dX4_tellStreet_36 (by decide) (fun hc h => ?_) (fun hc h => ?_)
  · refine j_iconst C (0) dX4_tellStreet_66 ki_0 ?_
    have h := Option.some.inj h
    subst h
    exact j_zret C E rfl dX4_tellStreet_67
  · refine j_iload C dX4_tellStreet_39 rfl ?_
    obtain ⟨r_isCorner_5, h_5, h⟩ := of_bind h
    refine j_callSN1 C mk_X9_isCorner ms_X9_isCorner (by decide) (c_X9_isCorner (gl g) (gD g) h_5) (by decide) [] hC_nil rfl (w_X9_isCorner_a.trans w_X9_isCorner_a.symm) rfl rfl (Nat.le_of_ble_eq_true rfl) dX4_tellStreet_41 wput_nil ?_
    refine j_if_eq C h 66 dX4_tellStreet_44 (by decide) (fun hc h => ?_) (fun hc h => ?_)
    · refine j_iconst C (0) dX4_tellStreet_66 ki_0 ?_
      have h := Option.some.inj h
      subst h
      exact j_zret C E rfl dX4_tellStreet_67
    · refine j_iload_n C dX4_tellStreet_47 rfl ?_
      refine j_iload C dX4_tellStreet_48 rfl ?_
      refine j_icmp_eq C h 66 dX4_tellStreet_50 (by decide) (fun hc h => ?_) (fun hc h => ?_)
      · refine j_iconst C (0) dX4_tellStreet_66 ki_0 ?_
        have h := Option.some.inj h
        subst h
        exact j_zret C E rfl dX4_tellStreet_67
      · refine j_iload C dX4_tellStreet_53 rfl ?_
        refine j_iconst C (1) dX4_tellStreet_55 ki_1 ?_
        refine j_icmp_lt C h 66 dX4_tellStreet_56 (by decide) (fun hc h => ?_) (fun hc h => ?_)
        · refine j_iconst C (0) dX4_tellStreet_66 ki_0 ?_
          have h := Option.some.inj h
          subst h
          exact j_zret C E rfl dX4_tellStreet_67
        · refine j_aload_n C dX4_tellStreet_59 rfl ?_
          obtain ⟨r_hasRoom_6, h_6, h⟩ := of_bind h
          refine j_callV1 C mk_X7_hasRoom ms_X7_hasRoom kw_435 (c_X7_hasRoom (gl g) (gD g) h_6) (by decide) 2 w_X4_tellStreet_g2 rfl [2] (hC_cons w_X4_tellStreet_g2 hC_nil) rfl (w_X7_hasRoom_a.trans w_X7_hasRoom_a.symm) rfl rfl (Nat.le_of_ble_eq_true rfl) dX4_tellStreet_60 (wput_cons w_X4_tellStreet_s2 wput_nil) ?_
          refine j_if_ne C h 68 dX4_tellStreet_63 (by decide) (fun hc h => ?_) (fun hc h => ?_)
          · refine j_iconst C (0) dX4_tellStreet_66 ki_0 ?_
            have h := Option.some.inj h
            subst h
            exact j_zret C E rfl dX4_tellStreet_67
          · refine j_aload_n C dX4_tellStreet_68 rfl ?_
            refine j_iload_n C dX4_tellStreet_69 rfl ?_
            refine j_iload C dX4_tellStreet_70 rfl ?_
            refine j_iload C dX4_tellStreet_72 rfl ?_
            obtain ⟨r_add_7, h_7, h⟩ := of_bind h
            refine j_callV0 C mk_X7_add ms_X7_add kw_439 (c_X7_add (gl g) (gD g) h_7) (by decide) 2 w_X4_tellStreet_g2 rfl [2, 3, 4, 5, 6, 7] (hC_cons w_X4_tellStreet_g2 (hC_cons w_X4_tellStreet_g3 (hC_cons w_X4_tellStreet_g4 (hC_cons w_X4_tellStreet_g5 (hC_cons w_X4_tellStreet_g6 (hC_cons w_X4_tellStreet_g7 hC_nil)))))) rfl (w_X7_add_a.trans w_X7_add_a.symm) rfl rfl (Nat.le_of_ble_eq_true rfl) dX4_tellStreet_74 (wput_cons w_X4_tellStreet_s2 (wput_cons w_X4_tellStreet_s3 (wput_cons w_X4_tellStreet_s4 (wput_cons w_X4_tellStreet_s5 (wput_cons w_X4_tellStreet_s6 (wput_cons w_X4_tellStreet_s7 wput_nil)))))) ?_
            refine j_iconst C (1) dX4_tellStreet_77 ki_1 ?_
            have h := Option.some.inj h
            subst h
            exact j_zret C E rfl dX4_tellStreet_78

def w_X4_tellHome (D : va_G) (q_this q_text q_p1 : Nat) (w_p1_froms w_p1_tos w_p1_lengths w_p1_kinds w_p1_figures : Value) (v_size : Int32) (v_statements : Int32) (v_text : (Nat → Int32)) (v_p1_closed : Int32) (v_p1_size : Int32) (v_p1_home : Int32) : va_W := [(q_this, .inr (3, [.ref q_text, .int v_size, .int v_statements])), (q_text, .inl (D.1 100, 96, .inl v_text)), (q_p1, .inr (6, [w_p1_froms, w_p1_tos, w_p1_lengths, w_p1_kinds, w_p1_figures, .int v_p1_closed, .int v_p1_size, .int v_p1_home]))]
theorem w_X4_tellHome_g0 {D : va_G} {q_this : Nat} {q_text : Nat} {q_p1 : Nat} {w_p1_froms : Value} {w_p1_tos : Value} {w_p1_lengths : Value} {w_p1_kinds : Value} {w_p1_figures : Value} {v_size : Int32} {v_statements : Int32} {v_text : (Nat → Int32)} {v_p1_closed : Int32} {v_p1_size : Int32} {v_p1_home : Int32} : (w_X4_tellHome D q_this q_text q_p1 w_p1_froms w_p1_tos w_p1_lengths w_p1_kinds w_p1_figures v_size v_statements v_text v_p1_closed v_p1_size v_p1_home)[0]? = some (q_this, .inr (3, [.ref q_text, .int v_size, .int v_statements])) := rfl
theorem w_X4_tellHome_s0 {D : va_G} {q_this : Nat} {q_text : Nat} {q_p1 : Nat} {w_p1_froms : Value} {w_p1_tos : Value} {w_p1_lengths : Value} {w_p1_kinds : Value} {w_p1_figures : Value} {v_size : Int32} {v_statements : Int32} {v_text : (Nat → Int32)} {v_p1_closed : Int32} {v_p1_size : Int32} {v_p1_home : Int32} {v_size' : Int32} {v_statements' : Int32} : (w_X4_tellHome D q_this q_text q_p1 w_p1_froms w_p1_tos w_p1_lengths w_p1_kinds w_p1_figures v_size v_statements v_text v_p1_closed v_p1_size v_p1_home).set 0 (q_this, .inr (3, [.ref q_text, .int v_size', .int v_statements'])) = (w_X4_tellHome D q_this q_text q_p1 w_p1_froms w_p1_tos w_p1_lengths w_p1_kinds w_p1_figures v_size' v_statements' v_text v_p1_closed v_p1_size v_p1_home) := rfl
theorem w_X4_tellHome_g1 {D : va_G} {q_this : Nat} {q_text : Nat} {q_p1 : Nat} {w_p1_froms : Value} {w_p1_tos : Value} {w_p1_lengths : Value} {w_p1_kinds : Value} {w_p1_figures : Value} {v_size : Int32} {v_statements : Int32} {v_text : (Nat → Int32)} {v_p1_closed : Int32} {v_p1_size : Int32} {v_p1_home : Int32} : (w_X4_tellHome D q_this q_text q_p1 w_p1_froms w_p1_tos w_p1_lengths w_p1_kinds w_p1_figures v_size v_statements v_text v_p1_closed v_p1_size v_p1_home)[1]? = some (q_text, .inl (D.1 100, 96, .inl v_text)) := rfl
theorem w_X4_tellHome_s1 {D : va_G} {q_this : Nat} {q_text : Nat} {q_p1 : Nat} {w_p1_froms : Value} {w_p1_tos : Value} {w_p1_lengths : Value} {w_p1_kinds : Value} {w_p1_figures : Value} {v_size : Int32} {v_statements : Int32} {v_text : (Nat → Int32)} {v_p1_closed : Int32} {v_p1_size : Int32} {v_p1_home : Int32} {v_text' : (Nat → Int32)} : (w_X4_tellHome D q_this q_text q_p1 w_p1_froms w_p1_tos w_p1_lengths w_p1_kinds w_p1_figures v_size v_statements v_text v_p1_closed v_p1_size v_p1_home).set 1 (q_text, .inl (D.1 100, 96, .inl v_text')) = (w_X4_tellHome D q_this q_text q_p1 w_p1_froms w_p1_tos w_p1_lengths w_p1_kinds w_p1_figures v_size v_statements v_text' v_p1_closed v_p1_size v_p1_home) := rfl
theorem w_X4_tellHome_g2 {D : va_G} {q_this : Nat} {q_text : Nat} {q_p1 : Nat} {w_p1_froms : Value} {w_p1_tos : Value} {w_p1_lengths : Value} {w_p1_kinds : Value} {w_p1_figures : Value} {v_size : Int32} {v_statements : Int32} {v_text : (Nat → Int32)} {v_p1_closed : Int32} {v_p1_size : Int32} {v_p1_home : Int32} : (w_X4_tellHome D q_this q_text q_p1 w_p1_froms w_p1_tos w_p1_lengths w_p1_kinds w_p1_figures v_size v_statements v_text v_p1_closed v_p1_size v_p1_home)[2]? = some (q_p1, .inr (6, [w_p1_froms, w_p1_tos, w_p1_lengths, w_p1_kinds, w_p1_figures, .int v_p1_closed, .int v_p1_size, .int v_p1_home])) := rfl
theorem w_X4_tellHome_s2 {D : va_G} {q_this : Nat} {q_text : Nat} {q_p1 : Nat} {w_p1_froms : Value} {w_p1_tos : Value} {w_p1_lengths : Value} {w_p1_kinds : Value} {w_p1_figures : Value} {v_size : Int32} {v_statements : Int32} {v_text : (Nat → Int32)} {v_p1_closed : Int32} {v_p1_size : Int32} {v_p1_home : Int32} {v_p1_closed' : Int32} {v_p1_size' : Int32} {v_p1_home' : Int32} : (w_X4_tellHome D q_this q_text q_p1 w_p1_froms w_p1_tos w_p1_lengths w_p1_kinds w_p1_figures v_size v_statements v_text v_p1_closed v_p1_size v_p1_home).set 2 (q_p1, .inr (6, [w_p1_froms, w_p1_tos, w_p1_lengths, w_p1_kinds, w_p1_figures, .int v_p1_closed', .int v_p1_size', .int v_p1_home'])) = (w_X4_tellHome D q_this q_text q_p1 w_p1_froms w_p1_tos w_p1_lengths w_p1_kinds w_p1_figures v_size v_statements v_text v_p1_closed' v_p1_size' v_p1_home') := rfl
theorem w_X4_tellHome_a {D : va_G} {q_this : Nat} {q_text : Nat} {q_p1 : Nat} {w_p1_froms : Value} {w_p1_tos : Value} {w_p1_lengths : Value} {w_p1_kinds : Value} {w_p1_figures : Value} {v_size : Int32} {v_statements : Int32} {v_text : (Nat → Int32)} {v_p1_closed : Int32} {v_p1_size : Int32} {v_p1_home : Int32} : (w_X4_tellHome D q_this q_text q_p1 w_p1_froms w_p1_tos w_p1_lengths w_p1_kinds w_p1_figures v_size v_statements v_text v_p1_closed v_p1_size v_p1_home).map (fun q => q.1) = [q_this, q_text, q_p1] := rfl
def f_X4_tellHome (x2 : Int32) (v_size : Int32) (v_text : (Nat → Int32)) (v_p1_home : Int32) : Option (Int32 × Int32) :=
  (f_X4_at (x2 + (1 : Int32)) v_size v_text).bind (fun r_at_1 => (f_X9_isCorner (r_at_1 - (97 : Int32))).bind (fun r_isCorner_2 => (if r_isCorner_2 = 0 then some ((0 : Int32), v_p1_home) else some ((1 : Int32), r_at_1 - (97 : Int32)))))
set_option maxRecDepth 100000 in
set_option maxHeartbeats 4000000 in
theorem c_X4_tellHome (l : Launch) (D : va_G) {q_this q_text q_p1 : Nat} {w_p1_froms w_p1_tos w_p1_lengths w_p1_kinds w_p1_figures : Value} {v_size : Int32} {v_statements : Int32} {v_text : (Nat → Int32)} {v_p1_closed : Int32} {v_p1_size : Int32} {v_p1_home : Int32} {x2 : Int32} {o : (Int32 × Int32)} (h : f_X4_tellHome x2 v_size v_text v_p1_home = some o) : CT l D yX4_tellHome cX4_tellHome 4 (Option.some FieldType.boolean) 1 [.ref q_this, .ref q_p1, .int x2] (w_X4_tellHome D q_this q_text q_p1 w_p1_froms w_p1_tos w_p1_lengths w_p1_kinds w_p1_figures v_size v_statements v_text v_p1_closed v_p1_size v_p1_home) (w_X4_tellHome D q_this q_text q_p1 w_p1_froms w_p1_tos w_p1_lengths w_p1_kinds w_p1_figures v_size v_statements v_text v_p1_closed v_p1_size o.2) (some (.int o.1)) := by
  refine CT.of mk_X4_tellHome (Nat.le_of_ble_eq_true rfl) (fun g hl hD C E => ?_)
  subst hl
  subst hD
  unfold f_X4_tellHome at h
  refine j_aload_n C dX4_tellHome_0 rfl ?_
  refine j_iload_n C dX4_tellHome_1 rfl ?_
  refine j_iconst C (1) dX4_tellHome_2 ki_1 ?_
  refine j_iadd C dX4_tellHome_3 ?_
  obtain ⟨r_at_1, h_1, h⟩ := of_bind h
  refine j_callV1 C mk_X4_at ms_X4_at kw_334 (c_X4_at (gl g) (gD g) h_1) (by decide) 0 w_X4_tellHome_g0 rfl [0, 1] (hC_cons w_X4_tellHome_g0 (hC_cons w_X4_tellHome_g1 hC_nil)) rfl (w_X4_at_a.trans w_X4_at_a.symm) rfl rfl (Nat.le_of_ble_eq_true rfl) dX4_tellHome_4 (wput_cons w_X4_tellHome_s0 (wput_cons w_X4_tellHome_s1 wput_nil)) ?_
  refine j_bipush C (97) dX4_tellHome_7 kb_97 ?_
  refine j_isub C dX4_tellHome_9 ?_
  refine j_istore_n C dX4_tellHome_10 (by decide) ?_
  refine j_iload_n C dX4_tellHome_11 rfl ?_
  obtain ⟨r_isCorner_2, h_2, h⟩ := of_bind h
  refine j_callSN1 C mk_X9_isCorner ms_X9_isCorner (by decide) (c_X9_isCorner (gl g) (gD g) h_2) (by decide) [] hC_nil rfl (w_X9_isCorner_a.trans w_X9_isCorner_a.symm) rfl rfl (Nat.le_of_ble_eq_true rfl) dX4_tellHome_12 wput_nil ?_
  refine j_if_ne C h 20 dX4_tellHome_15 (by decide) (fun hc h => ?_) (fun hc h => ?_)
  · refine j_iconst C (0) dX4_tellHome_18 ki_0 ?_
    have h := Option.some.inj h
    subst h
    exact j_zret C E rfl dX4_tellHome_19
  · refine j_aload_n C dX4_tellHome_20 rfl ?_
    refine j_iload_n C dX4_tellHome_21 rfl ?_
    refine j_put C 2 w_X4_tellHome_g2 rfl inX7 tyX7_ok nmX7 7 (by decide) kw_63 rfl rfl rfl rfl (Nat.le_of_ble_eq_true rfl) dX4_tellHome_22 ?_
    refine j_ws w_X4_tellHome_s2 ?_
    refine j_iconst C (1) dX4_tellHome_25 ki_1 ?_
    have h := Option.some.inj h
    subst h
    exact j_zret C E rfl dX4_tellHome_26

def w_X4_tellKind (D : va_G) (q_this q_text q_p1 q_p1_kinds q_p1_figures : Nat) (w_p1_froms w_p1_tos w_p1_lengths : Value) (v_size : Int32) (v_statements : Int32) (v_text : (Nat → Int32)) (v_p1_closed : Int32) (v_p1_size : Int32) (v_p1_home : Int32) (v_p1_kinds : (Nat → Int32)) (v_p1_figures : (Nat → Int32)) : va_W := [(q_this, .inr (3, [.ref q_text, .int v_size, .int v_statements])), (q_text, .inl (D.1 100, 96, .inl v_text)), (q_p1, .inr (6, [w_p1_froms, w_p1_tos, w_p1_lengths, .ref q_p1_kinds, .ref q_p1_figures, .int v_p1_closed, .int v_p1_size, .int v_p1_home])), (q_p1_kinds, .inl (D.1 100, 8, .inl v_p1_kinds)), (q_p1_figures, .inl (D.1 100, 8, .inl v_p1_figures))]
theorem w_X4_tellKind_g0 {D : va_G} {q_this : Nat} {q_text : Nat} {q_p1 : Nat} {q_p1_kinds : Nat} {q_p1_figures : Nat} {w_p1_froms : Value} {w_p1_tos : Value} {w_p1_lengths : Value} {v_size : Int32} {v_statements : Int32} {v_text : (Nat → Int32)} {v_p1_closed : Int32} {v_p1_size : Int32} {v_p1_home : Int32} {v_p1_kinds : (Nat → Int32)} {v_p1_figures : (Nat → Int32)} : (w_X4_tellKind D q_this q_text q_p1 q_p1_kinds q_p1_figures w_p1_froms w_p1_tos w_p1_lengths v_size v_statements v_text v_p1_closed v_p1_size v_p1_home v_p1_kinds v_p1_figures)[0]? = some (q_this, .inr (3, [.ref q_text, .int v_size, .int v_statements])) := rfl
theorem w_X4_tellKind_s0 {D : va_G} {q_this : Nat} {q_text : Nat} {q_p1 : Nat} {q_p1_kinds : Nat} {q_p1_figures : Nat} {w_p1_froms : Value} {w_p1_tos : Value} {w_p1_lengths : Value} {v_size : Int32} {v_statements : Int32} {v_text : (Nat → Int32)} {v_p1_closed : Int32} {v_p1_size : Int32} {v_p1_home : Int32} {v_p1_kinds : (Nat → Int32)} {v_p1_figures : (Nat → Int32)} {v_size' : Int32} {v_statements' : Int32} : (w_X4_tellKind D q_this q_text q_p1 q_p1_kinds q_p1_figures w_p1_froms w_p1_tos w_p1_lengths v_size v_statements v_text v_p1_closed v_p1_size v_p1_home v_p1_kinds v_p1_figures).set 0 (q_this, .inr (3, [.ref q_text, .int v_size', .int v_statements'])) = (w_X4_tellKind D q_this q_text q_p1 q_p1_kinds q_p1_figures w_p1_froms w_p1_tos w_p1_lengths v_size' v_statements' v_text v_p1_closed v_p1_size v_p1_home v_p1_kinds v_p1_figures) := rfl
theorem w_X4_tellKind_g1 {D : va_G} {q_this : Nat} {q_text : Nat} {q_p1 : Nat} {q_p1_kinds : Nat} {q_p1_figures : Nat} {w_p1_froms : Value} {w_p1_tos : Value} {w_p1_lengths : Value} {v_size : Int32} {v_statements : Int32} {v_text : (Nat → Int32)} {v_p1_closed : Int32} {v_p1_size : Int32} {v_p1_home : Int32} {v_p1_kinds : (Nat → Int32)} {v_p1_figures : (Nat → Int32)} : (w_X4_tellKind D q_this q_text q_p1 q_p1_kinds q_p1_figures w_p1_froms w_p1_tos w_p1_lengths v_size v_statements v_text v_p1_closed v_p1_size v_p1_home v_p1_kinds v_p1_figures)[1]? = some (q_text, .inl (D.1 100, 96, .inl v_text)) := rfl
theorem w_X4_tellKind_s1 {D : va_G} {q_this : Nat} {q_text : Nat} {q_p1 : Nat} {q_p1_kinds : Nat} {q_p1_figures : Nat} {w_p1_froms : Value} {w_p1_tos : Value} {w_p1_lengths : Value} {v_size : Int32} {v_statements : Int32} {v_text : (Nat → Int32)} {v_p1_closed : Int32} {v_p1_size : Int32} {v_p1_home : Int32} {v_p1_kinds : (Nat → Int32)} {v_p1_figures : (Nat → Int32)} {v_text' : (Nat → Int32)} : (w_X4_tellKind D q_this q_text q_p1 q_p1_kinds q_p1_figures w_p1_froms w_p1_tos w_p1_lengths v_size v_statements v_text v_p1_closed v_p1_size v_p1_home v_p1_kinds v_p1_figures).set 1 (q_text, .inl (D.1 100, 96, .inl v_text')) = (w_X4_tellKind D q_this q_text q_p1 q_p1_kinds q_p1_figures w_p1_froms w_p1_tos w_p1_lengths v_size v_statements v_text' v_p1_closed v_p1_size v_p1_home v_p1_kinds v_p1_figures) := rfl
theorem w_X4_tellKind_g2 {D : va_G} {q_this : Nat} {q_text : Nat} {q_p1 : Nat} {q_p1_kinds : Nat} {q_p1_figures : Nat} {w_p1_froms : Value} {w_p1_tos : Value} {w_p1_lengths : Value} {v_size : Int32} {v_statements : Int32} {v_text : (Nat → Int32)} {v_p1_closed : Int32} {v_p1_size : Int32} {v_p1_home : Int32} {v_p1_kinds : (Nat → Int32)} {v_p1_figures : (Nat → Int32)} : (w_X4_tellKind D q_this q_text q_p1 q_p1_kinds q_p1_figures w_p1_froms w_p1_tos w_p1_lengths v_size v_statements v_text v_p1_closed v_p1_size v_p1_home v_p1_kinds v_p1_figures)[2]? = some (q_p1, .inr (6, [w_p1_froms, w_p1_tos, w_p1_lengths, .ref q_p1_kinds, .ref q_p1_figures, .int v_p1_closed, .int v_p1_size, .int v_p1_home])) := rfl
theorem w_X4_tellKind_s2 {D : va_G} {q_this : Nat} {q_text : Nat} {q_p1 : Nat} {q_p1_kinds : Nat} {q_p1_figures : Nat} {w_p1_froms : Value} {w_p1_tos : Value} {w_p1_lengths : Value} {v_size : Int32} {v_statements : Int32} {v_text : (Nat → Int32)} {v_p1_closed : Int32} {v_p1_size : Int32} {v_p1_home : Int32} {v_p1_kinds : (Nat → Int32)} {v_p1_figures : (Nat → Int32)} {v_p1_closed' : Int32} {v_p1_size' : Int32} {v_p1_home' : Int32} : (w_X4_tellKind D q_this q_text q_p1 q_p1_kinds q_p1_figures w_p1_froms w_p1_tos w_p1_lengths v_size v_statements v_text v_p1_closed v_p1_size v_p1_home v_p1_kinds v_p1_figures).set 2 (q_p1, .inr (6, [w_p1_froms, w_p1_tos, w_p1_lengths, .ref q_p1_kinds, .ref q_p1_figures, .int v_p1_closed', .int v_p1_size', .int v_p1_home'])) = (w_X4_tellKind D q_this q_text q_p1 q_p1_kinds q_p1_figures w_p1_froms w_p1_tos w_p1_lengths v_size v_statements v_text v_p1_closed' v_p1_size' v_p1_home' v_p1_kinds v_p1_figures) := rfl
theorem w_X4_tellKind_g3 {D : va_G} {q_this : Nat} {q_text : Nat} {q_p1 : Nat} {q_p1_kinds : Nat} {q_p1_figures : Nat} {w_p1_froms : Value} {w_p1_tos : Value} {w_p1_lengths : Value} {v_size : Int32} {v_statements : Int32} {v_text : (Nat → Int32)} {v_p1_closed : Int32} {v_p1_size : Int32} {v_p1_home : Int32} {v_p1_kinds : (Nat → Int32)} {v_p1_figures : (Nat → Int32)} : (w_X4_tellKind D q_this q_text q_p1 q_p1_kinds q_p1_figures w_p1_froms w_p1_tos w_p1_lengths v_size v_statements v_text v_p1_closed v_p1_size v_p1_home v_p1_kinds v_p1_figures)[3]? = some (q_p1_kinds, .inl (D.1 100, 8, .inl v_p1_kinds)) := rfl
theorem w_X4_tellKind_s3 {D : va_G} {q_this : Nat} {q_text : Nat} {q_p1 : Nat} {q_p1_kinds : Nat} {q_p1_figures : Nat} {w_p1_froms : Value} {w_p1_tos : Value} {w_p1_lengths : Value} {v_size : Int32} {v_statements : Int32} {v_text : (Nat → Int32)} {v_p1_closed : Int32} {v_p1_size : Int32} {v_p1_home : Int32} {v_p1_kinds : (Nat → Int32)} {v_p1_figures : (Nat → Int32)} {v_p1_kinds' : (Nat → Int32)} : (w_X4_tellKind D q_this q_text q_p1 q_p1_kinds q_p1_figures w_p1_froms w_p1_tos w_p1_lengths v_size v_statements v_text v_p1_closed v_p1_size v_p1_home v_p1_kinds v_p1_figures).set 3 (q_p1_kinds, .inl (D.1 100, 8, .inl v_p1_kinds')) = (w_X4_tellKind D q_this q_text q_p1 q_p1_kinds q_p1_figures w_p1_froms w_p1_tos w_p1_lengths v_size v_statements v_text v_p1_closed v_p1_size v_p1_home v_p1_kinds' v_p1_figures) := rfl
theorem w_X4_tellKind_g4 {D : va_G} {q_this : Nat} {q_text : Nat} {q_p1 : Nat} {q_p1_kinds : Nat} {q_p1_figures : Nat} {w_p1_froms : Value} {w_p1_tos : Value} {w_p1_lengths : Value} {v_size : Int32} {v_statements : Int32} {v_text : (Nat → Int32)} {v_p1_closed : Int32} {v_p1_size : Int32} {v_p1_home : Int32} {v_p1_kinds : (Nat → Int32)} {v_p1_figures : (Nat → Int32)} : (w_X4_tellKind D q_this q_text q_p1 q_p1_kinds q_p1_figures w_p1_froms w_p1_tos w_p1_lengths v_size v_statements v_text v_p1_closed v_p1_size v_p1_home v_p1_kinds v_p1_figures)[4]? = some (q_p1_figures, .inl (D.1 100, 8, .inl v_p1_figures)) := rfl
theorem w_X4_tellKind_s4 {D : va_G} {q_this : Nat} {q_text : Nat} {q_p1 : Nat} {q_p1_kinds : Nat} {q_p1_figures : Nat} {w_p1_froms : Value} {w_p1_tos : Value} {w_p1_lengths : Value} {v_size : Int32} {v_statements : Int32} {v_text : (Nat → Int32)} {v_p1_closed : Int32} {v_p1_size : Int32} {v_p1_home : Int32} {v_p1_kinds : (Nat → Int32)} {v_p1_figures : (Nat → Int32)} {v_p1_figures' : (Nat → Int32)} : (w_X4_tellKind D q_this q_text q_p1 q_p1_kinds q_p1_figures w_p1_froms w_p1_tos w_p1_lengths v_size v_statements v_text v_p1_closed v_p1_size v_p1_home v_p1_kinds v_p1_figures).set 4 (q_p1_figures, .inl (D.1 100, 8, .inl v_p1_figures')) = (w_X4_tellKind D q_this q_text q_p1 q_p1_kinds q_p1_figures w_p1_froms w_p1_tos w_p1_lengths v_size v_statements v_text v_p1_closed v_p1_size v_p1_home v_p1_kinds v_p1_figures') := rfl
theorem w_X4_tellKind_a {D : va_G} {q_this : Nat} {q_text : Nat} {q_p1 : Nat} {q_p1_kinds : Nat} {q_p1_figures : Nat} {w_p1_froms : Value} {w_p1_tos : Value} {w_p1_lengths : Value} {v_size : Int32} {v_statements : Int32} {v_text : (Nat → Int32)} {v_p1_closed : Int32} {v_p1_size : Int32} {v_p1_home : Int32} {v_p1_kinds : (Nat → Int32)} {v_p1_figures : (Nat → Int32)} : (w_X4_tellKind D q_this q_text q_p1 q_p1_kinds q_p1_figures w_p1_froms w_p1_tos w_p1_lengths v_size v_statements v_text v_p1_closed v_p1_size v_p1_home v_p1_kinds v_p1_figures).map (fun q => q.1) = [q_this, q_text, q_p1, q_p1_kinds, q_p1_figures] := rfl
def f_X4_tellKind (x2 : Int32) (v_size : Int32) (v_text : (Nat → Int32)) (v_p1_size : Int32) (v_p1_kinds : (Nat → Int32)) (v_p1_figures : (Nat → Int32)) : Option (Int32 × (Nat → Int32) × (Nat → Int32)) :=
  (f_X4_digit (x2 + (1 : Int32)) v_size v_text).bind (fun r_digit_1 => (f_X4_digit (x2 + (2 : Int32)) v_size v_text).bind (fun r_digit_2 => (f_X7_has r_digit_1 v_p1_size).bind (fun r_has_3 => (if r_has_3 = 0 then some ((0 : Int32), v_p1_kinds, v_p1_figures) else (if r_digit_2 < 0 then some ((0 : Int32), v_p1_kinds, v_p1_figures) else (if r_digit_2 < (6 : Int32) then ga r_digit_1 8 ((f_X4_digit (x2 + (3 : Int32)) v_size v_text).bind (fun r_digit_4 => ga r_digit_1 8 (some ((1 : Int32), upd v_p1_kinds (Int32.toNatClampNeg r_digit_1) r_digit_2, upd v_p1_figures (Int32.toNatClampNeg r_digit_1) r_digit_4)))) else some ((0 : Int32), v_p1_kinds, v_p1_figures)))))))
set_option maxRecDepth 100000 in
set_option maxHeartbeats 4000000 in
theorem c_X4_tellKind (l : Launch) (D : va_G) {q_this q_text q_p1 q_p1_kinds q_p1_figures : Nat} {w_p1_froms w_p1_tos w_p1_lengths : Value} {v_size : Int32} {v_statements : Int32} {v_text : (Nat → Int32)} {v_p1_closed : Int32} {v_p1_size : Int32} {v_p1_home : Int32} {v_p1_kinds : (Nat → Int32)} {v_p1_figures : (Nat → Int32)} {x2 : Int32} {o : (Int32 × (Nat → Int32) × (Nat → Int32))} (h : f_X4_tellKind x2 v_size v_text v_p1_size v_p1_kinds v_p1_figures = some o) : CT l D yX4_tellKind cX4_tellKind 5 (Option.some FieldType.boolean) 2 [.ref q_this, .ref q_p1, .int x2] (w_X4_tellKind D q_this q_text q_p1 q_p1_kinds q_p1_figures w_p1_froms w_p1_tos w_p1_lengths v_size v_statements v_text v_p1_closed v_p1_size v_p1_home v_p1_kinds v_p1_figures) (w_X4_tellKind D q_this q_text q_p1 q_p1_kinds q_p1_figures w_p1_froms w_p1_tos w_p1_lengths v_size v_statements v_text v_p1_closed v_p1_size v_p1_home o.2.1 o.2.2) (some (.int o.1)) := by
  refine CT.of mk_X4_tellKind (Nat.le_of_ble_eq_true rfl) (fun g hl hD C E => ?_)
  subst hl
  subst hD
  unfold f_X4_tellKind at h
  refine j_aload_n C dX4_tellKind_0 rfl ?_
  refine j_iload_n C dX4_tellKind_1 rfl ?_
  refine j_iconst C (1) dX4_tellKind_2 ki_1 ?_
  refine j_iadd C dX4_tellKind_3 ?_
  obtain ⟨r_digit_1, h_1, h⟩ := of_bind h
  refine j_callV1 C mk_X4_digit ms_X4_digit kw_428 (c_X4_digit (gl g) (gD g) h_1) (by decide) 0 w_X4_tellKind_g0 rfl [0, 1] (hC_cons w_X4_tellKind_g0 (hC_cons w_X4_tellKind_g1 hC_nil)) rfl (w_X4_digit_a.trans w_X4_digit_a.symm) rfl rfl (Nat.le_of_ble_eq_true rfl) dX4_tellKind_4 (wput_cons w_X4_tellKind_s0 (wput_cons w_X4_tellKind_s1 wput_nil)) ?_
  refine j_istore_n C dX4_tellKind_7 (by decide) ?_
  refine j_aload_n C dX4_tellKind_8 rfl ?_
  refine j_iload_n C dX4_tellKind_9 rfl ?_
  refine j_iconst C (2) dX4_tellKind_10 ki_2 ?_
  refine j_iadd C dX4_tellKind_11 ?_
  obtain ⟨r_digit_2, h_2, h⟩ := of_bind h
  refine j_callV1 C mk_X4_digit ms_X4_digit kw_428 (c_X4_digit (gl g) (gD g) h_2) (by decide) 0 w_X4_tellKind_g0 rfl [0, 1] (hC_cons w_X4_tellKind_g0 (hC_cons w_X4_tellKind_g1 hC_nil)) rfl (w_X4_digit_a.trans w_X4_digit_a.symm) rfl rfl (Nat.le_of_ble_eq_true rfl) dX4_tellKind_12 (wput_cons w_X4_tellKind_s0 (wput_cons w_X4_tellKind_s1 wput_nil)) ?_
  refine j_istore C dX4_tellKind_15 (by decide) ?_
  refine j_aload_n C dX4_tellKind_17 rfl ?_
  refine j_iload_n C dX4_tellKind_18 rfl ?_
  obtain ⟨r_has_3, h_3, h⟩ := of_bind h
  refine j_callV1 C mk_X7_has ms_X7_has kw_448 (c_X7_has (gl g) (gD g) h_3) (by decide) 2 w_X4_tellKind_g2 rfl [2] (hC_cons w_X4_tellKind_g2 hC_nil) rfl (w_X7_has_a.trans w_X7_has_a.symm) rfl rfl (Nat.le_of_ble_eq_true rfl) dX4_tellKind_19 (wput_cons w_X4_tellKind_s2 wput_nil) ?_
  refine j_if_eq C h 37 dX4_tellKind_22 (by decide) (fun hc h => ?_) (fun hc h => ?_)
  · refine j_iconst C (0) dX4_tellKind_37 ki_0 ?_
    have h := Option.some.inj h
    subst h
    exact j_zret C E rfl dX4_tellKind_38
  · refine j_iload C dX4_tellKind_25 rfl ?_
    refine j_if_lt C h 37 dX4_tellKind_27 (by decide) (fun hc h => ?_) (fun hc h => ?_)
    · refine j_iconst C (0) dX4_tellKind_37 ki_0 ?_
      have h := Option.some.inj h
      subst h
      exact j_zret C E rfl dX4_tellKind_38
    · refine j_iload C dX4_tellKind_30 rfl ?_
      refine j_bipush C (6) dX4_tellKind_32 kb_6 ?_
      refine j_icmp_lt C h 39 dX4_tellKind_34 (by decide) (fun hc h => ?_) (fun hc h => ?_)
      · refine j_aload_n C dX4_tellKind_39 rfl ?_
        refine j_get C 2 w_X4_tellKind_g2 rfl inX7 3 (by decide) kw_49 rfl rfl dX4_tellKind_40 ?_
        refine j_iload_n C dX4_tellKind_43 rfl ?_
        refine j_iload C dX4_tellKind_44 rfl ?_
        refine j_iastore 3 C h w_X4_tellKind_g3 rfl dX4_tellKind_46 (fun h => ?_)
        refine j_ws w_X4_tellKind_s3 ?_
        refine j_aload_n C dX4_tellKind_47 rfl ?_
        refine j_get C 2 w_X4_tellKind_g2 rfl inX7 4 (by decide) kw_52 rfl rfl dX4_tellKind_48 ?_
        refine j_iload_n C dX4_tellKind_51 rfl ?_
        refine j_aload_n C dX4_tellKind_52 rfl ?_
        refine j_iload_n C dX4_tellKind_53 rfl ?_
        refine j_iconst C (3) dX4_tellKind_54 ki_3 ?_
        refine j_iadd C dX4_tellKind_55 ?_
        obtain ⟨r_digit_4, h_4, h⟩ := of_bind h
        refine j_callV1 C mk_X4_digit ms_X4_digit kw_428 (c_X4_digit (gl g) (gD g) h_4) (by decide) 0 w_X4_tellKind_g0 rfl [0, 1] (hC_cons w_X4_tellKind_g0 (hC_cons w_X4_tellKind_g1 hC_nil)) rfl (w_X4_digit_a.trans w_X4_digit_a.symm) rfl rfl (Nat.le_of_ble_eq_true rfl) dX4_tellKind_56 (wput_cons w_X4_tellKind_s0 (wput_cons w_X4_tellKind_s1 wput_nil)) ?_
        refine j_iastore 4 C h w_X4_tellKind_g4 rfl dX4_tellKind_59 (fun h => ?_)
        refine j_ws w_X4_tellKind_s4 ?_
        refine j_iconst C (1) dX4_tellKind_60 ki_1 ?_
        have h := Option.some.inj h
        subst h
        exact j_zret C E rfl dX4_tellKind_61
      · refine j_iconst C (0) dX4_tellKind_37 ki_0 ?_
        have h := Option.some.inj h
        subst h
        exact j_zret C E rfl dX4_tellKind_38

def w_X4_tellLength (D : va_G) (q_this q_text q_p1 q_p1_lengths : Nat) (w_p1_froms w_p1_tos w_p1_kinds w_p1_figures : Value) (v_size : Int32) (v_statements : Int32) (v_text : (Nat → Int32)) (v_p1_closed : Int32) (v_p1_size : Int32) (v_p1_home : Int32) (v_p1_lengths : (Nat → Int32)) : va_W := [(q_this, .inr (3, [.ref q_text, .int v_size, .int v_statements])), (q_text, .inl (D.1 100, 96, .inl v_text)), (q_p1, .inr (6, [w_p1_froms, w_p1_tos, .ref q_p1_lengths, w_p1_kinds, w_p1_figures, .int v_p1_closed, .int v_p1_size, .int v_p1_home])), (q_p1_lengths, .inl (D.1 100, 8, .inl v_p1_lengths))]
theorem w_X4_tellLength_g0 {D : va_G} {q_this : Nat} {q_text : Nat} {q_p1 : Nat} {q_p1_lengths : Nat} {w_p1_froms : Value} {w_p1_tos : Value} {w_p1_kinds : Value} {w_p1_figures : Value} {v_size : Int32} {v_statements : Int32} {v_text : (Nat → Int32)} {v_p1_closed : Int32} {v_p1_size : Int32} {v_p1_home : Int32} {v_p1_lengths : (Nat → Int32)} : (w_X4_tellLength D q_this q_text q_p1 q_p1_lengths w_p1_froms w_p1_tos w_p1_kinds w_p1_figures v_size v_statements v_text v_p1_closed v_p1_size v_p1_home v_p1_lengths)[0]? = some (q_this, .inr (3, [.ref q_text, .int v_size, .int v_statements])) := rfl
theorem w_X4_tellLength_s0 {D : va_G} {q_this : Nat} {q_text : Nat} {q_p1 : Nat} {q_p1_lengths : Nat} {w_p1_froms : Value} {w_p1_tos : Value} {w_p1_kinds : Value} {w_p1_figures : Value} {v_size : Int32} {v_statements : Int32} {v_text : (Nat → Int32)} {v_p1_closed : Int32} {v_p1_size : Int32} {v_p1_home : Int32} {v_p1_lengths : (Nat → Int32)} {v_size' : Int32} {v_statements' : Int32} : (w_X4_tellLength D q_this q_text q_p1 q_p1_lengths w_p1_froms w_p1_tos w_p1_kinds w_p1_figures v_size v_statements v_text v_p1_closed v_p1_size v_p1_home v_p1_lengths).set 0 (q_this, .inr (3, [.ref q_text, .int v_size', .int v_statements'])) = (w_X4_tellLength D q_this q_text q_p1 q_p1_lengths w_p1_froms w_p1_tos w_p1_kinds w_p1_figures v_size' v_statements' v_text v_p1_closed v_p1_size v_p1_home v_p1_lengths) := rfl
theorem w_X4_tellLength_g1 {D : va_G} {q_this : Nat} {q_text : Nat} {q_p1 : Nat} {q_p1_lengths : Nat} {w_p1_froms : Value} {w_p1_tos : Value} {w_p1_kinds : Value} {w_p1_figures : Value} {v_size : Int32} {v_statements : Int32} {v_text : (Nat → Int32)} {v_p1_closed : Int32} {v_p1_size : Int32} {v_p1_home : Int32} {v_p1_lengths : (Nat → Int32)} : (w_X4_tellLength D q_this q_text q_p1 q_p1_lengths w_p1_froms w_p1_tos w_p1_kinds w_p1_figures v_size v_statements v_text v_p1_closed v_p1_size v_p1_home v_p1_lengths)[1]? = some (q_text, .inl (D.1 100, 96, .inl v_text)) := rfl
theorem w_X4_tellLength_s1 {D : va_G} {q_this : Nat} {q_text : Nat} {q_p1 : Nat} {q_p1_lengths : Nat} {w_p1_froms : Value} {w_p1_tos : Value} {w_p1_kinds : Value} {w_p1_figures : Value} {v_size : Int32} {v_statements : Int32} {v_text : (Nat → Int32)} {v_p1_closed : Int32} {v_p1_size : Int32} {v_p1_home : Int32} {v_p1_lengths : (Nat → Int32)} {v_text' : (Nat → Int32)} : (w_X4_tellLength D q_this q_text q_p1 q_p1_lengths w_p1_froms w_p1_tos w_p1_kinds w_p1_figures v_size v_statements v_text v_p1_closed v_p1_size v_p1_home v_p1_lengths).set 1 (q_text, .inl (D.1 100, 96, .inl v_text')) = (w_X4_tellLength D q_this q_text q_p1 q_p1_lengths w_p1_froms w_p1_tos w_p1_kinds w_p1_figures v_size v_statements v_text' v_p1_closed v_p1_size v_p1_home v_p1_lengths) := rfl
theorem w_X4_tellLength_g2 {D : va_G} {q_this : Nat} {q_text : Nat} {q_p1 : Nat} {q_p1_lengths : Nat} {w_p1_froms : Value} {w_p1_tos : Value} {w_p1_kinds : Value} {w_p1_figures : Value} {v_size : Int32} {v_statements : Int32} {v_text : (Nat → Int32)} {v_p1_closed : Int32} {v_p1_size : Int32} {v_p1_home : Int32} {v_p1_lengths : (Nat → Int32)} : (w_X4_tellLength D q_this q_text q_p1 q_p1_lengths w_p1_froms w_p1_tos w_p1_kinds w_p1_figures v_size v_statements v_text v_p1_closed v_p1_size v_p1_home v_p1_lengths)[2]? = some (q_p1, .inr (6, [w_p1_froms, w_p1_tos, .ref q_p1_lengths, w_p1_kinds, w_p1_figures, .int v_p1_closed, .int v_p1_size, .int v_p1_home])) := rfl
theorem w_X4_tellLength_s2 {D : va_G} {q_this : Nat} {q_text : Nat} {q_p1 : Nat} {q_p1_lengths : Nat} {w_p1_froms : Value} {w_p1_tos : Value} {w_p1_kinds : Value} {w_p1_figures : Value} {v_size : Int32} {v_statements : Int32} {v_text : (Nat → Int32)} {v_p1_closed : Int32} {v_p1_size : Int32} {v_p1_home : Int32} {v_p1_lengths : (Nat → Int32)} {v_p1_closed' : Int32} {v_p1_size' : Int32} {v_p1_home' : Int32} : (w_X4_tellLength D q_this q_text q_p1 q_p1_lengths w_p1_froms w_p1_tos w_p1_kinds w_p1_figures v_size v_statements v_text v_p1_closed v_p1_size v_p1_home v_p1_lengths).set 2 (q_p1, .inr (6, [w_p1_froms, w_p1_tos, .ref q_p1_lengths, w_p1_kinds, w_p1_figures, .int v_p1_closed', .int v_p1_size', .int v_p1_home'])) = (w_X4_tellLength D q_this q_text q_p1 q_p1_lengths w_p1_froms w_p1_tos w_p1_kinds w_p1_figures v_size v_statements v_text v_p1_closed' v_p1_size' v_p1_home' v_p1_lengths) := rfl
theorem w_X4_tellLength_g3 {D : va_G} {q_this : Nat} {q_text : Nat} {q_p1 : Nat} {q_p1_lengths : Nat} {w_p1_froms : Value} {w_p1_tos : Value} {w_p1_kinds : Value} {w_p1_figures : Value} {v_size : Int32} {v_statements : Int32} {v_text : (Nat → Int32)} {v_p1_closed : Int32} {v_p1_size : Int32} {v_p1_home : Int32} {v_p1_lengths : (Nat → Int32)} : (w_X4_tellLength D q_this q_text q_p1 q_p1_lengths w_p1_froms w_p1_tos w_p1_kinds w_p1_figures v_size v_statements v_text v_p1_closed v_p1_size v_p1_home v_p1_lengths)[3]? = some (q_p1_lengths, .inl (D.1 100, 8, .inl v_p1_lengths)) := rfl
theorem w_X4_tellLength_s3 {D : va_G} {q_this : Nat} {q_text : Nat} {q_p1 : Nat} {q_p1_lengths : Nat} {w_p1_froms : Value} {w_p1_tos : Value} {w_p1_kinds : Value} {w_p1_figures : Value} {v_size : Int32} {v_statements : Int32} {v_text : (Nat → Int32)} {v_p1_closed : Int32} {v_p1_size : Int32} {v_p1_home : Int32} {v_p1_lengths : (Nat → Int32)} {v_p1_lengths' : (Nat → Int32)} : (w_X4_tellLength D q_this q_text q_p1 q_p1_lengths w_p1_froms w_p1_tos w_p1_kinds w_p1_figures v_size v_statements v_text v_p1_closed v_p1_size v_p1_home v_p1_lengths).set 3 (q_p1_lengths, .inl (D.1 100, 8, .inl v_p1_lengths')) = (w_X4_tellLength D q_this q_text q_p1 q_p1_lengths w_p1_froms w_p1_tos w_p1_kinds w_p1_figures v_size v_statements v_text v_p1_closed v_p1_size v_p1_home v_p1_lengths') := rfl
theorem w_X4_tellLength_a {D : va_G} {q_this : Nat} {q_text : Nat} {q_p1 : Nat} {q_p1_lengths : Nat} {w_p1_froms : Value} {w_p1_tos : Value} {w_p1_kinds : Value} {w_p1_figures : Value} {v_size : Int32} {v_statements : Int32} {v_text : (Nat → Int32)} {v_p1_closed : Int32} {v_p1_size : Int32} {v_p1_home : Int32} {v_p1_lengths : (Nat → Int32)} : (w_X4_tellLength D q_this q_text q_p1 q_p1_lengths w_p1_froms w_p1_tos w_p1_kinds w_p1_figures v_size v_statements v_text v_p1_closed v_p1_size v_p1_home v_p1_lengths).map (fun q => q.1) = [q_this, q_text, q_p1, q_p1_lengths] := rfl
def f_X4_tellLength (x2 : Int32) (v_size : Int32) (v_text : (Nat → Int32)) (v_p1_size : Int32) (v_p1_lengths : (Nat → Int32)) : Option (Int32 × (Nat → Int32)) :=
  (f_X4_digit (x2 + (1 : Int32)) v_size v_text).bind (fun r_digit_1 => (f_X4_number (x2 + (2 : Int32)) v_size v_text).bind (fun r_number_2 => (f_X7_has r_digit_1 v_p1_size).bind (fun r_has_3 => (if r_has_3 = 0 then some ((0 : Int32), v_p1_lengths) else (if (1 : Int32) ≤ r_number_2 then ga r_digit_1 8 (some ((1 : Int32), upd v_p1_lengths (Int32.toNatClampNeg r_digit_1) r_number_2)) else some ((0 : Int32), v_p1_lengths))))))
set_option maxRecDepth 100000 in
set_option maxHeartbeats 4000000 in
theorem c_X4_tellLength (l : Launch) (D : va_G) {q_this q_text q_p1 q_p1_lengths : Nat} {w_p1_froms w_p1_tos w_p1_kinds w_p1_figures : Value} {v_size : Int32} {v_statements : Int32} {v_text : (Nat → Int32)} {v_p1_closed : Int32} {v_p1_size : Int32} {v_p1_home : Int32} {v_p1_lengths : (Nat → Int32)} {x2 : Int32} {o : (Int32 × (Nat → Int32))} (h : f_X4_tellLength x2 v_size v_text v_p1_size v_p1_lengths = some o) : CT l D yX4_tellLength cX4_tellLength 5 (Option.some FieldType.boolean) 3 [.ref q_this, .ref q_p1, .int x2] (w_X4_tellLength D q_this q_text q_p1 q_p1_lengths w_p1_froms w_p1_tos w_p1_kinds w_p1_figures v_size v_statements v_text v_p1_closed v_p1_size v_p1_home v_p1_lengths) (w_X4_tellLength D q_this q_text q_p1 q_p1_lengths w_p1_froms w_p1_tos w_p1_kinds w_p1_figures v_size v_statements v_text v_p1_closed v_p1_size v_p1_home o.2) (some (.int o.1)) := by
  refine CT.of mk_X4_tellLength (Nat.le_of_ble_eq_true rfl) (fun g hl hD C E => ?_)
  subst hl
  subst hD
  unfold f_X4_tellLength at h
  refine j_aload_n C dX4_tellLength_0 rfl ?_
  refine j_iload_n C dX4_tellLength_1 rfl ?_
  refine j_iconst C (1) dX4_tellLength_2 ki_1 ?_
  refine j_iadd C dX4_tellLength_3 ?_
  obtain ⟨r_digit_1, h_1, h⟩ := of_bind h
  refine j_callV1 C mk_X4_digit ms_X4_digit kw_428 (c_X4_digit (gl g) (gD g) h_1) (by decide) 0 w_X4_tellLength_g0 rfl [0, 1] (hC_cons w_X4_tellLength_g0 (hC_cons w_X4_tellLength_g1 hC_nil)) rfl (w_X4_digit_a.trans w_X4_digit_a.symm) rfl rfl (Nat.le_of_ble_eq_true rfl) dX4_tellLength_4 (wput_cons w_X4_tellLength_s0 (wput_cons w_X4_tellLength_s1 wput_nil)) ?_
  refine j_istore_n C dX4_tellLength_7 (by decide) ?_
  refine j_aload_n C dX4_tellLength_8 rfl ?_
  refine j_iload_n C dX4_tellLength_9 rfl ?_
  refine j_iconst C (2) dX4_tellLength_10 ki_2 ?_
  refine j_iadd C dX4_tellLength_11 ?_
  obtain ⟨r_number_2, h_2, h⟩ := of_bind h
  refine j_callV1 C mk_X4_number ms_X4_number kw_424 (c_X4_number (gl g) (gD g) h_2) (by decide) 0 w_X4_tellLength_g0 rfl [0, 1] (hC_cons w_X4_tellLength_g0 (hC_cons w_X4_tellLength_g1 hC_nil)) rfl (w_X4_number_a.trans w_X4_number_a.symm) rfl rfl (Nat.le_of_ble_eq_true rfl) dX4_tellLength_12 (wput_cons w_X4_tellLength_s0 (wput_cons w_X4_tellLength_s1 wput_nil)) ?_
  refine j_istore C dX4_tellLength_15 (by decide) ?_
  refine j_aload_n C dX4_tellLength_17 rfl ?_
  refine j_iload_n C dX4_tellLength_18 rfl ?_
  obtain ⟨r_has_3, h_3, h⟩ := of_bind h
  refine j_callV1 C mk_X7_has ms_X7_has kw_448 (c_X7_has (gl g) (gD g) h_3) (by decide) 2 w_X4_tellLength_g2 rfl [2] (hC_cons w_X4_tellLength_g2 hC_nil) rfl (w_X7_has_a.trans w_X7_has_a.symm) rfl rfl (Nat.le_of_ble_eq_true rfl) dX4_tellLength_19 (wput_cons w_X4_tellLength_s2 wput_nil) ?_
  refine j_if_eq C h 31 dX4_tellLength_22 (by decide) (fun hc h => ?_) (fun hc h => ?_)
  · refine j_iconst C (0) dX4_tellLength_31 ki_0 ?_
    have h := Option.some.inj h
    subst h
    exact j_zret C E rfl dX4_tellLength_32
  · refine j_iload C dX4_tellLength_25 rfl ?_
    refine j_iconst C (1) dX4_tellLength_27 ki_1 ?_
    refine j_icmp_ge C h 33 dX4_tellLength_28 (by decide) (fun hc h => ?_) (fun hc h => ?_)
    · refine j_aload_n C dX4_tellLength_33 rfl ?_
      refine j_get C 2 w_X4_tellLength_g2 rfl inX7 2 (by decide) kw_46 rfl rfl dX4_tellLength_34 ?_
      refine j_iload_n C dX4_tellLength_37 rfl ?_
      refine j_iload C dX4_tellLength_38 rfl ?_
      refine j_iastore 3 C h w_X4_tellLength_g3 rfl dX4_tellLength_40 (fun h => ?_)
      refine j_ws w_X4_tellLength_s3 ?_
      refine j_iconst C (1) dX4_tellLength_41 ki_1 ?_
      have h := Option.some.inj h
      subst h
      exact j_zret C E rfl dX4_tellLength_42
    · refine j_iconst C (0) dX4_tellLength_31 ki_0 ?_
      have h := Option.some.inj h
      subst h
      exact j_zret C E rfl dX4_tellLength_32

def w_X4_tellTurn (D : va_G) (q_this q_text q_p1 : Nat) (w_p1_froms w_p1_tos w_p1_lengths w_p1_kinds w_p1_figures : Value) (v_size : Int32) (v_statements : Int32) (v_text : (Nat → Int32)) (v_p1_closed : Int32) (v_p1_size : Int32) (v_p1_home : Int32) : va_W := [(q_this, .inr (3, [.ref q_text, .int v_size, .int v_statements])), (q_text, .inl (D.1 100, 96, .inl v_text)), (q_p1, .inr (6, [w_p1_froms, w_p1_tos, w_p1_lengths, w_p1_kinds, w_p1_figures, .int v_p1_closed, .int v_p1_size, .int v_p1_home]))]
theorem w_X4_tellTurn_g0 {D : va_G} {q_this : Nat} {q_text : Nat} {q_p1 : Nat} {w_p1_froms : Value} {w_p1_tos : Value} {w_p1_lengths : Value} {w_p1_kinds : Value} {w_p1_figures : Value} {v_size : Int32} {v_statements : Int32} {v_text : (Nat → Int32)} {v_p1_closed : Int32} {v_p1_size : Int32} {v_p1_home : Int32} : (w_X4_tellTurn D q_this q_text q_p1 w_p1_froms w_p1_tos w_p1_lengths w_p1_kinds w_p1_figures v_size v_statements v_text v_p1_closed v_p1_size v_p1_home)[0]? = some (q_this, .inr (3, [.ref q_text, .int v_size, .int v_statements])) := rfl
theorem w_X4_tellTurn_s0 {D : va_G} {q_this : Nat} {q_text : Nat} {q_p1 : Nat} {w_p1_froms : Value} {w_p1_tos : Value} {w_p1_lengths : Value} {w_p1_kinds : Value} {w_p1_figures : Value} {v_size : Int32} {v_statements : Int32} {v_text : (Nat → Int32)} {v_p1_closed : Int32} {v_p1_size : Int32} {v_p1_home : Int32} {v_size' : Int32} {v_statements' : Int32} : (w_X4_tellTurn D q_this q_text q_p1 w_p1_froms w_p1_tos w_p1_lengths w_p1_kinds w_p1_figures v_size v_statements v_text v_p1_closed v_p1_size v_p1_home).set 0 (q_this, .inr (3, [.ref q_text, .int v_size', .int v_statements'])) = (w_X4_tellTurn D q_this q_text q_p1 w_p1_froms w_p1_tos w_p1_lengths w_p1_kinds w_p1_figures v_size' v_statements' v_text v_p1_closed v_p1_size v_p1_home) := rfl
theorem w_X4_tellTurn_g1 {D : va_G} {q_this : Nat} {q_text : Nat} {q_p1 : Nat} {w_p1_froms : Value} {w_p1_tos : Value} {w_p1_lengths : Value} {w_p1_kinds : Value} {w_p1_figures : Value} {v_size : Int32} {v_statements : Int32} {v_text : (Nat → Int32)} {v_p1_closed : Int32} {v_p1_size : Int32} {v_p1_home : Int32} : (w_X4_tellTurn D q_this q_text q_p1 w_p1_froms w_p1_tos w_p1_lengths w_p1_kinds w_p1_figures v_size v_statements v_text v_p1_closed v_p1_size v_p1_home)[1]? = some (q_text, .inl (D.1 100, 96, .inl v_text)) := rfl
theorem w_X4_tellTurn_s1 {D : va_G} {q_this : Nat} {q_text : Nat} {q_p1 : Nat} {w_p1_froms : Value} {w_p1_tos : Value} {w_p1_lengths : Value} {w_p1_kinds : Value} {w_p1_figures : Value} {v_size : Int32} {v_statements : Int32} {v_text : (Nat → Int32)} {v_p1_closed : Int32} {v_p1_size : Int32} {v_p1_home : Int32} {v_text' : (Nat → Int32)} : (w_X4_tellTurn D q_this q_text q_p1 w_p1_froms w_p1_tos w_p1_lengths w_p1_kinds w_p1_figures v_size v_statements v_text v_p1_closed v_p1_size v_p1_home).set 1 (q_text, .inl (D.1 100, 96, .inl v_text')) = (w_X4_tellTurn D q_this q_text q_p1 w_p1_froms w_p1_tos w_p1_lengths w_p1_kinds w_p1_figures v_size v_statements v_text' v_p1_closed v_p1_size v_p1_home) := rfl
theorem w_X4_tellTurn_g2 {D : va_G} {q_this : Nat} {q_text : Nat} {q_p1 : Nat} {w_p1_froms : Value} {w_p1_tos : Value} {w_p1_lengths : Value} {w_p1_kinds : Value} {w_p1_figures : Value} {v_size : Int32} {v_statements : Int32} {v_text : (Nat → Int32)} {v_p1_closed : Int32} {v_p1_size : Int32} {v_p1_home : Int32} : (w_X4_tellTurn D q_this q_text q_p1 w_p1_froms w_p1_tos w_p1_lengths w_p1_kinds w_p1_figures v_size v_statements v_text v_p1_closed v_p1_size v_p1_home)[2]? = some (q_p1, .inr (6, [w_p1_froms, w_p1_tos, w_p1_lengths, w_p1_kinds, w_p1_figures, .int v_p1_closed, .int v_p1_size, .int v_p1_home])) := rfl
theorem w_X4_tellTurn_s2 {D : va_G} {q_this : Nat} {q_text : Nat} {q_p1 : Nat} {w_p1_froms : Value} {w_p1_tos : Value} {w_p1_lengths : Value} {w_p1_kinds : Value} {w_p1_figures : Value} {v_size : Int32} {v_statements : Int32} {v_text : (Nat → Int32)} {v_p1_closed : Int32} {v_p1_size : Int32} {v_p1_home : Int32} {v_p1_closed' : Int32} {v_p1_size' : Int32} {v_p1_home' : Int32} : (w_X4_tellTurn D q_this q_text q_p1 w_p1_froms w_p1_tos w_p1_lengths w_p1_kinds w_p1_figures v_size v_statements v_text v_p1_closed v_p1_size v_p1_home).set 2 (q_p1, .inr (6, [w_p1_froms, w_p1_tos, w_p1_lengths, w_p1_kinds, w_p1_figures, .int v_p1_closed', .int v_p1_size', .int v_p1_home'])) = (w_X4_tellTurn D q_this q_text q_p1 w_p1_froms w_p1_tos w_p1_lengths w_p1_kinds w_p1_figures v_size v_statements v_text v_p1_closed' v_p1_size' v_p1_home') := rfl
theorem w_X4_tellTurn_a {D : va_G} {q_this : Nat} {q_text : Nat} {q_p1 : Nat} {w_p1_froms : Value} {w_p1_tos : Value} {w_p1_lengths : Value} {w_p1_kinds : Value} {w_p1_figures : Value} {v_size : Int32} {v_statements : Int32} {v_text : (Nat → Int32)} {v_p1_closed : Int32} {v_p1_size : Int32} {v_p1_home : Int32} : (w_X4_tellTurn D q_this q_text q_p1 w_p1_froms w_p1_tos w_p1_lengths w_p1_kinds w_p1_figures v_size v_statements v_text v_p1_closed v_p1_size v_p1_home).map (fun q => q.1) = [q_this, q_text, q_p1] := rfl
def f_X4_tellTurn (x2 : Int32) (v_size : Int32) (v_text : (Nat → Int32)) (v_p1_closed : Int32) (v_p1_size : Int32) : Option (Int32 × Int32) :=
  (f_X4_digit (x2 + (1 : Int32)) v_size v_text).bind (fun r_digit_1 => (f_X7_has r_digit_1 v_p1_size).bind (fun r_has_2 => (if r_has_2 = 0 then some ((0 : Int32), v_p1_closed) else (f_X7_openOrClose r_digit_1 v_p1_closed).bind (fun r_openOrClose_3 => some ((1 : Int32), r_openOrClose_3)))))
set_option maxRecDepth 100000 in
set_option maxHeartbeats 4000000 in
theorem c_X4_tellTurn (l : Launch) (D : va_G) {q_this q_text q_p1 : Nat} {w_p1_froms w_p1_tos w_p1_lengths w_p1_kinds w_p1_figures : Value} {v_size : Int32} {v_statements : Int32} {v_text : (Nat → Int32)} {v_p1_closed : Int32} {v_p1_size : Int32} {v_p1_home : Int32} {x2 : Int32} {o : (Int32 × Int32)} (h : f_X4_tellTurn x2 v_size v_text v_p1_closed v_p1_size = some o) : CT l D yX4_tellTurn cX4_tellTurn 4 (Option.some FieldType.boolean) 2 [.ref q_this, .ref q_p1, .int x2] (w_X4_tellTurn D q_this q_text q_p1 w_p1_froms w_p1_tos w_p1_lengths w_p1_kinds w_p1_figures v_size v_statements v_text v_p1_closed v_p1_size v_p1_home) (w_X4_tellTurn D q_this q_text q_p1 w_p1_froms w_p1_tos w_p1_lengths w_p1_kinds w_p1_figures v_size v_statements v_text o.2 v_p1_size v_p1_home) (some (.int o.1)) := by
  refine CT.of mk_X4_tellTurn (Nat.le_of_ble_eq_true rfl) (fun g hl hD C E => ?_)
  subst hl
  subst hD
  unfold f_X4_tellTurn at h
  refine j_aload_n C dX4_tellTurn_0 rfl ?_
  refine j_iload_n C dX4_tellTurn_1 rfl ?_
  refine j_iconst C (1) dX4_tellTurn_2 ki_1 ?_
  refine j_iadd C dX4_tellTurn_3 ?_
  obtain ⟨r_digit_1, h_1, h⟩ := of_bind h
  refine j_callV1 C mk_X4_digit ms_X4_digit kw_428 (c_X4_digit (gl g) (gD g) h_1) (by decide) 0 w_X4_tellTurn_g0 rfl [0, 1] (hC_cons w_X4_tellTurn_g0 (hC_cons w_X4_tellTurn_g1 hC_nil)) rfl (w_X4_digit_a.trans w_X4_digit_a.symm) rfl rfl (Nat.le_of_ble_eq_true rfl) dX4_tellTurn_4 (wput_cons w_X4_tellTurn_s0 (wput_cons w_X4_tellTurn_s1 wput_nil)) ?_
  refine j_istore_n C dX4_tellTurn_7 (by decide) ?_
  refine j_aload_n C dX4_tellTurn_8 rfl ?_
  refine j_iload_n C dX4_tellTurn_9 rfl ?_
  obtain ⟨r_has_2, h_2, h⟩ := of_bind h
  refine j_callV1 C mk_X7_has ms_X7_has kw_448 (c_X7_has (gl g) (gD g) h_2) (by decide) 2 w_X4_tellTurn_g2 rfl [2] (hC_cons w_X4_tellTurn_g2 hC_nil) rfl (w_X7_has_a.trans w_X7_has_a.symm) rfl rfl (Nat.le_of_ble_eq_true rfl) dX4_tellTurn_10 (wput_cons w_X4_tellTurn_s2 wput_nil) ?_
  refine j_if_ne C h 18 dX4_tellTurn_13 (by decide) (fun hc h => ?_) (fun hc h => ?_)
  · refine j_iconst C (0) dX4_tellTurn_16 ki_0 ?_
    have h := Option.some.inj h
    subst h
    exact j_zret C E rfl dX4_tellTurn_17
  · refine j_aload_n C dX4_tellTurn_18 rfl ?_
    refine j_iload_n C dX4_tellTurn_19 rfl ?_
    obtain ⟨r_openOrClose_3, h_3, h⟩ := of_bind h
    refine j_callV0 C mk_X7_openOrClose ms_X7_openOrClose kw_460 (c_X7_openOrClose (gl g) (gD g) h_3) (by decide) 2 w_X4_tellTurn_g2 rfl [2] (hC_cons w_X4_tellTurn_g2 hC_nil) rfl (w_X7_openOrClose_a.trans w_X7_openOrClose_a.symm) rfl rfl (Nat.le_of_ble_eq_true rfl) dX4_tellTurn_20 (wput_cons w_X4_tellTurn_s2 wput_nil) ?_
    refine j_iconst C (1) dX4_tellTurn_23 ki_1 ?_
    have h := Option.some.inj h
    subst h
    exact j_zret C E rfl dX4_tellTurn_24

def w_X4_tell (D : va_G) (q_this q_text q_p1 q_p1_froms q_p1_tos q_p1_lengths q_p1_kinds q_p1_figures : Nat) (v_size : Int32) (v_statements : Int32) (v_text : (Nat → Int32)) (v_p1_closed : Int32) (v_p1_size : Int32) (v_p1_home : Int32) (v_p1_froms : (Nat → Int32)) (v_p1_tos : (Nat → Int32)) (v_p1_lengths : (Nat → Int32)) (v_p1_kinds : (Nat → Int32)) (v_p1_figures : (Nat → Int32)) : va_W := [(q_this, .inr (3, [.ref q_text, .int v_size, .int v_statements])), (q_text, .inl (D.1 100, 96, .inl v_text)), (q_p1, .inr (6, [.ref q_p1_froms, .ref q_p1_tos, .ref q_p1_lengths, .ref q_p1_kinds, .ref q_p1_figures, .int v_p1_closed, .int v_p1_size, .int v_p1_home])), (q_p1_froms, .inl (D.1 100, 8, .inl v_p1_froms)), (q_p1_tos, .inl (D.1 100, 8, .inl v_p1_tos)), (q_p1_lengths, .inl (D.1 100, 8, .inl v_p1_lengths)), (q_p1_kinds, .inl (D.1 100, 8, .inl v_p1_kinds)), (q_p1_figures, .inl (D.1 100, 8, .inl v_p1_figures))]
theorem w_X4_tell_g0 {D : va_G} {q_this : Nat} {q_text : Nat} {q_p1 : Nat} {q_p1_froms : Nat} {q_p1_tos : Nat} {q_p1_lengths : Nat} {q_p1_kinds : Nat} {q_p1_figures : Nat} {v_size : Int32} {v_statements : Int32} {v_text : (Nat → Int32)} {v_p1_closed : Int32} {v_p1_size : Int32} {v_p1_home : Int32} {v_p1_froms : (Nat → Int32)} {v_p1_tos : (Nat → Int32)} {v_p1_lengths : (Nat → Int32)} {v_p1_kinds : (Nat → Int32)} {v_p1_figures : (Nat → Int32)} : (w_X4_tell D q_this q_text q_p1 q_p1_froms q_p1_tos q_p1_lengths q_p1_kinds q_p1_figures v_size v_statements v_text v_p1_closed v_p1_size v_p1_home v_p1_froms v_p1_tos v_p1_lengths v_p1_kinds v_p1_figures)[0]? = some (q_this, .inr (3, [.ref q_text, .int v_size, .int v_statements])) := rfl
theorem w_X4_tell_s0 {D : va_G} {q_this : Nat} {q_text : Nat} {q_p1 : Nat} {q_p1_froms : Nat} {q_p1_tos : Nat} {q_p1_lengths : Nat} {q_p1_kinds : Nat} {q_p1_figures : Nat} {v_size : Int32} {v_statements : Int32} {v_text : (Nat → Int32)} {v_p1_closed : Int32} {v_p1_size : Int32} {v_p1_home : Int32} {v_p1_froms : (Nat → Int32)} {v_p1_tos : (Nat → Int32)} {v_p1_lengths : (Nat → Int32)} {v_p1_kinds : (Nat → Int32)} {v_p1_figures : (Nat → Int32)} {v_size' : Int32} {v_statements' : Int32} : (w_X4_tell D q_this q_text q_p1 q_p1_froms q_p1_tos q_p1_lengths q_p1_kinds q_p1_figures v_size v_statements v_text v_p1_closed v_p1_size v_p1_home v_p1_froms v_p1_tos v_p1_lengths v_p1_kinds v_p1_figures).set 0 (q_this, .inr (3, [.ref q_text, .int v_size', .int v_statements'])) = (w_X4_tell D q_this q_text q_p1 q_p1_froms q_p1_tos q_p1_lengths q_p1_kinds q_p1_figures v_size' v_statements' v_text v_p1_closed v_p1_size v_p1_home v_p1_froms v_p1_tos v_p1_lengths v_p1_kinds v_p1_figures) := rfl
theorem w_X4_tell_g1 {D : va_G} {q_this : Nat} {q_text : Nat} {q_p1 : Nat} {q_p1_froms : Nat} {q_p1_tos : Nat} {q_p1_lengths : Nat} {q_p1_kinds : Nat} {q_p1_figures : Nat} {v_size : Int32} {v_statements : Int32} {v_text : (Nat → Int32)} {v_p1_closed : Int32} {v_p1_size : Int32} {v_p1_home : Int32} {v_p1_froms : (Nat → Int32)} {v_p1_tos : (Nat → Int32)} {v_p1_lengths : (Nat → Int32)} {v_p1_kinds : (Nat → Int32)} {v_p1_figures : (Nat → Int32)} : (w_X4_tell D q_this q_text q_p1 q_p1_froms q_p1_tos q_p1_lengths q_p1_kinds q_p1_figures v_size v_statements v_text v_p1_closed v_p1_size v_p1_home v_p1_froms v_p1_tos v_p1_lengths v_p1_kinds v_p1_figures)[1]? = some (q_text, .inl (D.1 100, 96, .inl v_text)) := rfl
theorem w_X4_tell_s1 {D : va_G} {q_this : Nat} {q_text : Nat} {q_p1 : Nat} {q_p1_froms : Nat} {q_p1_tos : Nat} {q_p1_lengths : Nat} {q_p1_kinds : Nat} {q_p1_figures : Nat} {v_size : Int32} {v_statements : Int32} {v_text : (Nat → Int32)} {v_p1_closed : Int32} {v_p1_size : Int32} {v_p1_home : Int32} {v_p1_froms : (Nat → Int32)} {v_p1_tos : (Nat → Int32)} {v_p1_lengths : (Nat → Int32)} {v_p1_kinds : (Nat → Int32)} {v_p1_figures : (Nat → Int32)} {v_text' : (Nat → Int32)} : (w_X4_tell D q_this q_text q_p1 q_p1_froms q_p1_tos q_p1_lengths q_p1_kinds q_p1_figures v_size v_statements v_text v_p1_closed v_p1_size v_p1_home v_p1_froms v_p1_tos v_p1_lengths v_p1_kinds v_p1_figures).set 1 (q_text, .inl (D.1 100, 96, .inl v_text')) = (w_X4_tell D q_this q_text q_p1 q_p1_froms q_p1_tos q_p1_lengths q_p1_kinds q_p1_figures v_size v_statements v_text' v_p1_closed v_p1_size v_p1_home v_p1_froms v_p1_tos v_p1_lengths v_p1_kinds v_p1_figures) := rfl
theorem w_X4_tell_g2 {D : va_G} {q_this : Nat} {q_text : Nat} {q_p1 : Nat} {q_p1_froms : Nat} {q_p1_tos : Nat} {q_p1_lengths : Nat} {q_p1_kinds : Nat} {q_p1_figures : Nat} {v_size : Int32} {v_statements : Int32} {v_text : (Nat → Int32)} {v_p1_closed : Int32} {v_p1_size : Int32} {v_p1_home : Int32} {v_p1_froms : (Nat → Int32)} {v_p1_tos : (Nat → Int32)} {v_p1_lengths : (Nat → Int32)} {v_p1_kinds : (Nat → Int32)} {v_p1_figures : (Nat → Int32)} : (w_X4_tell D q_this q_text q_p1 q_p1_froms q_p1_tos q_p1_lengths q_p1_kinds q_p1_figures v_size v_statements v_text v_p1_closed v_p1_size v_p1_home v_p1_froms v_p1_tos v_p1_lengths v_p1_kinds v_p1_figures)[2]? = some (q_p1, .inr (6, [.ref q_p1_froms, .ref q_p1_tos, .ref q_p1_lengths, .ref q_p1_kinds, .ref q_p1_figures, .int v_p1_closed, .int v_p1_size, .int v_p1_home])) := rfl
theorem w_X4_tell_s2 {D : va_G} {q_this : Nat} {q_text : Nat} {q_p1 : Nat} {q_p1_froms : Nat} {q_p1_tos : Nat} {q_p1_lengths : Nat} {q_p1_kinds : Nat} {q_p1_figures : Nat} {v_size : Int32} {v_statements : Int32} {v_text : (Nat → Int32)} {v_p1_closed : Int32} {v_p1_size : Int32} {v_p1_home : Int32} {v_p1_froms : (Nat → Int32)} {v_p1_tos : (Nat → Int32)} {v_p1_lengths : (Nat → Int32)} {v_p1_kinds : (Nat → Int32)} {v_p1_figures : (Nat → Int32)} {v_p1_closed' : Int32} {v_p1_size' : Int32} {v_p1_home' : Int32} : (w_X4_tell D q_this q_text q_p1 q_p1_froms q_p1_tos q_p1_lengths q_p1_kinds q_p1_figures v_size v_statements v_text v_p1_closed v_p1_size v_p1_home v_p1_froms v_p1_tos v_p1_lengths v_p1_kinds v_p1_figures).set 2 (q_p1, .inr (6, [.ref q_p1_froms, .ref q_p1_tos, .ref q_p1_lengths, .ref q_p1_kinds, .ref q_p1_figures, .int v_p1_closed', .int v_p1_size', .int v_p1_home'])) = (w_X4_tell D q_this q_text q_p1 q_p1_froms q_p1_tos q_p1_lengths q_p1_kinds q_p1_figures v_size v_statements v_text v_p1_closed' v_p1_size' v_p1_home' v_p1_froms v_p1_tos v_p1_lengths v_p1_kinds v_p1_figures) := rfl
theorem w_X4_tell_g3 {D : va_G} {q_this : Nat} {q_text : Nat} {q_p1 : Nat} {q_p1_froms : Nat} {q_p1_tos : Nat} {q_p1_lengths : Nat} {q_p1_kinds : Nat} {q_p1_figures : Nat} {v_size : Int32} {v_statements : Int32} {v_text : (Nat → Int32)} {v_p1_closed : Int32} {v_p1_size : Int32} {v_p1_home : Int32} {v_p1_froms : (Nat → Int32)} {v_p1_tos : (Nat → Int32)} {v_p1_lengths : (Nat → Int32)} {v_p1_kinds : (Nat → Int32)} {v_p1_figures : (Nat → Int32)} : (w_X4_tell D q_this q_text q_p1 q_p1_froms q_p1_tos q_p1_lengths q_p1_kinds q_p1_figures v_size v_statements v_text v_p1_closed v_p1_size v_p1_home v_p1_froms v_p1_tos v_p1_lengths v_p1_kinds v_p1_figures)[3]? = some (q_p1_froms, .inl (D.1 100, 8, .inl v_p1_froms)) := rfl
theorem w_X4_tell_s3 {D : va_G} {q_this : Nat} {q_text : Nat} {q_p1 : Nat} {q_p1_froms : Nat} {q_p1_tos : Nat} {q_p1_lengths : Nat} {q_p1_kinds : Nat} {q_p1_figures : Nat} {v_size : Int32} {v_statements : Int32} {v_text : (Nat → Int32)} {v_p1_closed : Int32} {v_p1_size : Int32} {v_p1_home : Int32} {v_p1_froms : (Nat → Int32)} {v_p1_tos : (Nat → Int32)} {v_p1_lengths : (Nat → Int32)} {v_p1_kinds : (Nat → Int32)} {v_p1_figures : (Nat → Int32)} {v_p1_froms' : (Nat → Int32)} : (w_X4_tell D q_this q_text q_p1 q_p1_froms q_p1_tos q_p1_lengths q_p1_kinds q_p1_figures v_size v_statements v_text v_p1_closed v_p1_size v_p1_home v_p1_froms v_p1_tos v_p1_lengths v_p1_kinds v_p1_figures).set 3 (q_p1_froms, .inl (D.1 100, 8, .inl v_p1_froms')) = (w_X4_tell D q_this q_text q_p1 q_p1_froms q_p1_tos q_p1_lengths q_p1_kinds q_p1_figures v_size v_statements v_text v_p1_closed v_p1_size v_p1_home v_p1_froms' v_p1_tos v_p1_lengths v_p1_kinds v_p1_figures) := rfl
theorem w_X4_tell_g4 {D : va_G} {q_this : Nat} {q_text : Nat} {q_p1 : Nat} {q_p1_froms : Nat} {q_p1_tos : Nat} {q_p1_lengths : Nat} {q_p1_kinds : Nat} {q_p1_figures : Nat} {v_size : Int32} {v_statements : Int32} {v_text : (Nat → Int32)} {v_p1_closed : Int32} {v_p1_size : Int32} {v_p1_home : Int32} {v_p1_froms : (Nat → Int32)} {v_p1_tos : (Nat → Int32)} {v_p1_lengths : (Nat → Int32)} {v_p1_kinds : (Nat → Int32)} {v_p1_figures : (Nat → Int32)} : (w_X4_tell D q_this q_text q_p1 q_p1_froms q_p1_tos q_p1_lengths q_p1_kinds q_p1_figures v_size v_statements v_text v_p1_closed v_p1_size v_p1_home v_p1_froms v_p1_tos v_p1_lengths v_p1_kinds v_p1_figures)[4]? = some (q_p1_tos, .inl (D.1 100, 8, .inl v_p1_tos)) := rfl
theorem w_X4_tell_s4 {D : va_G} {q_this : Nat} {q_text : Nat} {q_p1 : Nat} {q_p1_froms : Nat} {q_p1_tos : Nat} {q_p1_lengths : Nat} {q_p1_kinds : Nat} {q_p1_figures : Nat} {v_size : Int32} {v_statements : Int32} {v_text : (Nat → Int32)} {v_p1_closed : Int32} {v_p1_size : Int32} {v_p1_home : Int32} {v_p1_froms : (Nat → Int32)} {v_p1_tos : (Nat → Int32)} {v_p1_lengths : (Nat → Int32)} {v_p1_kinds : (Nat → Int32)} {v_p1_figures : (Nat → Int32)} {v_p1_tos' : (Nat → Int32)} : (w_X4_tell D q_this q_text q_p1 q_p1_froms q_p1_tos q_p1_lengths q_p1_kinds q_p1_figures v_size v_statements v_text v_p1_closed v_p1_size v_p1_home v_p1_froms v_p1_tos v_p1_lengths v_p1_kinds v_p1_figures).set 4 (q_p1_tos, .inl (D.1 100, 8, .inl v_p1_tos')) = (w_X4_tell D q_this q_text q_p1 q_p1_froms q_p1_tos q_p1_lengths q_p1_kinds q_p1_figures v_size v_statements v_text v_p1_closed v_p1_size v_p1_home v_p1_froms v_p1_tos' v_p1_lengths v_p1_kinds v_p1_figures) := rfl
theorem w_X4_tell_g5 {D : va_G} {q_this : Nat} {q_text : Nat} {q_p1 : Nat} {q_p1_froms : Nat} {q_p1_tos : Nat} {q_p1_lengths : Nat} {q_p1_kinds : Nat} {q_p1_figures : Nat} {v_size : Int32} {v_statements : Int32} {v_text : (Nat → Int32)} {v_p1_closed : Int32} {v_p1_size : Int32} {v_p1_home : Int32} {v_p1_froms : (Nat → Int32)} {v_p1_tos : (Nat → Int32)} {v_p1_lengths : (Nat → Int32)} {v_p1_kinds : (Nat → Int32)} {v_p1_figures : (Nat → Int32)} : (w_X4_tell D q_this q_text q_p1 q_p1_froms q_p1_tos q_p1_lengths q_p1_kinds q_p1_figures v_size v_statements v_text v_p1_closed v_p1_size v_p1_home v_p1_froms v_p1_tos v_p1_lengths v_p1_kinds v_p1_figures)[5]? = some (q_p1_lengths, .inl (D.1 100, 8, .inl v_p1_lengths)) := rfl
theorem w_X4_tell_s5 {D : va_G} {q_this : Nat} {q_text : Nat} {q_p1 : Nat} {q_p1_froms : Nat} {q_p1_tos : Nat} {q_p1_lengths : Nat} {q_p1_kinds : Nat} {q_p1_figures : Nat} {v_size : Int32} {v_statements : Int32} {v_text : (Nat → Int32)} {v_p1_closed : Int32} {v_p1_size : Int32} {v_p1_home : Int32} {v_p1_froms : (Nat → Int32)} {v_p1_tos : (Nat → Int32)} {v_p1_lengths : (Nat → Int32)} {v_p1_kinds : (Nat → Int32)} {v_p1_figures : (Nat → Int32)} {v_p1_lengths' : (Nat → Int32)} : (w_X4_tell D q_this q_text q_p1 q_p1_froms q_p1_tos q_p1_lengths q_p1_kinds q_p1_figures v_size v_statements v_text v_p1_closed v_p1_size v_p1_home v_p1_froms v_p1_tos v_p1_lengths v_p1_kinds v_p1_figures).set 5 (q_p1_lengths, .inl (D.1 100, 8, .inl v_p1_lengths')) = (w_X4_tell D q_this q_text q_p1 q_p1_froms q_p1_tos q_p1_lengths q_p1_kinds q_p1_figures v_size v_statements v_text v_p1_closed v_p1_size v_p1_home v_p1_froms v_p1_tos v_p1_lengths' v_p1_kinds v_p1_figures) := rfl
theorem w_X4_tell_g6 {D : va_G} {q_this : Nat} {q_text : Nat} {q_p1 : Nat} {q_p1_froms : Nat} {q_p1_tos : Nat} {q_p1_lengths : Nat} {q_p1_kinds : Nat} {q_p1_figures : Nat} {v_size : Int32} {v_statements : Int32} {v_text : (Nat → Int32)} {v_p1_closed : Int32} {v_p1_size : Int32} {v_p1_home : Int32} {v_p1_froms : (Nat → Int32)} {v_p1_tos : (Nat → Int32)} {v_p1_lengths : (Nat → Int32)} {v_p1_kinds : (Nat → Int32)} {v_p1_figures : (Nat → Int32)} : (w_X4_tell D q_this q_text q_p1 q_p1_froms q_p1_tos q_p1_lengths q_p1_kinds q_p1_figures v_size v_statements v_text v_p1_closed v_p1_size v_p1_home v_p1_froms v_p1_tos v_p1_lengths v_p1_kinds v_p1_figures)[6]? = some (q_p1_kinds, .inl (D.1 100, 8, .inl v_p1_kinds)) := rfl
theorem w_X4_tell_s6 {D : va_G} {q_this : Nat} {q_text : Nat} {q_p1 : Nat} {q_p1_froms : Nat} {q_p1_tos : Nat} {q_p1_lengths : Nat} {q_p1_kinds : Nat} {q_p1_figures : Nat} {v_size : Int32} {v_statements : Int32} {v_text : (Nat → Int32)} {v_p1_closed : Int32} {v_p1_size : Int32} {v_p1_home : Int32} {v_p1_froms : (Nat → Int32)} {v_p1_tos : (Nat → Int32)} {v_p1_lengths : (Nat → Int32)} {v_p1_kinds : (Nat → Int32)} {v_p1_figures : (Nat → Int32)} {v_p1_kinds' : (Nat → Int32)} : (w_X4_tell D q_this q_text q_p1 q_p1_froms q_p1_tos q_p1_lengths q_p1_kinds q_p1_figures v_size v_statements v_text v_p1_closed v_p1_size v_p1_home v_p1_froms v_p1_tos v_p1_lengths v_p1_kinds v_p1_figures).set 6 (q_p1_kinds, .inl (D.1 100, 8, .inl v_p1_kinds')) = (w_X4_tell D q_this q_text q_p1 q_p1_froms q_p1_tos q_p1_lengths q_p1_kinds q_p1_figures v_size v_statements v_text v_p1_closed v_p1_size v_p1_home v_p1_froms v_p1_tos v_p1_lengths v_p1_kinds' v_p1_figures) := rfl
theorem w_X4_tell_g7 {D : va_G} {q_this : Nat} {q_text : Nat} {q_p1 : Nat} {q_p1_froms : Nat} {q_p1_tos : Nat} {q_p1_lengths : Nat} {q_p1_kinds : Nat} {q_p1_figures : Nat} {v_size : Int32} {v_statements : Int32} {v_text : (Nat → Int32)} {v_p1_closed : Int32} {v_p1_size : Int32} {v_p1_home : Int32} {v_p1_froms : (Nat → Int32)} {v_p1_tos : (Nat → Int32)} {v_p1_lengths : (Nat → Int32)} {v_p1_kinds : (Nat → Int32)} {v_p1_figures : (Nat → Int32)} : (w_X4_tell D q_this q_text q_p1 q_p1_froms q_p1_tos q_p1_lengths q_p1_kinds q_p1_figures v_size v_statements v_text v_p1_closed v_p1_size v_p1_home v_p1_froms v_p1_tos v_p1_lengths v_p1_kinds v_p1_figures)[7]? = some (q_p1_figures, .inl (D.1 100, 8, .inl v_p1_figures)) := rfl
theorem w_X4_tell_s7 {D : va_G} {q_this : Nat} {q_text : Nat} {q_p1 : Nat} {q_p1_froms : Nat} {q_p1_tos : Nat} {q_p1_lengths : Nat} {q_p1_kinds : Nat} {q_p1_figures : Nat} {v_size : Int32} {v_statements : Int32} {v_text : (Nat → Int32)} {v_p1_closed : Int32} {v_p1_size : Int32} {v_p1_home : Int32} {v_p1_froms : (Nat → Int32)} {v_p1_tos : (Nat → Int32)} {v_p1_lengths : (Nat → Int32)} {v_p1_kinds : (Nat → Int32)} {v_p1_figures : (Nat → Int32)} {v_p1_figures' : (Nat → Int32)} : (w_X4_tell D q_this q_text q_p1 q_p1_froms q_p1_tos q_p1_lengths q_p1_kinds q_p1_figures v_size v_statements v_text v_p1_closed v_p1_size v_p1_home v_p1_froms v_p1_tos v_p1_lengths v_p1_kinds v_p1_figures).set 7 (q_p1_figures, .inl (D.1 100, 8, .inl v_p1_figures')) = (w_X4_tell D q_this q_text q_p1 q_p1_froms q_p1_tos q_p1_lengths q_p1_kinds q_p1_figures v_size v_statements v_text v_p1_closed v_p1_size v_p1_home v_p1_froms v_p1_tos v_p1_lengths v_p1_kinds v_p1_figures') := rfl
theorem w_X4_tell_a {D : va_G} {q_this : Nat} {q_text : Nat} {q_p1 : Nat} {q_p1_froms : Nat} {q_p1_tos : Nat} {q_p1_lengths : Nat} {q_p1_kinds : Nat} {q_p1_figures : Nat} {v_size : Int32} {v_statements : Int32} {v_text : (Nat → Int32)} {v_p1_closed : Int32} {v_p1_size : Int32} {v_p1_home : Int32} {v_p1_froms : (Nat → Int32)} {v_p1_tos : (Nat → Int32)} {v_p1_lengths : (Nat → Int32)} {v_p1_kinds : (Nat → Int32)} {v_p1_figures : (Nat → Int32)} : (w_X4_tell D q_this q_text q_p1 q_p1_froms q_p1_tos q_p1_lengths q_p1_kinds q_p1_figures v_size v_statements v_text v_p1_closed v_p1_size v_p1_home v_p1_froms v_p1_tos v_p1_lengths v_p1_kinds v_p1_figures).map (fun q => q.1) = [q_this, q_text, q_p1, q_p1_froms, q_p1_tos, q_p1_lengths, q_p1_kinds, q_p1_figures] := rfl
def f_X4_tell (x2 : Int32) (v_size : Int32) (v_text : (Nat → Int32)) (v_p1_closed : Int32) (v_p1_size : Int32) (v_p1_home : Int32) (v_p1_froms : (Nat → Int32)) (v_p1_tos : (Nat → Int32)) (v_p1_lengths : (Nat → Int32)) (v_p1_kinds : (Nat → Int32)) (v_p1_figures : (Nat → Int32)) : Option (Int32 × Int32 × Int32 × Int32 × (Nat → Int32) × (Nat → Int32) × (Nat → Int32) × (Nat → Int32) × (Nat → Int32)) :=
  (f_X4_at x2 v_size v_text).bind (fun r_at_1 => (if r_at_1 = 107 then (f_X4_tellKind x2 v_size v_text v_p1_size v_p1_kinds v_p1_figures).bind (fun r_tellKind_2 => gb (r_tellKind_2.1) (some (r_tellKind_2.1, v_p1_closed, v_p1_size, v_p1_home, v_p1_froms, v_p1_tos, v_p1_lengths, r_tellKind_2.2.1, r_tellKind_2.2.2))) else (if r_at_1 = 108 then (f_X4_tellLength x2 v_size v_text v_p1_size v_p1_lengths).bind (fun r_tellLength_3 => gb (r_tellLength_3.1) (some (r_tellLength_3.1, v_p1_closed, v_p1_size, v_p1_home, v_p1_froms, v_p1_tos, r_tellLength_3.2, v_p1_kinds, v_p1_figures))) else (if r_at_1 = 115 then (f_X4_tellStreet x2 v_size v_text v_p1_closed v_p1_size v_p1_froms v_p1_tos v_p1_lengths v_p1_kinds v_p1_figures).bind (fun r_tellStreet_4 => gb (r_tellStreet_4.1) (some (r_tellStreet_4.1, r_tellStreet_4.2.1, r_tellStreet_4.2.2.1, v_p1_home, r_tellStreet_4.2.2.2.1, r_tellStreet_4.2.2.2.2.1, r_tellStreet_4.2.2.2.2.2.1, r_tellStreet_4.2.2.2.2.2.2.1, r_tellStreet_4.2.2.2.2.2.2.2))) else (if r_at_1 = 120 then (f_X4_tellTurn x2 v_size v_text v_p1_closed v_p1_size).bind (fun r_tellTurn_5 => gb (r_tellTurn_5.1) (some (r_tellTurn_5.1, r_tellTurn_5.2, v_p1_size, v_p1_home, v_p1_froms, v_p1_tos, v_p1_lengths, v_p1_kinds, v_p1_figures))) else (f_X4_tellHome x2 v_size v_text v_p1_home).bind (fun r_tellHome_6 => gb (r_tellHome_6.1) (some (r_tellHome_6.1, v_p1_closed, v_p1_size, r_tellHome_6.2, v_p1_froms, v_p1_tos, v_p1_lengths, v_p1_kinds, v_p1_figures))))))))
set_option maxRecDepth 100000 in
set_option maxHeartbeats 4000000 in
theorem c_X4_tell (l : Launch) (D : va_G) {q_this q_text q_p1 q_p1_froms q_p1_tos q_p1_lengths q_p1_kinds q_p1_figures : Nat} {v_size : Int32} {v_statements : Int32} {v_text : (Nat → Int32)} {v_p1_closed : Int32} {v_p1_size : Int32} {v_p1_home : Int32} {v_p1_froms : (Nat → Int32)} {v_p1_tos : (Nat → Int32)} {v_p1_lengths : (Nat → Int32)} {v_p1_kinds : (Nat → Int32)} {v_p1_figures : (Nat → Int32)} {x2 : Int32} {o : (Int32 × Int32 × Int32 × Int32 × (Nat → Int32) × (Nat → Int32) × (Nat → Int32) × (Nat → Int32) × (Nat → Int32))} (h : f_X4_tell x2 v_size v_text v_p1_closed v_p1_size v_p1_home v_p1_froms v_p1_tos v_p1_lengths v_p1_kinds v_p1_figures = some o) : CT l D yX4_tell cX4_tell 3 (Option.some FieldType.boolean) 4 [.ref q_this, .ref q_p1, .int x2] (w_X4_tell D q_this q_text q_p1 q_p1_froms q_p1_tos q_p1_lengths q_p1_kinds q_p1_figures v_size v_statements v_text v_p1_closed v_p1_size v_p1_home v_p1_froms v_p1_tos v_p1_lengths v_p1_kinds v_p1_figures) (w_X4_tell D q_this q_text q_p1 q_p1_froms q_p1_tos q_p1_lengths q_p1_kinds q_p1_figures v_size v_statements v_text o.2.1 o.2.2.1 o.2.2.2.1 o.2.2.2.2.1 o.2.2.2.2.2.1 o.2.2.2.2.2.2.1 o.2.2.2.2.2.2.2.1 o.2.2.2.2.2.2.2.2) (some (.int o.1)) := by
  refine CT.of mk_X4_tell (Nat.le_of_ble_eq_true rfl) (fun g hl hD C E => ?_)
  subst hl
  subst hD
  unfold f_X4_tell at h
  refine j_aload_n C dX4_tell_0 rfl ?_
  refine j_iload_n C dX4_tell_1 rfl ?_
  obtain ⟨r_at_1, h_1, h⟩ := of_bind h
  refine j_callV1 C mk_X4_at ms_X4_at kw_334 (c_X4_at (gl g) (gD g) h_1) (by decide) 0 w_X4_tell_g0 rfl [0, 1] (hC_cons w_X4_tell_g0 (hC_cons w_X4_tell_g1 hC_nil)) rfl (w_X4_at_a.trans w_X4_at_a.symm) rfl rfl (Nat.le_of_ble_eq_true rfl) dX4_tell_2 (wput_cons w_X4_tell_s0 (wput_cons w_X4_tell_s1 wput_nil)) ?_
  refine j_case h (fun hc h => ?_) (fun hn_0 h => ?_)
  · refine j_lookup C 55 dX4_tell_5 (by decide) (by rw [hc] <;> decide) (by decide) ?_
    refine j_aload_n C dX4_tell_55 rfl ?_
    refine j_aload_n C dX4_tell_56 rfl ?_
    refine j_iload_n C dX4_tell_57 rfl ?_
    obtain ⟨r_tellKind_2, h_2, h⟩ := of_bind h
    refine j_callV1 C mk_X4_tellKind ms_X4_tellKind kw_444 (c_X4_tellKind (gl g) (gD g) h_2) (by decide) 0 w_X4_tell_g0 rfl [0, 1, 2, 6, 7] (hC_cons w_X4_tell_g0 (hC_cons w_X4_tell_g1 (hC_cons w_X4_tell_g2 (hC_cons w_X4_tell_g6 (hC_cons w_X4_tell_g7 hC_nil))))) rfl (w_X4_tellKind_a.trans w_X4_tellKind_a.symm) rfl rfl (Nat.le_of_ble_eq_true rfl) dX4_tell_58 (wput_cons w_X4_tell_s0 (wput_cons w_X4_tell_s1 (wput_cons w_X4_tell_s2 (wput_cons w_X4_tell_s6 (wput_cons w_X4_tell_s7 wput_nil))))) ?_
    obtain ⟨hz, h⟩ := of_gb h
    have h := Option.some.inj h
    subst h
    exact j_zret C E hz.1 dX4_tell_61
  · refine j_case h (fun hc h => ?_) (fun hn_1 h => ?_)
    · refine j_lookup C 62 dX4_tell_5 (by decide) (by rw [hc] <;> decide) (by decide) ?_
      refine j_aload_n C dX4_tell_62 rfl ?_
      refine j_aload_n C dX4_tell_63 rfl ?_
      refine j_iload_n C dX4_tell_64 rfl ?_
      obtain ⟨r_tellLength_3, h_3, h⟩ := of_bind h
      refine j_callV1 C mk_X4_tellLength ms_X4_tellLength kw_452 (c_X4_tellLength (gl g) (gD g) h_3) (by decide) 0 w_X4_tell_g0 rfl [0, 1, 2, 5] (hC_cons w_X4_tell_g0 (hC_cons w_X4_tell_g1 (hC_cons w_X4_tell_g2 (hC_cons w_X4_tell_g5 hC_nil)))) rfl (w_X4_tellLength_a.trans w_X4_tellLength_a.symm) rfl rfl (Nat.le_of_ble_eq_true rfl) dX4_tell_65 (wput_cons w_X4_tell_s0 (wput_cons w_X4_tell_s1 (wput_cons w_X4_tell_s2 (wput_cons w_X4_tell_s5 wput_nil)))) ?_
      obtain ⟨hz, h⟩ := of_gb h
      have h := Option.some.inj h
      subst h
      exact j_zret C E hz.1 dX4_tell_68
    · refine j_case h (fun hc h => ?_) (fun hn_2 h => ?_)
      · refine j_lookup C 48 dX4_tell_5 (by decide) (by rw [hc] <;> decide) (by decide) ?_
        refine j_aload_n C dX4_tell_48 rfl ?_
        refine j_aload_n C dX4_tell_49 rfl ?_
        refine j_iload_n C dX4_tell_50 rfl ?_
        obtain ⟨r_tellStreet_4, h_4, h⟩ := of_bind h
        refine j_callV1 C mk_X4_tellStreet ms_X4_tellStreet kw_420 (c_X4_tellStreet (gl g) (gD g) h_4) (by decide) 0 w_X4_tell_g0 rfl [0, 1, 2, 3, 4, 5, 6, 7] (hC_cons w_X4_tell_g0 (hC_cons w_X4_tell_g1 (hC_cons w_X4_tell_g2 (hC_cons w_X4_tell_g3 (hC_cons w_X4_tell_g4 (hC_cons w_X4_tell_g5 (hC_cons w_X4_tell_g6 (hC_cons w_X4_tell_g7 hC_nil)))))))) rfl (w_X4_tellStreet_a.trans w_X4_tellStreet_a.symm) rfl rfl (Nat.le_of_ble_eq_true rfl) dX4_tell_51 (wput_cons w_X4_tell_s0 (wput_cons w_X4_tell_s1 (wput_cons w_X4_tell_s2 (wput_cons w_X4_tell_s3 (wput_cons w_X4_tell_s4 (wput_cons w_X4_tell_s5 (wput_cons w_X4_tell_s6 (wput_cons w_X4_tell_s7 wput_nil)))))))) ?_
        obtain ⟨hz, h⟩ := of_gb h
        have h := Option.some.inj h
        subst h
        exact j_zret C E hz.1 dX4_tell_54
      · refine j_case h (fun hc h => ?_) (fun hn_3 h => ?_)
        · refine j_lookup C 69 dX4_tell_5 (by decide) (by rw [hc] <;> decide) (by decide) ?_
          refine j_aload_n C dX4_tell_69 rfl ?_
          refine j_aload_n C dX4_tell_70 rfl ?_
          refine j_iload_n C dX4_tell_71 rfl ?_
          obtain ⟨r_tellTurn_5, h_5, h⟩ := of_bind h
          refine j_callV1 C mk_X4_tellTurn ms_X4_tellTurn kw_456 (c_X4_tellTurn (gl g) (gD g) h_5) (by decide) 0 w_X4_tell_g0 rfl [0, 1, 2] (hC_cons w_X4_tell_g0 (hC_cons w_X4_tell_g1 (hC_cons w_X4_tell_g2 hC_nil))) rfl (w_X4_tellTurn_a.trans w_X4_tellTurn_a.symm) rfl rfl (Nat.le_of_ble_eq_true rfl) dX4_tell_72 (wput_cons w_X4_tell_s0 (wput_cons w_X4_tell_s1 (wput_cons w_X4_tell_s2 wput_nil))) ?_
          obtain ⟨hz, h⟩ := of_gb h
          have h := Option.some.inj h
          subst h
          exact j_zret C E hz.1 dX4_tell_75
        · refine j_lookup C 76 dX4_tell_5 (by decide) (lk_cons (i32ne hn_0 (by decide)) (lk_cons (i32ne hn_1 (by decide)) (lk_cons (i32ne hn_2 (by decide)) (lk_cons (i32ne hn_3 (by decide)) lk_nil)))) (by decide) ?_
          refine j_aload_n C dX4_tell_76 rfl ?_
          refine j_aload_n C dX4_tell_77 rfl ?_
          refine j_iload_n C dX4_tell_78 rfl ?_
          obtain ⟨r_tellHome_6, h_6, h⟩ := of_bind h
          refine j_callV1 C mk_X4_tellHome ms_X4_tellHome kw_464 (c_X4_tellHome (gl g) (gD g) h_6) (by decide) 0 w_X4_tell_g0 rfl [0, 1, 2] (hC_cons w_X4_tell_g0 (hC_cons w_X4_tell_g1 (hC_cons w_X4_tell_g2 hC_nil))) rfl (w_X4_tellHome_a.trans w_X4_tellHome_a.symm) rfl rfl (Nat.le_of_ble_eq_true rfl) dX4_tell_79 (wput_cons w_X4_tell_s0 (wput_cons w_X4_tell_s1 (wput_cons w_X4_tell_s2 wput_nil))) ?_
          obtain ⟨hz, h⟩ := of_gb h
          have h := Option.some.inj h
          subst h
          exact j_zret C E hz.1 dX4_tell_82

def w_X4_build (D : va_G) (q_this q_text q_p1 q_p1_froms q_p1_tos q_p1_lengths q_p1_kinds q_p1_figures : Nat) (v_size : Int32) (v_statements : Int32) (v_text : (Nat → Int32)) (v_p1_closed : Int32) (v_p1_size : Int32) (v_p1_home : Int32) (v_p1_froms : (Nat → Int32)) (v_p1_tos : (Nat → Int32)) (v_p1_lengths : (Nat → Int32)) (v_p1_kinds : (Nat → Int32)) (v_p1_figures : (Nat → Int32)) : va_W := [(q_this, .inr (3, [.ref q_text, .int v_size, .int v_statements])), (q_text, .inl (D.1 100, 96, .inl v_text)), (q_p1, .inr (6, [.ref q_p1_froms, .ref q_p1_tos, .ref q_p1_lengths, .ref q_p1_kinds, .ref q_p1_figures, .int v_p1_closed, .int v_p1_size, .int v_p1_home])), (q_p1_froms, .inl (D.1 100, 8, .inl v_p1_froms)), (q_p1_tos, .inl (D.1 100, 8, .inl v_p1_tos)), (q_p1_lengths, .inl (D.1 100, 8, .inl v_p1_lengths)), (q_p1_kinds, .inl (D.1 100, 8, .inl v_p1_kinds)), (q_p1_figures, .inl (D.1 100, 8, .inl v_p1_figures))]
theorem w_X4_build_g0 {D : va_G} {q_this : Nat} {q_text : Nat} {q_p1 : Nat} {q_p1_froms : Nat} {q_p1_tos : Nat} {q_p1_lengths : Nat} {q_p1_kinds : Nat} {q_p1_figures : Nat} {v_size : Int32} {v_statements : Int32} {v_text : (Nat → Int32)} {v_p1_closed : Int32} {v_p1_size : Int32} {v_p1_home : Int32} {v_p1_froms : (Nat → Int32)} {v_p1_tos : (Nat → Int32)} {v_p1_lengths : (Nat → Int32)} {v_p1_kinds : (Nat → Int32)} {v_p1_figures : (Nat → Int32)} : (w_X4_build D q_this q_text q_p1 q_p1_froms q_p1_tos q_p1_lengths q_p1_kinds q_p1_figures v_size v_statements v_text v_p1_closed v_p1_size v_p1_home v_p1_froms v_p1_tos v_p1_lengths v_p1_kinds v_p1_figures)[0]? = some (q_this, .inr (3, [.ref q_text, .int v_size, .int v_statements])) := rfl
theorem w_X4_build_s0 {D : va_G} {q_this : Nat} {q_text : Nat} {q_p1 : Nat} {q_p1_froms : Nat} {q_p1_tos : Nat} {q_p1_lengths : Nat} {q_p1_kinds : Nat} {q_p1_figures : Nat} {v_size : Int32} {v_statements : Int32} {v_text : (Nat → Int32)} {v_p1_closed : Int32} {v_p1_size : Int32} {v_p1_home : Int32} {v_p1_froms : (Nat → Int32)} {v_p1_tos : (Nat → Int32)} {v_p1_lengths : (Nat → Int32)} {v_p1_kinds : (Nat → Int32)} {v_p1_figures : (Nat → Int32)} {v_size' : Int32} {v_statements' : Int32} : (w_X4_build D q_this q_text q_p1 q_p1_froms q_p1_tos q_p1_lengths q_p1_kinds q_p1_figures v_size v_statements v_text v_p1_closed v_p1_size v_p1_home v_p1_froms v_p1_tos v_p1_lengths v_p1_kinds v_p1_figures).set 0 (q_this, .inr (3, [.ref q_text, .int v_size', .int v_statements'])) = (w_X4_build D q_this q_text q_p1 q_p1_froms q_p1_tos q_p1_lengths q_p1_kinds q_p1_figures v_size' v_statements' v_text v_p1_closed v_p1_size v_p1_home v_p1_froms v_p1_tos v_p1_lengths v_p1_kinds v_p1_figures) := rfl
theorem w_X4_build_g1 {D : va_G} {q_this : Nat} {q_text : Nat} {q_p1 : Nat} {q_p1_froms : Nat} {q_p1_tos : Nat} {q_p1_lengths : Nat} {q_p1_kinds : Nat} {q_p1_figures : Nat} {v_size : Int32} {v_statements : Int32} {v_text : (Nat → Int32)} {v_p1_closed : Int32} {v_p1_size : Int32} {v_p1_home : Int32} {v_p1_froms : (Nat → Int32)} {v_p1_tos : (Nat → Int32)} {v_p1_lengths : (Nat → Int32)} {v_p1_kinds : (Nat → Int32)} {v_p1_figures : (Nat → Int32)} : (w_X4_build D q_this q_text q_p1 q_p1_froms q_p1_tos q_p1_lengths q_p1_kinds q_p1_figures v_size v_statements v_text v_p1_closed v_p1_size v_p1_home v_p1_froms v_p1_tos v_p1_lengths v_p1_kinds v_p1_figures)[1]? = some (q_text, .inl (D.1 100, 96, .inl v_text)) := rfl
theorem w_X4_build_s1 {D : va_G} {q_this : Nat} {q_text : Nat} {q_p1 : Nat} {q_p1_froms : Nat} {q_p1_tos : Nat} {q_p1_lengths : Nat} {q_p1_kinds : Nat} {q_p1_figures : Nat} {v_size : Int32} {v_statements : Int32} {v_text : (Nat → Int32)} {v_p1_closed : Int32} {v_p1_size : Int32} {v_p1_home : Int32} {v_p1_froms : (Nat → Int32)} {v_p1_tos : (Nat → Int32)} {v_p1_lengths : (Nat → Int32)} {v_p1_kinds : (Nat → Int32)} {v_p1_figures : (Nat → Int32)} {v_text' : (Nat → Int32)} : (w_X4_build D q_this q_text q_p1 q_p1_froms q_p1_tos q_p1_lengths q_p1_kinds q_p1_figures v_size v_statements v_text v_p1_closed v_p1_size v_p1_home v_p1_froms v_p1_tos v_p1_lengths v_p1_kinds v_p1_figures).set 1 (q_text, .inl (D.1 100, 96, .inl v_text')) = (w_X4_build D q_this q_text q_p1 q_p1_froms q_p1_tos q_p1_lengths q_p1_kinds q_p1_figures v_size v_statements v_text' v_p1_closed v_p1_size v_p1_home v_p1_froms v_p1_tos v_p1_lengths v_p1_kinds v_p1_figures) := rfl
theorem w_X4_build_g2 {D : va_G} {q_this : Nat} {q_text : Nat} {q_p1 : Nat} {q_p1_froms : Nat} {q_p1_tos : Nat} {q_p1_lengths : Nat} {q_p1_kinds : Nat} {q_p1_figures : Nat} {v_size : Int32} {v_statements : Int32} {v_text : (Nat → Int32)} {v_p1_closed : Int32} {v_p1_size : Int32} {v_p1_home : Int32} {v_p1_froms : (Nat → Int32)} {v_p1_tos : (Nat → Int32)} {v_p1_lengths : (Nat → Int32)} {v_p1_kinds : (Nat → Int32)} {v_p1_figures : (Nat → Int32)} : (w_X4_build D q_this q_text q_p1 q_p1_froms q_p1_tos q_p1_lengths q_p1_kinds q_p1_figures v_size v_statements v_text v_p1_closed v_p1_size v_p1_home v_p1_froms v_p1_tos v_p1_lengths v_p1_kinds v_p1_figures)[2]? = some (q_p1, .inr (6, [.ref q_p1_froms, .ref q_p1_tos, .ref q_p1_lengths, .ref q_p1_kinds, .ref q_p1_figures, .int v_p1_closed, .int v_p1_size, .int v_p1_home])) := rfl
theorem w_X4_build_s2 {D : va_G} {q_this : Nat} {q_text : Nat} {q_p1 : Nat} {q_p1_froms : Nat} {q_p1_tos : Nat} {q_p1_lengths : Nat} {q_p1_kinds : Nat} {q_p1_figures : Nat} {v_size : Int32} {v_statements : Int32} {v_text : (Nat → Int32)} {v_p1_closed : Int32} {v_p1_size : Int32} {v_p1_home : Int32} {v_p1_froms : (Nat → Int32)} {v_p1_tos : (Nat → Int32)} {v_p1_lengths : (Nat → Int32)} {v_p1_kinds : (Nat → Int32)} {v_p1_figures : (Nat → Int32)} {v_p1_closed' : Int32} {v_p1_size' : Int32} {v_p1_home' : Int32} : (w_X4_build D q_this q_text q_p1 q_p1_froms q_p1_tos q_p1_lengths q_p1_kinds q_p1_figures v_size v_statements v_text v_p1_closed v_p1_size v_p1_home v_p1_froms v_p1_tos v_p1_lengths v_p1_kinds v_p1_figures).set 2 (q_p1, .inr (6, [.ref q_p1_froms, .ref q_p1_tos, .ref q_p1_lengths, .ref q_p1_kinds, .ref q_p1_figures, .int v_p1_closed', .int v_p1_size', .int v_p1_home'])) = (w_X4_build D q_this q_text q_p1 q_p1_froms q_p1_tos q_p1_lengths q_p1_kinds q_p1_figures v_size v_statements v_text v_p1_closed' v_p1_size' v_p1_home' v_p1_froms v_p1_tos v_p1_lengths v_p1_kinds v_p1_figures) := rfl
theorem w_X4_build_g3 {D : va_G} {q_this : Nat} {q_text : Nat} {q_p1 : Nat} {q_p1_froms : Nat} {q_p1_tos : Nat} {q_p1_lengths : Nat} {q_p1_kinds : Nat} {q_p1_figures : Nat} {v_size : Int32} {v_statements : Int32} {v_text : (Nat → Int32)} {v_p1_closed : Int32} {v_p1_size : Int32} {v_p1_home : Int32} {v_p1_froms : (Nat → Int32)} {v_p1_tos : (Nat → Int32)} {v_p1_lengths : (Nat → Int32)} {v_p1_kinds : (Nat → Int32)} {v_p1_figures : (Nat → Int32)} : (w_X4_build D q_this q_text q_p1 q_p1_froms q_p1_tos q_p1_lengths q_p1_kinds q_p1_figures v_size v_statements v_text v_p1_closed v_p1_size v_p1_home v_p1_froms v_p1_tos v_p1_lengths v_p1_kinds v_p1_figures)[3]? = some (q_p1_froms, .inl (D.1 100, 8, .inl v_p1_froms)) := rfl
theorem w_X4_build_s3 {D : va_G} {q_this : Nat} {q_text : Nat} {q_p1 : Nat} {q_p1_froms : Nat} {q_p1_tos : Nat} {q_p1_lengths : Nat} {q_p1_kinds : Nat} {q_p1_figures : Nat} {v_size : Int32} {v_statements : Int32} {v_text : (Nat → Int32)} {v_p1_closed : Int32} {v_p1_size : Int32} {v_p1_home : Int32} {v_p1_froms : (Nat → Int32)} {v_p1_tos : (Nat → Int32)} {v_p1_lengths : (Nat → Int32)} {v_p1_kinds : (Nat → Int32)} {v_p1_figures : (Nat → Int32)} {v_p1_froms' : (Nat → Int32)} : (w_X4_build D q_this q_text q_p1 q_p1_froms q_p1_tos q_p1_lengths q_p1_kinds q_p1_figures v_size v_statements v_text v_p1_closed v_p1_size v_p1_home v_p1_froms v_p1_tos v_p1_lengths v_p1_kinds v_p1_figures).set 3 (q_p1_froms, .inl (D.1 100, 8, .inl v_p1_froms')) = (w_X4_build D q_this q_text q_p1 q_p1_froms q_p1_tos q_p1_lengths q_p1_kinds q_p1_figures v_size v_statements v_text v_p1_closed v_p1_size v_p1_home v_p1_froms' v_p1_tos v_p1_lengths v_p1_kinds v_p1_figures) := rfl
theorem w_X4_build_g4 {D : va_G} {q_this : Nat} {q_text : Nat} {q_p1 : Nat} {q_p1_froms : Nat} {q_p1_tos : Nat} {q_p1_lengths : Nat} {q_p1_kinds : Nat} {q_p1_figures : Nat} {v_size : Int32} {v_statements : Int32} {v_text : (Nat → Int32)} {v_p1_closed : Int32} {v_p1_size : Int32} {v_p1_home : Int32} {v_p1_froms : (Nat → Int32)} {v_p1_tos : (Nat → Int32)} {v_p1_lengths : (Nat → Int32)} {v_p1_kinds : (Nat → Int32)} {v_p1_figures : (Nat → Int32)} : (w_X4_build D q_this q_text q_p1 q_p1_froms q_p1_tos q_p1_lengths q_p1_kinds q_p1_figures v_size v_statements v_text v_p1_closed v_p1_size v_p1_home v_p1_froms v_p1_tos v_p1_lengths v_p1_kinds v_p1_figures)[4]? = some (q_p1_tos, .inl (D.1 100, 8, .inl v_p1_tos)) := rfl
theorem w_X4_build_s4 {D : va_G} {q_this : Nat} {q_text : Nat} {q_p1 : Nat} {q_p1_froms : Nat} {q_p1_tos : Nat} {q_p1_lengths : Nat} {q_p1_kinds : Nat} {q_p1_figures : Nat} {v_size : Int32} {v_statements : Int32} {v_text : (Nat → Int32)} {v_p1_closed : Int32} {v_p1_size : Int32} {v_p1_home : Int32} {v_p1_froms : (Nat → Int32)} {v_p1_tos : (Nat → Int32)} {v_p1_lengths : (Nat → Int32)} {v_p1_kinds : (Nat → Int32)} {v_p1_figures : (Nat → Int32)} {v_p1_tos' : (Nat → Int32)} : (w_X4_build D q_this q_text q_p1 q_p1_froms q_p1_tos q_p1_lengths q_p1_kinds q_p1_figures v_size v_statements v_text v_p1_closed v_p1_size v_p1_home v_p1_froms v_p1_tos v_p1_lengths v_p1_kinds v_p1_figures).set 4 (q_p1_tos, .inl (D.1 100, 8, .inl v_p1_tos')) = (w_X4_build D q_this q_text q_p1 q_p1_froms q_p1_tos q_p1_lengths q_p1_kinds q_p1_figures v_size v_statements v_text v_p1_closed v_p1_size v_p1_home v_p1_froms v_p1_tos' v_p1_lengths v_p1_kinds v_p1_figures) := rfl
theorem w_X4_build_g5 {D : va_G} {q_this : Nat} {q_text : Nat} {q_p1 : Nat} {q_p1_froms : Nat} {q_p1_tos : Nat} {q_p1_lengths : Nat} {q_p1_kinds : Nat} {q_p1_figures : Nat} {v_size : Int32} {v_statements : Int32} {v_text : (Nat → Int32)} {v_p1_closed : Int32} {v_p1_size : Int32} {v_p1_home : Int32} {v_p1_froms : (Nat → Int32)} {v_p1_tos : (Nat → Int32)} {v_p1_lengths : (Nat → Int32)} {v_p1_kinds : (Nat → Int32)} {v_p1_figures : (Nat → Int32)} : (w_X4_build D q_this q_text q_p1 q_p1_froms q_p1_tos q_p1_lengths q_p1_kinds q_p1_figures v_size v_statements v_text v_p1_closed v_p1_size v_p1_home v_p1_froms v_p1_tos v_p1_lengths v_p1_kinds v_p1_figures)[5]? = some (q_p1_lengths, .inl (D.1 100, 8, .inl v_p1_lengths)) := rfl
theorem w_X4_build_s5 {D : va_G} {q_this : Nat} {q_text : Nat} {q_p1 : Nat} {q_p1_froms : Nat} {q_p1_tos : Nat} {q_p1_lengths : Nat} {q_p1_kinds : Nat} {q_p1_figures : Nat} {v_size : Int32} {v_statements : Int32} {v_text : (Nat → Int32)} {v_p1_closed : Int32} {v_p1_size : Int32} {v_p1_home : Int32} {v_p1_froms : (Nat → Int32)} {v_p1_tos : (Nat → Int32)} {v_p1_lengths : (Nat → Int32)} {v_p1_kinds : (Nat → Int32)} {v_p1_figures : (Nat → Int32)} {v_p1_lengths' : (Nat → Int32)} : (w_X4_build D q_this q_text q_p1 q_p1_froms q_p1_tos q_p1_lengths q_p1_kinds q_p1_figures v_size v_statements v_text v_p1_closed v_p1_size v_p1_home v_p1_froms v_p1_tos v_p1_lengths v_p1_kinds v_p1_figures).set 5 (q_p1_lengths, .inl (D.1 100, 8, .inl v_p1_lengths')) = (w_X4_build D q_this q_text q_p1 q_p1_froms q_p1_tos q_p1_lengths q_p1_kinds q_p1_figures v_size v_statements v_text v_p1_closed v_p1_size v_p1_home v_p1_froms v_p1_tos v_p1_lengths' v_p1_kinds v_p1_figures) := rfl
theorem w_X4_build_g6 {D : va_G} {q_this : Nat} {q_text : Nat} {q_p1 : Nat} {q_p1_froms : Nat} {q_p1_tos : Nat} {q_p1_lengths : Nat} {q_p1_kinds : Nat} {q_p1_figures : Nat} {v_size : Int32} {v_statements : Int32} {v_text : (Nat → Int32)} {v_p1_closed : Int32} {v_p1_size : Int32} {v_p1_home : Int32} {v_p1_froms : (Nat → Int32)} {v_p1_tos : (Nat → Int32)} {v_p1_lengths : (Nat → Int32)} {v_p1_kinds : (Nat → Int32)} {v_p1_figures : (Nat → Int32)} : (w_X4_build D q_this q_text q_p1 q_p1_froms q_p1_tos q_p1_lengths q_p1_kinds q_p1_figures v_size v_statements v_text v_p1_closed v_p1_size v_p1_home v_p1_froms v_p1_tos v_p1_lengths v_p1_kinds v_p1_figures)[6]? = some (q_p1_kinds, .inl (D.1 100, 8, .inl v_p1_kinds)) := rfl
theorem w_X4_build_s6 {D : va_G} {q_this : Nat} {q_text : Nat} {q_p1 : Nat} {q_p1_froms : Nat} {q_p1_tos : Nat} {q_p1_lengths : Nat} {q_p1_kinds : Nat} {q_p1_figures : Nat} {v_size : Int32} {v_statements : Int32} {v_text : (Nat → Int32)} {v_p1_closed : Int32} {v_p1_size : Int32} {v_p1_home : Int32} {v_p1_froms : (Nat → Int32)} {v_p1_tos : (Nat → Int32)} {v_p1_lengths : (Nat → Int32)} {v_p1_kinds : (Nat → Int32)} {v_p1_figures : (Nat → Int32)} {v_p1_kinds' : (Nat → Int32)} : (w_X4_build D q_this q_text q_p1 q_p1_froms q_p1_tos q_p1_lengths q_p1_kinds q_p1_figures v_size v_statements v_text v_p1_closed v_p1_size v_p1_home v_p1_froms v_p1_tos v_p1_lengths v_p1_kinds v_p1_figures).set 6 (q_p1_kinds, .inl (D.1 100, 8, .inl v_p1_kinds')) = (w_X4_build D q_this q_text q_p1 q_p1_froms q_p1_tos q_p1_lengths q_p1_kinds q_p1_figures v_size v_statements v_text v_p1_closed v_p1_size v_p1_home v_p1_froms v_p1_tos v_p1_lengths v_p1_kinds' v_p1_figures) := rfl
theorem w_X4_build_g7 {D : va_G} {q_this : Nat} {q_text : Nat} {q_p1 : Nat} {q_p1_froms : Nat} {q_p1_tos : Nat} {q_p1_lengths : Nat} {q_p1_kinds : Nat} {q_p1_figures : Nat} {v_size : Int32} {v_statements : Int32} {v_text : (Nat → Int32)} {v_p1_closed : Int32} {v_p1_size : Int32} {v_p1_home : Int32} {v_p1_froms : (Nat → Int32)} {v_p1_tos : (Nat → Int32)} {v_p1_lengths : (Nat → Int32)} {v_p1_kinds : (Nat → Int32)} {v_p1_figures : (Nat → Int32)} : (w_X4_build D q_this q_text q_p1 q_p1_froms q_p1_tos q_p1_lengths q_p1_kinds q_p1_figures v_size v_statements v_text v_p1_closed v_p1_size v_p1_home v_p1_froms v_p1_tos v_p1_lengths v_p1_kinds v_p1_figures)[7]? = some (q_p1_figures, .inl (D.1 100, 8, .inl v_p1_figures)) := rfl
theorem w_X4_build_s7 {D : va_G} {q_this : Nat} {q_text : Nat} {q_p1 : Nat} {q_p1_froms : Nat} {q_p1_tos : Nat} {q_p1_lengths : Nat} {q_p1_kinds : Nat} {q_p1_figures : Nat} {v_size : Int32} {v_statements : Int32} {v_text : (Nat → Int32)} {v_p1_closed : Int32} {v_p1_size : Int32} {v_p1_home : Int32} {v_p1_froms : (Nat → Int32)} {v_p1_tos : (Nat → Int32)} {v_p1_lengths : (Nat → Int32)} {v_p1_kinds : (Nat → Int32)} {v_p1_figures : (Nat → Int32)} {v_p1_figures' : (Nat → Int32)} : (w_X4_build D q_this q_text q_p1 q_p1_froms q_p1_tos q_p1_lengths q_p1_kinds q_p1_figures v_size v_statements v_text v_p1_closed v_p1_size v_p1_home v_p1_froms v_p1_tos v_p1_lengths v_p1_kinds v_p1_figures).set 7 (q_p1_figures, .inl (D.1 100, 8, .inl v_p1_figures')) = (w_X4_build D q_this q_text q_p1 q_p1_froms q_p1_tos q_p1_lengths q_p1_kinds q_p1_figures v_size v_statements v_text v_p1_closed v_p1_size v_p1_home v_p1_froms v_p1_tos v_p1_lengths v_p1_kinds v_p1_figures') := rfl
theorem w_X4_build_a {D : va_G} {q_this : Nat} {q_text : Nat} {q_p1 : Nat} {q_p1_froms : Nat} {q_p1_tos : Nat} {q_p1_lengths : Nat} {q_p1_kinds : Nat} {q_p1_figures : Nat} {v_size : Int32} {v_statements : Int32} {v_text : (Nat → Int32)} {v_p1_closed : Int32} {v_p1_size : Int32} {v_p1_home : Int32} {v_p1_froms : (Nat → Int32)} {v_p1_tos : (Nat → Int32)} {v_p1_lengths : (Nat → Int32)} {v_p1_kinds : (Nat → Int32)} {v_p1_figures : (Nat → Int32)} : (w_X4_build D q_this q_text q_p1 q_p1_froms q_p1_tos q_p1_lengths q_p1_kinds q_p1_figures v_size v_statements v_text v_p1_closed v_p1_size v_p1_home v_p1_froms v_p1_tos v_p1_lengths v_p1_kinds v_p1_figures).map (fun q => q.1) = [q_this, q_text, q_p1, q_p1_froms, q_p1_tos, q_p1_lengths, q_p1_kinds, q_p1_figures] := rfl
def f_X4_build_b4 (v_statements : Int32) (x3_4 : Int32) (v_p1_closed_4 : Int32) (v_p1_size_4 : Int32) (v_p1_home_4 : Int32) (v_p1_froms_4 : (Nat → Int32)) (v_p1_tos_4 : (Nat → Int32)) (v_p1_lengths_4 : (Nat → Int32)) (v_p1_kinds_4 : (Nat → Int32)) (v_p1_figures_4 : (Nat → Int32)) (x2_4 : Int32) (v_size : Int32) (v_text : (Nat → Int32)) : Option ((Int32 × Int32 × Int32 × Int32 × Int32 × (Nat → Int32) × (Nat → Int32) × (Nat → Int32) × (Nat → Int32) × (Nat → Int32)) ⊕ ((Int32 × Int32 × Int32 × (Nat → Int32) × (Nat → Int32) × (Nat → Int32) × (Nat → Int32) × (Nat → Int32)) ⊕ (Int32 × Int32 × Int32 × Int32 × (Nat → Int32) × (Nat → Int32) × (Nat → Int32) × (Nat → Int32) × (Nat → Int32)))) :=
  (if v_statements ≤ x3_4 then some (.inr (.inl (v_p1_closed_4, v_p1_size_4, v_p1_home_4, v_p1_froms_4, v_p1_tos_4, v_p1_lengths_4, v_p1_kinds_4, v_p1_figures_4))) else (f_X4_tell x2_4 v_size v_text v_p1_closed_4 v_p1_size_4 v_p1_home_4 v_p1_froms_4 v_p1_tos_4 v_p1_lengths_4 v_p1_kinds_4 v_p1_figures_4).bind (fun r_tell_1 => (if r_tell_1.1 = 0 then some (.inr (.inr (x2_4, r_tell_1.2.1, r_tell_1.2.2.1, r_tell_1.2.2.2.1, r_tell_1.2.2.2.2.1, r_tell_1.2.2.2.2.2.1, r_tell_1.2.2.2.2.2.2.1, r_tell_1.2.2.2.2.2.2.2.1, r_tell_1.2.2.2.2.2.2.2.2))) else (f_X4_at x2_4 v_size v_text).bind (fun r_at_2 => (f_X4_formOf r_at_2).bind (fun r_formOf_3 => gs r_formOf_3 (some (.inl (x2_4 + ((1 : Int32) + (Int32.ofNat (slen r_formOf_3))), x3_4 + (1 : Int32), r_tell_1.2.1, r_tell_1.2.2.1, r_tell_1.2.2.2.1, r_tell_1.2.2.2.2.1, r_tell_1.2.2.2.2.2.1, r_tell_1.2.2.2.2.2.2.1, r_tell_1.2.2.2.2.2.2.2.1, r_tell_1.2.2.2.2.2.2.2.2))))))))
def f_X4_build (N : Nat) (v_size : Int32) (v_statements : Int32) (v_text : (Nat → Int32)) (v_p1_closed : Int32) (v_p1_size : Int32) (v_p1_home : Int32) (v_p1_froms : (Nat → Int32)) (v_p1_tos : (Nat → Int32)) (v_p1_lengths : (Nat → Int32)) (v_p1_kinds : (Nat → Int32)) (v_p1_figures : (Nat → Int32)) : Option (Int32 × Int32 × Int32 × Int32 × (Nat → Int32) × (Nat → Int32) × (Nat → Int32) × (Nat → Int32) × (Nat → Int32)) :=
  (lp (fun s_4 => f_X4_build_b4 v_statements s_4.2.1 s_4.2.2.1 s_4.2.2.2.1 s_4.2.2.2.2.1 s_4.2.2.2.2.2.1 s_4.2.2.2.2.2.2.1 s_4.2.2.2.2.2.2.2.1 s_4.2.2.2.2.2.2.2.2.1 s_4.2.2.2.2.2.2.2.2.2 s_4.1 v_size v_text) N ((0 : Int32), (0 : Int32), v_p1_closed, v_p1_size, v_p1_home, v_p1_froms, v_p1_tos, v_p1_lengths, v_p1_kinds, v_p1_figures)).bind (fun e_4 => match e_4 with | .inl x_4 => some ((-9 : Int32), x_4.1, x_4.2.1, x_4.2.2.1, x_4.2.2.2.1, x_4.2.2.2.2.1, x_4.2.2.2.2.2.1, x_4.2.2.2.2.2.2.1, x_4.2.2.2.2.2.2.2) | .inr o_4 => some o_4)
set_option maxRecDepth 100000 in
set_option maxHeartbeats 4000000 in
theorem c_X4_build (l : Launch) (D : va_G) (N : Nat) {q_this q_text q_p1 q_p1_froms q_p1_tos q_p1_lengths q_p1_kinds q_p1_figures : Nat} {v_size : Int32} {v_statements : Int32} {v_text : (Nat → Int32)} {v_p1_closed : Int32} {v_p1_size : Int32} {v_p1_home : Int32} {v_p1_froms : (Nat → Int32)} {v_p1_tos : (Nat → Int32)} {v_p1_lengths : (Nat → Int32)} {v_p1_kinds : (Nat → Int32)} {v_p1_figures : (Nat → Int32)} {o : (Int32 × Int32 × Int32 × Int32 × (Nat → Int32) × (Nat → Int32) × (Nat → Int32) × (Nat → Int32) × (Nat → Int32))} (h : f_X4_build N v_size v_statements v_text v_p1_closed v_p1_size v_p1_home v_p1_froms v_p1_tos v_p1_lengths v_p1_kinds v_p1_figures = some o) : CT l D yX4_build cX4_build 4 (Option.some FieldType.int) 5 [.ref q_this, .ref q_p1] (w_X4_build D q_this q_text q_p1 q_p1_froms q_p1_tos q_p1_lengths q_p1_kinds q_p1_figures v_size v_statements v_text v_p1_closed v_p1_size v_p1_home v_p1_froms v_p1_tos v_p1_lengths v_p1_kinds v_p1_figures) (w_X4_build D q_this q_text q_p1 q_p1_froms q_p1_tos q_p1_lengths q_p1_kinds q_p1_figures v_size v_statements v_text o.2.1 o.2.2.1 o.2.2.2.1 o.2.2.2.2.1 o.2.2.2.2.2.1 o.2.2.2.2.2.2.1 o.2.2.2.2.2.2.2.1 o.2.2.2.2.2.2.2.2) (some (.int o.1)) := by
  refine CT.of mk_X4_build (Nat.le_of_ble_eq_true rfl) (fun g hl hD C E => ?_)
  subst hl
  subst hD
  unfold f_X4_build at h
  refine j_iconst C (0) dX4_build_0 ki_0 ?_
  refine j_istore_n C dX4_build_1 (by decide) ?_
  refine j_iconst C (0) dX4_build_2 ki_0 ?_
  refine j_istore_n C dX4_build_3 (by decide) ?_
  obtain ⟨e_4, hl_4, h⟩ := of_bind h
  have hR_4 : ∀ o9, Sum.inr o9 = e_4 → some o9 = some o := by
    intro o9 ho9
    rw [← ho9] at h
    exact h
  have ha_4 : ∀ x_4, Sum.inl x_4 = e_4 → J g (w_X4_build (gD g) q_this q_text q_p1 q_p1_froms q_p1_tos q_p1_lengths q_p1_kinds q_p1_figures v_size v_statements v_text x_4.1 x_4.2.1 x_4.2.2.1 x_4.2.2.2.1 x_4.2.2.2.2.1 x_4.2.2.2.2.2.1 x_4.2.2.2.2.2.2.1 x_4.2.2.2.2.2.2.2) [] 45 [] := by
    intro x_4 hx9
    rw [← hx9] at h
    dsimp only at h
    refine j_bipush C (-9) dX4_build_45 kb_m9 ?_
    have h := Option.some.inj h
    subst h
    exact j_iret C E dX4_build_47
  refine j_lv (lv' := [(0, .ref q_this), (1, .ref q_p1), (2, .int ((0 : Int32))), (3, .int ((0 : Int32)))]) rfl ?_
  refine lp_ind hl_4 (fun s_4 => J g (w_X4_build (gD g) q_this q_text q_p1 q_p1_froms q_p1_tos q_p1_lengths q_p1_kinds q_p1_figures v_size v_statements v_text s_4.2.2.1 s_4.2.2.2.1 s_4.2.2.2.2.1 s_4.2.2.2.2.2.1 s_4.2.2.2.2.2.2.1 s_4.2.2.2.2.2.2.2.1 s_4.2.2.2.2.2.2.2.2.1 s_4.2.2.2.2.2.2.2.2.2) [(0, .ref q_this), (1, .ref q_p1), (2, .int (s_4.1)), (3, .int (s_4.2.1))] 4 []) (fun s_4 r_4 h hc_4 hx_4 => ?_)
  unfold f_X4_build_b4 at h
  refine j_iload_n C dX4_build_4 rfl ?_
  refine j_aload_n C dX4_build_5 rfl ?_
  refine j_get C 0 w_X4_build_g0 rfl inX4 2 (by decide) kw_258 rfl rfl dX4_build_6 ?_
  refine j_icmp_ge C h 45 dX4_build_9 (by decide) (fun hc h => ?_) (fun hc h => ?_)
  · have h := Option.some.inj h
    subst h
    have hx9 := hx_4 _ rfl
    have ha9 := ha_4 _ hx9
    exact j_lw ha9 rfl
  · refine j_aload_n C dX4_build_12 rfl ?_
    refine j_aload_n C dX4_build_13 rfl ?_
    refine j_iload_n C dX4_build_14 rfl ?_
    obtain ⟨r_tell_1, h_1, h⟩ := of_bind h
    refine j_callV1 C mk_X4_tell ms_X4_tell kw_416 (c_X4_tell (gl g) (gD g) h_1) (by decide) 0 w_X4_build_g0 rfl [0, 1, 2, 3, 4, 5, 6, 7] (hC_cons w_X4_build_g0 (hC_cons w_X4_build_g1 (hC_cons w_X4_build_g2 (hC_cons w_X4_build_g3 (hC_cons w_X4_build_g4 (hC_cons w_X4_build_g5 (hC_cons w_X4_build_g6 (hC_cons w_X4_build_g7 hC_nil)))))))) rfl (w_X4_tell_a.trans w_X4_tell_a.symm) rfl rfl (Nat.le_of_ble_eq_true rfl) dX4_build_15 (wput_cons w_X4_build_s0 (wput_cons w_X4_build_s1 (wput_cons w_X4_build_s2 (wput_cons w_X4_build_s3 (wput_cons w_X4_build_s4 (wput_cons w_X4_build_s5 (wput_cons w_X4_build_s6 (wput_cons w_X4_build_s7 wput_nil)))))))) ?_
    refine j_if_ne C h 23 dX4_build_18 (by decide) (fun hc h => ?_) (fun hc h => ?_)
    · refine j_iload_n C dX4_build_21 rfl ?_
      have h := Option.some.inj h
      subst h
      have h := hR_4 _ (hx_4 _ rfl)
      have h := Option.some.inj h
      subst h
      exact j_iret C E dX4_build_22
    · refine j_iload_n C dX4_build_23 rfl ?_
      refine j_iconst C (1) dX4_build_24 ki_1 ?_
      refine j_aload_n C dX4_build_25 rfl ?_
      refine j_iload_n C dX4_build_26 rfl ?_
      obtain ⟨r_at_2, h_2, h⟩ := of_bind h
      refine j_callV1 C mk_X4_at ms_X4_at kw_334 (c_X4_at (gl g) (gD g) h_2) (by decide) 0 w_X4_build_g0 rfl [0, 1] (hC_cons w_X4_build_g0 (hC_cons w_X4_build_g1 hC_nil)) rfl (w_X4_at_a.trans w_X4_at_a.symm) rfl rfl (Nat.le_of_ble_eq_true rfl) dX4_build_27 (wput_cons w_X4_build_s0 (wput_cons w_X4_build_s1 wput_nil)) ?_
      obtain ⟨r_formOf_3, h_3, h⟩ := of_bind h
      refine j_callS1 C mk_X4_formOf ms_X4_formOf kw_338 (c_X4_formOf (gl g) (gD g) h_3) (by decide) [] hC_nil rfl (w_X4_formOf_a.trans w_X4_formOf_a.symm) rfl rfl (Nat.le_of_ble_eq_true rfl) dX4_build_30 wput_nil ?_
      obtain ⟨hs, h⟩ := of_gs h
      refine j_callT1 hs C mk_J0_length_8abf5 ms_J0_length_8abf5 kw_350 (c_slen (gl g) (gD g) hs) (by decide) rfl rfl rfl (Nat.le_of_ble_eq_true rfl) dX4_build_33 ?_
      refine j_iadd C dX4_build_36 ?_
      refine j_iadd C dX4_build_37 ?_
      refine j_istore_n C dX4_build_38 (by decide) ?_
      refine j_inc C (1) dX4_build_39 rfl ki_1 (by decide) ?_
      refine j_goto C 4 dX4_build_42 (by decide) ?_
      have h := Option.some.inj h
      subst h
      have hc9 := hc_4 _ rfl
      exact j_lw hc9 rfl
