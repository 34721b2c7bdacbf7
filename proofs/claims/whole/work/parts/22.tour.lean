def w_X6_cost (D : va_G) (q_this q_ways q_ways_town q_costLeft : Nat) (w_costFirst w_streets w_corners w_costs w_again w_ways_on w_ways_back w_ways_least w_ways_town_froms w_ways_town_tos w_ways_town_lengths w_ways_town_kinds w_ways_town_figures : Value) (v_isSought : Int32) (v_due : Int32) (v_size : Int32) (v_ways_town_closed : Int32) (v_ways_town_size : Int32) (v_ways_town_home : Int32) (v_costLeft : (Nat → Int32)) : va_W := [(q_this, .inr (5, [.ref q_ways, .ref q_costLeft, w_costFirst, .int v_isSought, .int v_due, .int v_size, w_streets, w_corners, w_costs, w_again])), (q_ways, .inr (7, [.ref q_ways_town, w_ways_on, w_ways_back, w_ways_least])), (q_ways_town, .inr (6, [w_ways_town_froms, w_ways_town_tos, w_ways_town_lengths, w_ways_town_kinds, w_ways_town_figures, .int v_ways_town_closed, .int v_ways_town_size, .int v_ways_town_home])), (q_costLeft, .inl (D.1 100, 1536, .inl v_costLeft))]
def f_X6_cost (v_due : Int32) (v_ways_town_home : Int32) (v_costLeft : (Nat → Int32)) : Option Int32 :=
  ga ((v_due * (6 : Int32)) + v_ways_town_home) 1536 (some (v_costLeft (Int32.toNatClampNeg ((v_due * (6 : Int32)) + v_ways_town_home))))
set_option maxRecDepth 100000 in
set_option maxHeartbeats 4000000 in
theorem c_X6_cost (l : Launch) (D : va_G) {q_this q_ways q_ways_town q_costLeft : Nat} {w_costFirst w_streets w_corners w_costs w_again w_ways_on w_ways_back w_ways_least w_ways_town_froms w_ways_town_tos w_ways_town_lengths w_ways_town_kinds w_ways_town_figures : Value} {v_isSought : Int32} {v_due : Int32} {v_size : Int32} {v_ways_town_closed : Int32} {v_ways_town_size : Int32} {v_ways_town_home : Int32} {v_costLeft : (Nat → Int32)} {o : Int32} (h : f_X6_cost v_due v_ways_town_home v_costLeft = some o) : CT l D yX6_cost cX6_cost 1 (Option.some FieldType.int) 0 [.ref q_this] (w_X6_cost D q_this q_ways q_ways_town q_costLeft w_costFirst w_streets w_corners w_costs w_again w_ways_on w_ways_back w_ways_least w_ways_town_froms w_ways_town_tos w_ways_town_lengths w_ways_town_kinds w_ways_town_figures v_isSought v_due v_size v_ways_town_closed v_ways_town_size v_ways_town_home v_costLeft) (w_X6_cost D q_this q_ways q_ways_town q_costLeft w_costFirst w_streets w_corners w_costs w_again w_ways_on w_ways_back w_ways_least w_ways_town_froms w_ways_town_tos w_ways_town_lengths w_ways_town_kinds w_ways_town_figures v_isSought v_due v_size v_ways_town_closed v_ways_town_size v_ways_town_home v_costLeft) (some (.int o)) := by
  refine CT.of mk_X6_cost (Nat.le_of_ble_eq_true rfl) (fun g hl hD C E => ?_)
  subst hl
  subst hD
  unfold f_X6_cost at h
  refine j_aload_n C dX6_cost_0 rfl ?_
  refine j_get C 0 rfl rfl inX6 1 (by decide) kw_118 rfl rfl dX6_cost_1 ?_
  refine j_aload_n C dX6_cost_4 rfl ?_
  refine j_get C 0 rfl rfl inX6 4 (by decide) kw_121 rfl rfl dX6_cost_5 ?_
  refine j_bipush C (6) dX6_cost_8 kb_6 ?_
  refine j_imul C dX6_cost_10 ?_
  refine j_aload_n C dX6_cost_11 rfl ?_
  refine j_get C 0 rfl rfl inX6 0 (by decide) kw_117 rfl rfl dX6_cost_12 ?_
  refine j_get C 1 rfl rfl inX8 0 (by decide) kw_92 rfl rfl dX6_cost_15 ?_
  refine j_get C 2 rfl rfl inX7 7 (by decide) kw_61 rfl rfl dX6_cost_18 ?_
  refine j_iadd C dX6_cost_21 ?_
  refine j_iaload 3 C h rfl rfl dX6_cost_22 (fun h => ?_)
  cases h
  exact j_iret C E dX6_cost_23

def w_X6_isFound (D : va_G) (q_this q_ways q_ways_town q_costLeft : Nat) (w_costFirst w_streets w_corners w_costs w_again w_ways_on w_ways_back w_ways_least w_ways_town_froms w_ways_town_tos w_ways_town_lengths w_ways_town_kinds w_ways_town_figures : Value) (v_isSought : Int32) (v_due : Int32) (v_size : Int32) (v_ways_town_closed : Int32) (v_ways_town_size : Int32) (v_ways_town_home : Int32) (v_costLeft : (Nat → Int32)) : va_W := [(q_this, .inr (5, [.ref q_ways, .ref q_costLeft, w_costFirst, .int v_isSought, .int v_due, .int v_size, w_streets, w_corners, w_costs, w_again])), (q_ways, .inr (7, [.ref q_ways_town, w_ways_on, w_ways_back, w_ways_least])), (q_ways_town, .inr (6, [w_ways_town_froms, w_ways_town_tos, w_ways_town_lengths, w_ways_town_kinds, w_ways_town_figures, .int v_ways_town_closed, .int v_ways_town_size, .int v_ways_town_home])), (q_costLeft, .inl (D.1 100, 1536, .inl v_costLeft))]
def f_X6_isFound (v_due : Int32) (v_ways_town_home : Int32) (v_costLeft : (Nat → Int32)) : Option Int32 :=
  (f_X6_cost v_due v_ways_town_home v_costLeft).bind (fun r_cost_1 => gb (if (1000000 : Int32) ≤ r_cost_1 then (0 : Int32) else (1 : Int32)) (some (if (1000000 : Int32) ≤ r_cost_1 then (0 : Int32) else (1 : Int32))))
set_option maxRecDepth 100000 in
set_option maxHeartbeats 4000000 in
theorem c_X6_isFound (l : Launch) (D : va_G) {q_this q_ways q_ways_town q_costLeft : Nat} {w_costFirst w_streets w_corners w_costs w_again w_ways_on w_ways_back w_ways_least w_ways_town_froms w_ways_town_tos w_ways_town_lengths w_ways_town_kinds w_ways_town_figures : Value} {v_isSought : Int32} {v_due : Int32} {v_size : Int32} {v_ways_town_closed : Int32} {v_ways_town_size : Int32} {v_ways_town_home : Int32} {v_costLeft : (Nat → Int32)} {o : Int32} (h : f_X6_isFound v_due v_ways_town_home v_costLeft = some o) : CT l D yX6_isFound cX6_isFound 1 (Option.some FieldType.boolean) 1 [.ref q_this] (w_X6_isFound D q_this q_ways q_ways_town q_costLeft w_costFirst w_streets w_corners w_costs w_again w_ways_on w_ways_back w_ways_least w_ways_town_froms w_ways_town_tos w_ways_town_lengths w_ways_town_kinds w_ways_town_figures v_isSought v_due v_size v_ways_town_closed v_ways_town_size v_ways_town_home v_costLeft) (w_X6_isFound D q_this q_ways q_ways_town q_costLeft w_costFirst w_streets w_corners w_costs w_again w_ways_on w_ways_back w_ways_least w_ways_town_froms w_ways_town_tos w_ways_town_lengths w_ways_town_kinds w_ways_town_figures v_isSought v_due v_size v_ways_town_closed v_ways_town_size v_ways_town_home v_costLeft) (some (.int o)) := by
  refine CT.of mk_X6_isFound (Nat.le_of_ble_eq_true rfl) (fun g hl hD C E => ?_)
  subst hl
  subst hD
  unfold f_X6_isFound at h
  refine j_aload_n C dX6_isFound_0 rfl ?_
  obtain ⟨r_cost_1, h_1, h⟩ := of_bind h
  refine j_callV1 C mk_X6_cost ms_X6_cost kw_650 (c_X6_cost (gl g) (gD g) h_1) (by decide) 0 rfl rfl [0, 1, 2, 3] rfl rfl rfl rfl rfl (Nat.le_of_ble_eq_true rfl) dX6_isFound_1 ?_
  refine j_ws (ws' := (w_X6_isFound (gD g) q_this q_ways q_ways_town q_costLeft w_costFirst w_streets w_corners w_costs w_again w_ways_on w_ways_back w_ways_least w_ways_town_froms w_ways_town_tos w_ways_town_lengths w_ways_town_kinds w_ways_town_figures v_isSought v_due v_size v_ways_town_closed v_ways_town_size v_ways_town_home v_costLeft)) rfl ?_
  refine j_ldc C kw_634 dX6_isFound_4 ?_
  have hj_2 : J g (w_X6_isFound (gD g) q_this q_ways q_ways_town q_costLeft w_costFirst w_streets w_corners w_costs w_again w_ways_on w_ways_back w_ways_least w_ways_town_froms w_ways_town_tos w_ways_town_lengths w_ways_town_kinds w_ways_town_figures v_isSought v_due v_size v_ways_town_closed v_ways_town_size v_ways_town_home v_costLeft) [] 14 [.int (if (1000000 : Int32) ≤ r_cost_1 then (0 : Int32) else (1 : Int32))] := by
    obtain ⟨hz, h⟩ := of_gb h
    cases h
    exact j_zret C E hz.1 dX6_isFound_14
  refine jv_icmp_ge C 13 dX6_isFound_6 (by decide) (fun hc => ?_) (fun hc => ?_)
  · try simp only [if_pos hc] at hj_2
    refine j_iconst C (0) dX6_isFound_13 ki_0 ?_
    exact j_lw hj_2 rfl
  · try simp only [if_neg hc] at hj_2
    refine j_iconst C (1) dX6_isFound_9 ki_1 ?_
    refine j_goto C 14 dX6_isFound_10 (by decide) ?_
    exact j_lw hj_2 rfl

def w_X6_costOfSet (D : va_G) (q_this q_ways q_ways_town q_costLeft : Nat) (w_costFirst w_streets w_corners w_costs w_again w_ways_on w_ways_back w_ways_least w_ways_town_froms w_ways_town_tos w_ways_town_lengths w_ways_town_kinds w_ways_town_figures : Value) (v_isSought : Int32) (v_due : Int32) (v_size : Int32) (v_ways_town_closed : Int32) (v_ways_town_size : Int32) (v_ways_town_home : Int32) (v_costLeft : (Nat → Int32)) : va_W := [(q_this, .inr (5, [.ref q_ways, .ref q_costLeft, w_costFirst, .int v_isSought, .int v_due, .int v_size, w_streets, w_corners, w_costs, w_again])), (q_ways, .inr (7, [.ref q_ways_town, w_ways_on, w_ways_back, w_ways_least])), (q_ways_town, .inr (6, [w_ways_town_froms, w_ways_town_tos, w_ways_town_lengths, w_ways_town_kinds, w_ways_town_figures, .int v_ways_town_closed, .int v_ways_town_size, .int v_ways_town_home])), (q_costLeft, .inl (D.1 100, 1536, .inl v_costLeft))]
def f_X6_costOfSet (x1 : Int32) (v_ways_town_home : Int32) (v_costLeft : (Nat → Int32)) : Option Int32 :=
  ga ((x1 * (6 : Int32)) + v_ways_town_home) 1536 (some (v_costLeft (Int32.toNatClampNeg ((x1 * (6 : Int32)) + v_ways_town_home))))
set_option maxRecDepth 100000 in
set_option maxHeartbeats 4000000 in
theorem c_X6_costOfSet (l : Launch) (D : va_G) {q_this q_ways q_ways_town q_costLeft : Nat} {w_costFirst w_streets w_corners w_costs w_again w_ways_on w_ways_back w_ways_least w_ways_town_froms w_ways_town_tos w_ways_town_lengths w_ways_town_kinds w_ways_town_figures : Value} {v_isSought : Int32} {v_due : Int32} {v_size : Int32} {v_ways_town_closed : Int32} {v_ways_town_size : Int32} {v_ways_town_home : Int32} {v_costLeft : (Nat → Int32)} {x1 : Int32} {o : Int32} (h : f_X6_costOfSet x1 v_ways_town_home v_costLeft = some o) : CT l D yX6_costOfSet cX6_costOfSet 2 (Option.some FieldType.int) 0 [.ref q_this, .int x1] (w_X6_costOfSet D q_this q_ways q_ways_town q_costLeft w_costFirst w_streets w_corners w_costs w_again w_ways_on w_ways_back w_ways_least w_ways_town_froms w_ways_town_tos w_ways_town_lengths w_ways_town_kinds w_ways_town_figures v_isSought v_due v_size v_ways_town_closed v_ways_town_size v_ways_town_home v_costLeft) (w_X6_costOfSet D q_this q_ways q_ways_town q_costLeft w_costFirst w_streets w_corners w_costs w_again w_ways_on w_ways_back w_ways_least w_ways_town_froms w_ways_town_tos w_ways_town_lengths w_ways_town_kinds w_ways_town_figures v_isSought v_due v_size v_ways_town_closed v_ways_town_size v_ways_town_home v_costLeft) (some (.int o)) := by
  refine CT.of mk_X6_costOfSet (Nat.le_of_ble_eq_true rfl) (fun g hl hD C E => ?_)
  subst hl
  subst hD
  unfold f_X6_costOfSet at h
  refine j_aload_n C dX6_costOfSet_0 rfl ?_
  refine j_get C 0 rfl rfl inX6 1 (by decide) kw_118 rfl rfl dX6_costOfSet_1 ?_
  refine j_iload_n C dX6_costOfSet_4 rfl ?_
  refine j_bipush C (6) dX6_costOfSet_5 kb_6 ?_
  refine j_imul C dX6_costOfSet_7 ?_
  refine j_aload_n C dX6_costOfSet_8 rfl ?_
  refine j_get C 0 rfl rfl inX6 0 (by decide) kw_117 rfl rfl dX6_costOfSet_9 ?_
  refine j_get C 1 rfl rfl inX8 0 (by decide) kw_92 rfl rfl dX6_costOfSet_12 ?_
  refine j_get C 2 rfl rfl inX7 7 (by decide) kw_61 rfl rfl dX6_costOfSet_15 ?_
  refine j_iadd C dX6_costOfSet_18 ?_
  refine j_iaload 3 C h rfl rfl dX6_costOfSet_19 (fun h => ?_)
  cases h
  exact j_iret C E dX6_costOfSet_20

def w_X6_cornersToTell (D : va_G) (q_this q_ways q_ways_town q_costLeft : Nat) (w_costFirst w_streets w_corners w_costs w_again w_ways_on w_ways_back w_ways_least w_ways_town_froms w_ways_town_tos w_ways_town_lengths w_ways_town_kinds w_ways_town_figures : Value) (v_isSought : Int32) (v_due : Int32) (v_size : Int32) (v_ways_town_closed : Int32) (v_ways_town_size : Int32) (v_ways_town_home : Int32) (v_costLeft : (Nat → Int32)) : va_W := [(q_this, .inr (5, [.ref q_ways, .ref q_costLeft, w_costFirst, .int v_isSought, .int v_due, .int v_size, w_streets, w_corners, w_costs, w_again])), (q_ways, .inr (7, [.ref q_ways_town, w_ways_on, w_ways_back, w_ways_least])), (q_ways_town, .inr (6, [w_ways_town_froms, w_ways_town_tos, w_ways_town_lengths, w_ways_town_kinds, w_ways_town_figures, .int v_ways_town_closed, .int v_ways_town_size, .int v_ways_town_home])), (q_costLeft, .inl (D.1 100, 1536, .inl v_costLeft))]
def f_X6_cornersToTell (v_due : Int32) (v_size : Int32) (v_ways_town_home : Int32) (v_costLeft : (Nat → Int32)) : Option Int32 :=
  (f_X6_isFound v_due v_ways_town_home v_costLeft).bind (fun r_isFound_1 => some (if r_isFound_1 = 0 then (0 : Int32) else (v_size + (1 : Int32))))
set_option maxRecDepth 100000 in
set_option maxHeartbeats 4000000 in
theorem c_X6_cornersToTell (l : Launch) (D : va_G) {q_this q_ways q_ways_town q_costLeft : Nat} {w_costFirst w_streets w_corners w_costs w_again w_ways_on w_ways_back w_ways_least w_ways_town_froms w_ways_town_tos w_ways_town_lengths w_ways_town_kinds w_ways_town_figures : Value} {v_isSought : Int32} {v_due : Int32} {v_size : Int32} {v_ways_town_closed : Int32} {v_ways_town_size : Int32} {v_ways_town_home : Int32} {v_costLeft : (Nat → Int32)} {o : Int32} (h : f_X6_cornersToTell v_due v_size v_ways_town_home v_costLeft = some o) : CT l D yX6_cornersToTell cX6_cornersToTell 1 (Option.some FieldType.int) 2 [.ref q_this] (w_X6_cornersToTell D q_this q_ways q_ways_town q_costLeft w_costFirst w_streets w_corners w_costs w_again w_ways_on w_ways_back w_ways_least w_ways_town_froms w_ways_town_tos w_ways_town_lengths w_ways_town_kinds w_ways_town_figures v_isSought v_due v_size v_ways_town_closed v_ways_town_size v_ways_town_home v_costLeft) (w_X6_cornersToTell D q_this q_ways q_ways_town q_costLeft w_costFirst w_streets w_corners w_costs w_again w_ways_on w_ways_back w_ways_least w_ways_town_froms w_ways_town_tos w_ways_town_lengths w_ways_town_kinds w_ways_town_figures v_isSought v_due v_size v_ways_town_closed v_ways_town_size v_ways_town_home v_costLeft) (some (.int o)) := by
  refine CT.of mk_X6_cornersToTell (Nat.le_of_ble_eq_true rfl) (fun g hl hD C E => ?_)
  subst hl
  subst hD
  unfold f_X6_cornersToTell at h
  refine j_aload_n C dX6_cornersToTell_0 rfl ?_
  obtain ⟨r_isFound_1, h_1, h⟩ := of_bind h
  refine j_callV1 C mk_X6_isFound ms_X6_isFound kw_646 (c_X6_isFound (gl g) (gD g) h_1) (by decide) 0 rfl rfl [0, 1, 2, 3] rfl rfl rfl rfl rfl (Nat.le_of_ble_eq_true rfl) dX6_cornersToTell_1 ?_
  refine j_ws (ws' := (w_X6_cornersToTell (gD g) q_this q_ways q_ways_town q_costLeft w_costFirst w_streets w_corners w_costs w_again w_ways_on w_ways_back w_ways_least w_ways_town_froms w_ways_town_tos w_ways_town_lengths w_ways_town_kinds w_ways_town_figures v_isSought v_due v_size v_ways_town_closed v_ways_town_size v_ways_town_home v_costLeft)) rfl ?_
  have hj_2 : J g (w_X6_cornersToTell (gD g) q_this q_ways q_ways_town q_costLeft w_costFirst w_streets w_corners w_costs w_again w_ways_on w_ways_back w_ways_least w_ways_town_froms w_ways_town_tos w_ways_town_lengths w_ways_town_kinds w_ways_town_figures v_isSought v_due v_size v_ways_town_closed v_ways_town_size v_ways_town_home v_costLeft) [] 17 [.int (if r_isFound_1 = 0 then (0 : Int32) else (v_size + (1 : Int32)))] := by
    cases h
    exact j_iret C E dX6_cornersToTell_17
  refine jv_if_eq C 16 dX6_cornersToTell_4 (by decide) (fun hc => ?_) (fun hc => ?_)
  · try simp only [if_pos hc] at hj_2
    refine j_iconst C (0) dX6_cornersToTell_16 ki_0 ?_
    exact j_lw hj_2 rfl
  · try simp only [if_neg hc] at hj_2
    refine j_aload_n C dX6_cornersToTell_7 rfl ?_
    refine j_get C 0 rfl rfl inX6 5 (by decide) kw_123 rfl rfl dX6_cornersToTell_8 ?_
    refine j_iconst C (1) dX6_cornersToTell_11 ki_1 ?_
    refine j_iadd C dX6_cornersToTell_12 ?_
    refine j_goto C 17 dX6_cornersToTell_13 (by decide) ?_
    exact j_lw hj_2 rfl

def w_X6_stepsAgain (D : va_G) (q_this q_again : Nat) (w_ways w_costLeft w_costFirst w_streets w_corners w_costs : Value) (v_isSought : Int32) (v_due : Int32) (v_size : Int32) (v_again : (Nat → Int32)) : va_W := [(q_this, .inr (5, [w_ways, w_costLeft, w_costFirst, .int v_isSought, .int v_due, .int v_size, w_streets, w_corners, w_costs, .ref q_again])), (q_again, .inl (D.1 101, 64, .inl v_again))]
def f_X6_stepsAgain_b4 (v_size : Int32) (x2_4 : Int32) (x1_4 : Int32) (v_again : (Nat → Int32)) : Option ((Int32 × Int32) ⊕ Int32) :=
  (if v_size ≤ x2_4 then some (.inr x1_4) else ga x2_4 64 (some (.inl (x1_4 + (if (v_again (Int32.toNatClampNeg x2_4)) = 0 then (0 : Int32) else (1 : Int32)), x2_4 + (1 : Int32)))))
def f_X6_stepsAgain (N : Nat) (v_size : Int32) (v_again : (Nat → Int32)) : Option Int32 :=
  (lp (fun s_4 => f_X6_stepsAgain_b4 v_size s_4.2 s_4.1 v_again) N ((0 : Int32), (0 : Int32))).bind (fun e_4 => some e_4)
set_option maxRecDepth 100000 in
set_option maxHeartbeats 4000000 in
theorem c_X6_stepsAgain (l : Launch) (D : va_G) (N : Nat) {q_this q_again : Nat} {w_ways w_costLeft w_costFirst w_streets w_corners w_costs : Value} {v_isSought : Int32} {v_due : Int32} {v_size : Int32} {v_again : (Nat → Int32)} {o : Int32} (h : f_X6_stepsAgain N v_size v_again = some o) : CT l D yX6_stepsAgain cX6_stepsAgain 3 (Option.some FieldType.int) 0 [.ref q_this] (w_X6_stepsAgain D q_this q_again w_ways w_costLeft w_costFirst w_streets w_corners w_costs v_isSought v_due v_size v_again) (w_X6_stepsAgain D q_this q_again w_ways w_costLeft w_costFirst w_streets w_corners w_costs v_isSought v_due v_size v_again) (some (.int o)) := by
  refine CT.of mk_X6_stepsAgain (Nat.le_of_ble_eq_true rfl) (fun g hl hD C E => ?_)
  subst hl
  subst hD
  unfold f_X6_stepsAgain at h
  refine j_iconst C (0) dX6_stepsAgain_0 ki_0 ?_
  refine j_istore_n C dX6_stepsAgain_1 (by decide) ?_
  refine j_iconst C (0) dX6_stepsAgain_2 ki_0 ?_
  refine j_istore_n C dX6_stepsAgain_3 (by decide) ?_
  obtain ⟨e_4, hl_4, h⟩ := of_bind h
  have ha_4 : J g (w_X6_stepsAgain (gD g) q_this q_again w_ways w_costLeft w_costFirst w_streets w_corners w_costs v_isSought v_due v_size v_again) [(1, .int (e_4))] 35 [] := by
    refine j_iload_n C dX6_stepsAgain_35 rfl ?_
    cases h
    exact j_iret C E dX6_stepsAgain_36
  refine j_lv (lv' := [(0, .ref q_this), (1, .int ((0 : Int32))), (2, .int ((0 : Int32)))]) rfl ?_
  refine lp_ind hl_4 (fun s_4 => J g (w_X6_stepsAgain (gD g) q_this q_again w_ways w_costLeft w_costFirst w_streets w_corners w_costs v_isSought v_due v_size v_again) [(0, .ref q_this), (1, .int (s_4.1)), (2, .int (s_4.2))] 4 []) (fun s_4 r_4 h hc_4 hx_4 => ?_)
  unfold f_X6_stepsAgain_b4 at h
  refine j_iload_n C dX6_stepsAgain_4 rfl ?_
  refine j_aload_n C dX6_stepsAgain_5 rfl ?_
  refine j_get C 0 rfl rfl inX6 5 (by decide) kw_123 rfl rfl dX6_stepsAgain_6 ?_
  refine j_icmp_ge C h 35 dX6_stepsAgain_9 (by decide) (fun hc h => ?_) (fun hc h => ?_)
  · cases h
    have h9 := hx_4 _ rfl
    subst h9
    exact j_lw ha_4 rfl
  · refine j_iload_n C dX6_stepsAgain_12 rfl ?_
    refine j_aload_n C dX6_stepsAgain_13 rfl ?_
    refine j_get C 0 rfl rfl inX6 9 (by decide) kw_131 rfl rfl dX6_stepsAgain_14 ?_
    refine j_iload_n C dX6_stepsAgain_17 rfl ?_
    refine j_zaload 1 C h rfl rfl dX6_stepsAgain_18 (fun h => ?_)
    have hj_1 : J g (w_X6_stepsAgain (gD g) q_this q_again w_ways w_costLeft w_costFirst w_streets w_corners w_costs v_isSought v_due v_size v_again) [(0, .ref q_this), (2, .int (s_4.2))] 27 [.int (if (v_again (Int32.toNatClampNeg s_4.2)) = 0 then (0 : Int32) else (1 : Int32)), .int (s_4.1)] := by
      refine j_iadd C dX6_stepsAgain_27 ?_
      refine j_istore_n C dX6_stepsAgain_28 (by decide) ?_
      refine j_inc C (1) dX6_stepsAgain_29 rfl ki_1 (by decide) ?_
      refine j_goto C 4 dX6_stepsAgain_32 (by decide) ?_
      cases h
      have hc9 := hc_4 _ rfl
      exact j_lw hc9 rfl
    refine jv_if_eq C 26 dX6_stepsAgain_19 (by decide) (fun hc => ?_) (fun hc => ?_)
    · try simp only [if_pos hc] at hj_1
      refine j_iconst C (0) dX6_stepsAgain_26 ki_0 ?_
      exact j_lw hj_1 rfl
    · try simp only [if_neg hc] at hj_1
      refine j_iconst C (1) dX6_stepsAgain_22 ki_1 ?_
      refine j_goto C 27 dX6_stepsAgain_23 (by decide) ?_
      exact j_lw hj_1 rfl

def w_X6_costAgain (D : va_G) (q_this q_costs q_again : Nat) (w_ways w_costLeft w_costFirst w_streets w_corners : Value) (v_isSought : Int32) (v_due : Int32) (v_size : Int32) (v_costs : (Nat → Int32)) (v_again : (Nat → Int32)) : va_W := [(q_this, .inr (5, [w_ways, w_costLeft, w_costFirst, .int v_isSought, .int v_due, .int v_size, w_streets, w_corners, .ref q_costs, .ref q_again])), (q_costs, .inl (D.1 100, 64, .inl v_costs)), (q_again, .inl (D.1 101, 64, .inl v_again))]
def f_X6_costAgain_b4 (v_size : Int32) (x2_4 : Int32) (x1_4 : Int32) (v_again : (Nat → Int32)) (v_costs : (Nat → Int32)) : Option ((Int32 × Int32) ⊕ Int32) :=
  (if v_size ≤ x2_4 then some (.inr x1_4) else ga x2_4 64 ((if (v_again (Int32.toNatClampNeg x2_4)) = 0 then some (.inl (x1_4 + (0 : Int32), x2_4 + (1 : Int32))) else ga x2_4 64 (some (.inl (x1_4 + (v_costs (Int32.toNatClampNeg x2_4)), x2_4 + (1 : Int32)))))))
def f_X6_costAgain (N : Nat) (v_size : Int32) (v_costs : (Nat → Int32)) (v_again : (Nat → Int32)) : Option Int32 :=
  (lp (fun s_4 => f_X6_costAgain_b4 v_size s_4.2 s_4.1 v_again v_costs) N ((0 : Int32), (0 : Int32))).bind (fun e_4 => some e_4)
set_option maxRecDepth 100000 in
set_option maxHeartbeats 4000000 in
theorem c_X6_costAgain (l : Launch) (D : va_G) (N : Nat) {q_this q_costs q_again : Nat} {w_ways w_costLeft w_costFirst w_streets w_corners : Value} {v_isSought : Int32} {v_due : Int32} {v_size : Int32} {v_costs : (Nat → Int32)} {v_again : (Nat → Int32)} {o : Int32} (h : f_X6_costAgain N v_size v_costs v_again = some o) : CT l D yX6_costAgain cX6_costAgain 3 (Option.some FieldType.int) 0 [.ref q_this] (w_X6_costAgain D q_this q_costs q_again w_ways w_costLeft w_costFirst w_streets w_corners v_isSought v_due v_size v_costs v_again) (w_X6_costAgain D q_this q_costs q_again w_ways w_costLeft w_costFirst w_streets w_corners v_isSought v_due v_size v_costs v_again) (some (.int o)) := by
  refine CT.of mk_X6_costAgain (Nat.le_of_ble_eq_true rfl) (fun g hl hD C E => ?_)
  subst hl
  subst hD
  unfold f_X6_costAgain at h
  refine j_iconst C (0) dX6_costAgain_0 ki_0 ?_
  refine j_istore_n C dX6_costAgain_1 (by decide) ?_
  refine j_iconst C (0) dX6_costAgain_2 ki_0 ?_
  refine j_istore_n C dX6_costAgain_3 (by decide) ?_
  obtain ⟨e_4, hl_4, h⟩ := of_bind h
  have ha_4 : J g (w_X6_costAgain (gD g) q_this q_costs q_again w_ways w_costLeft w_costFirst w_streets w_corners v_isSought v_due v_size v_costs v_again) [(1, .int (e_4))] 40 [] := by
    refine j_iload_n C dX6_costAgain_40 rfl ?_
    cases h
    exact j_iret C E dX6_costAgain_41
  refine j_lv (lv' := [(0, .ref q_this), (1, .int ((0 : Int32))), (2, .int ((0 : Int32)))]) rfl ?_
  refine lp_ind hl_4 (fun s_4 => J g (w_X6_costAgain (gD g) q_this q_costs q_again w_ways w_costLeft w_costFirst w_streets w_corners v_isSought v_due v_size v_costs v_again) [(0, .ref q_this), (1, .int (s_4.1)), (2, .int (s_4.2))] 4 []) (fun s_4 r_4 h hc_4 hx_4 => ?_)
  unfold f_X6_costAgain_b4 at h
  refine j_iload_n C dX6_costAgain_4 rfl ?_
  refine j_aload_n C dX6_costAgain_5 rfl ?_
  refine j_get C 0 rfl rfl inX6 5 (by decide) kw_123 rfl rfl dX6_costAgain_6 ?_
  refine j_icmp_ge C h 40 dX6_costAgain_9 (by decide) (fun hc h => ?_) (fun hc h => ?_)
  · cases h
    have h9 := hx_4 _ rfl
    subst h9
    exact j_lw ha_4 rfl
  · refine j_iload_n C dX6_costAgain_12 rfl ?_
    refine j_aload_n C dX6_costAgain_13 rfl ?_
    refine j_get C 0 rfl rfl inX6 9 (by decide) kw_131 rfl rfl dX6_costAgain_14 ?_
    refine j_iload_n C dX6_costAgain_17 rfl ?_
    refine j_zaload 2 C h rfl rfl dX6_costAgain_18 (fun h => ?_)
    refine j_if_eq C h 31 dX6_costAgain_19 (by decide) (fun hc h => ?_) (fun hc h => ?_)
    · refine j_iconst C (0) dX6_costAgain_31 ki_0 ?_
      refine j_iadd C dX6_costAgain_32 ?_
      refine j_istore_n C dX6_costAgain_33 (by decide) ?_
      refine j_inc C (1) dX6_costAgain_34 rfl ki_1 (by decide) ?_
      refine j_goto C 4 dX6_costAgain_37 (by decide) ?_
      cases h
      have hc9 := hc_4 _ rfl
      exact j_lw hc9 rfl
    · refine j_aload_n C dX6_costAgain_22 rfl ?_
      refine j_get C 0 rfl rfl inX6 8 (by decide) kw_129 rfl rfl dX6_costAgain_23 ?_
      refine j_iload_n C dX6_costAgain_26 rfl ?_
      refine j_iaload 1 C h rfl rfl dX6_costAgain_27 (fun h => ?_)
      refine j_goto C 32 dX6_costAgain_28 (by decide) ?_
      refine j_iadd C dX6_costAgain_32 ?_
      refine j_istore_n C dX6_costAgain_33 (by decide) ?_
      refine j_inc C (1) dX6_costAgain_34 rfl ki_1 (by decide) ?_
      refine j_goto C 4 dX6_costAgain_37 (by decide) ?_
      cases h
      have hc9 := hc_4 _ rfl
      exact j_lw hc9 rfl

def w_X6_looseCost (D : va_G) (q_this q_costLeft : Nat) (w_ways w_costFirst w_streets w_corners w_costs w_again : Value) (v_isSought : Int32) (v_due : Int32) (v_size : Int32) (v_costLeft : (Nat → Int32)) : va_W := [(q_this, .inr (5, [w_ways, .ref q_costLeft, w_costFirst, .int v_isSought, .int v_due, .int v_size, w_streets, w_corners, w_costs, w_again])), (q_costLeft, .inl (D.1 100, 1536, .inl v_costLeft))]
def f_X6_looseCost (x1 : Int32) (v_due : Int32) (v_costLeft : (Nat → Int32)) : Option Int32 :=
  ga ((v_due * (6 : Int32)) + x1) 1536 (some (v_costLeft (Int32.toNatClampNeg ((v_due * (6 : Int32)) + x1))))
set_option maxRecDepth 100000 in
set_option maxHeartbeats 4000000 in
theorem c_X6_looseCost (l : Launch) (D : va_G) {q_this q_costLeft : Nat} {w_ways w_costFirst w_streets w_corners w_costs w_again : Value} {v_isSought : Int32} {v_due : Int32} {v_size : Int32} {v_costLeft : (Nat → Int32)} {x1 : Int32} {o : Int32} (h : f_X6_looseCost x1 v_due v_costLeft = some o) : CT l D yX6_looseCost cX6_looseCost 2 (Option.some FieldType.int) 0 [.ref q_this, .int x1] (w_X6_looseCost D q_this q_costLeft w_ways w_costFirst w_streets w_corners w_costs w_again v_isSought v_due v_size v_costLeft) (w_X6_looseCost D q_this q_costLeft w_ways w_costFirst w_streets w_corners w_costs w_again v_isSought v_due v_size v_costLeft) (some (.int o)) := by
  refine CT.of mk_X6_looseCost (Nat.le_of_ble_eq_true rfl) (fun g hl hD C E => ?_)
  subst hl
  subst hD
  unfold f_X6_looseCost at h
  refine j_aload_n C dX6_looseCost_0 rfl ?_
  refine j_get C 0 rfl rfl inX6 1 (by decide) kw_118 rfl rfl dX6_looseCost_1 ?_
  refine j_aload_n C dX6_looseCost_4 rfl ?_
  refine j_get C 0 rfl rfl inX6 4 (by decide) kw_121 rfl rfl dX6_looseCost_5 ?_
  refine j_bipush C (6) dX6_looseCost_8 kb_6 ?_
  refine j_imul C dX6_looseCost_10 ?_
  refine j_iload_n C dX6_looseCost_11 rfl ?_
  refine j_iadd C dX6_looseCost_12 ?_
  refine j_iaload 1 C h rfl rfl dX6_looseCost_13 (fun h => ?_)
  cases h
  exact j_iret C E dX6_looseCost_14

def w_X6_measureFirst (D : va_G) (q_this q_ways q_ways_town q_ways_town_froms q_ways_town_tos q_ways_on q_ways_back q_costLeft q_costFirst : Nat) (w_streets w_corners w_costs w_again w_ways_least w_ways_town_lengths w_ways_town_kinds w_ways_town_figures : Value) (v_isSought : Int32) (v_due : Int32) (v_size : Int32) (v_ways_town_closed : Int32) (v_ways_town_size : Int32) (v_ways_town_home : Int32) (v_ways_town_froms : (Nat → Int32)) (v_ways_town_tos : (Nat → Int32)) (v_ways_on : (Nat → Int32)) (v_ways_back : (Nat → Int32)) (v_costLeft : (Nat → Int32)) (v_costFirst : (Nat → Int32)) : va_W := [(q_this, .inr (5, [.ref q_ways, .ref q_costLeft, .ref q_costFirst, .int v_isSought, .int v_due, .int v_size, w_streets, w_corners, w_costs, w_again])), (q_ways, .inr (7, [.ref q_ways_town, .ref q_ways_on, .ref q_ways_back, w_ways_least])), (q_ways_town, .inr (6, [.ref q_ways_town_froms, .ref q_ways_town_tos, w_ways_town_lengths, w_ways_town_kinds, w_ways_town_figures, .int v_ways_town_closed, .int v_ways_town_size, .int v_ways_town_home])), (q_ways_town_froms, .inl (D.1 100, 8, .inl v_ways_town_froms)), (q_ways_town_tos, .inl (D.1 100, 8, .inl v_ways_town_tos)), (q_ways_on, .inl (D.1 100, 8, .inl v_ways_on)), (q_ways_back, .inl (D.1 100, 8, .inl v_ways_back)), (q_costLeft, .inl (D.1 100, 1536, .inl v_costLeft)), (q_costFirst, .inl (D.1 100, 6, .inl v_costFirst))]
def f_X6_measureFirst_b2 (x2_2 : Int32) (v_costFirst_2 : (Nat → Int32)) : Option ((Int32 × (Nat → Int32)) ⊕ (Nat → Int32)) :=
  (if (6 : Int32) ≤ x2_2 then some (.inr v_costFirst_2) else ga x2_2 6 (some (.inl (x2_2 + (1 : Int32), upd v_costFirst_2 (Int32.toNatClampNeg x2_2) (1000000 : Int32)))))
def f_X6_measureFirst_b24 (v_ways_town_size : Int32) (x2_24 : Int32) (v_costFirst_24 : (Nat → Int32)) (x1 : Int32) (v_ways_town_froms : (Nat → Int32)) (v_ways_town_tos : (Nat → Int32)) (v_ways_on : (Nat → Int32)) (v_costLeft : (Nat → Int32)) (v_ways_back : (Nat → Int32)) : Option ((Int32 × (Nat → Int32)) ⊕ (Nat → Int32)) :=
  (if v_ways_town_size ≤ x2_24 then some (.inr v_costFirst_24) else (if ((x1 >>> (x2_24 &&& 31)) &&& (1 : Int32)) = 0 then some (.inl (x2_24 + (1 : Int32), v_costFirst_24)) else ga x2_24 8 (ga x2_24 8 (ga (v_ways_town_froms (Int32.toNatClampNeg x2_24)) 6 (ga x2_24 8 (ga (((x1 &&& (((1 : Int32) <<< (x2_24 &&& 31)) ^^^ (-1 : Int32))) * (6 : Int32)) + (v_ways_town_tos (Int32.toNatClampNeg x2_24))) 1536 (ga (v_ways_town_froms (Int32.toNatClampNeg x2_24)) 6 (ga (v_ways_town_tos (Int32.toNatClampNeg x2_24)) 6 (ga x2_24 8 (ga (((x1 &&& (((1 : Int32) <<< (x2_24 &&& 31)) ^^^ (-1 : Int32))) * (6 : Int32)) + (v_ways_town_froms (Int32.toNatClampNeg x2_24))) 1536 (ga (v_ways_town_tos (Int32.toNatClampNeg x2_24)) 6 (some (.inl (x2_24 + (1 : Int32), upd (upd v_costFirst_24 (Int32.toNatClampNeg (v_ways_town_froms (Int32.toNatClampNeg x2_24))) (if ((v_ways_on (Int32.toNatClampNeg x2_24)) + (v_costLeft (Int32.toNatClampNeg (((x1 &&& (((1 : Int32) <<< (x2_24 &&& 31)) ^^^ (-1 : Int32))) * (6 : Int32)) + (v_ways_town_tos (Int32.toNatClampNeg x2_24)))))) < (v_costFirst_24 (Int32.toNatClampNeg (v_ways_town_froms (Int32.toNatClampNeg x2_24)))) then ((v_ways_on (Int32.toNatClampNeg x2_24)) + (v_costLeft (Int32.toNatClampNeg (((x1 &&& (((1 : Int32) <<< (x2_24 &&& 31)) ^^^ (-1 : Int32))) * (6 : Int32)) + (v_ways_town_tos (Int32.toNatClampNeg x2_24)))))) else (v_costFirst_24 (Int32.toNatClampNeg (v_ways_town_froms (Int32.toNatClampNeg x2_24)))))) (Int32.toNatClampNeg (v_ways_town_tos (Int32.toNatClampNeg x2_24))) (if ((v_ways_back (Int32.toNatClampNeg x2_24)) + (v_costLeft (Int32.toNatClampNeg (((x1 &&& (((1 : Int32) <<< (x2_24 &&& 31)) ^^^ (-1 : Int32))) * (6 : Int32)) + (v_ways_town_froms (Int32.toNatClampNeg x2_24)))))) < ((upd v_costFirst_24 (Int32.toNatClampNeg (v_ways_town_froms (Int32.toNatClampNeg x2_24))) (if ((v_ways_on (Int32.toNatClampNeg x2_24)) + (v_costLeft (Int32.toNatClampNeg (((x1 &&& (((1 : Int32) <<< (x2_24 &&& 31)) ^^^ (-1 : Int32))) * (6 : Int32)) + (v_ways_town_tos (Int32.toNatClampNeg x2_24)))))) < (v_costFirst_24 (Int32.toNatClampNeg (v_ways_town_froms (Int32.toNatClampNeg x2_24)))) then ((v_ways_on (Int32.toNatClampNeg x2_24)) + (v_costLeft (Int32.toNatClampNeg (((x1 &&& (((1 : Int32) <<< (x2_24 &&& 31)) ^^^ (-1 : Int32))) * (6 : Int32)) + (v_ways_town_tos (Int32.toNatClampNeg x2_24)))))) else (v_costFirst_24 (Int32.toNatClampNeg (v_ways_town_froms (Int32.toNatClampNeg x2_24)))))) (Int32.toNatClampNeg (v_ways_town_tos (Int32.toNatClampNeg x2_24)))) then ((v_ways_back (Int32.toNatClampNeg x2_24)) + (v_costLeft (Int32.toNatClampNeg (((x1 &&& (((1 : Int32) <<< (x2_24 &&& 31)) ^^^ (-1 : Int32))) * (6 : Int32)) + (v_ways_town_froms (Int32.toNatClampNeg x2_24)))))) else ((upd v_costFirst_24 (Int32.toNatClampNeg (v_ways_town_froms (Int32.toNatClampNeg x2_24))) (if ((v_ways_on (Int32.toNatClampNeg x2_24)) + (v_costLeft (Int32.toNatClampNeg (((x1 &&& (((1 : Int32) <<< (x2_24 &&& 31)) ^^^ (-1 : Int32))) * (6 : Int32)) + (v_ways_town_tos (Int32.toNatClampNeg x2_24)))))) < (v_costFirst_24 (Int32.toNatClampNeg (v_ways_town_froms (Int32.toNatClampNeg x2_24)))) then ((v_ways_on (Int32.toNatClampNeg x2_24)) + (v_costLeft (Int32.toNatClampNeg (((x1 &&& (((1 : Int32) <<< (x2_24 &&& 31)) ^^^ (-1 : Int32))) * (6 : Int32)) + (v_ways_town_tos (Int32.toNatClampNeg x2_24)))))) else (v_costFirst_24 (Int32.toNatClampNeg (v_ways_town_froms (Int32.toNatClampNeg x2_24)))))) (Int32.toNatClampNeg (v_ways_town_tos (Int32.toNatClampNeg x2_24)))))))))))))))))))
def f_X6_measureFirst (N : Nat) (x1 : Int32) (v_ways_town_size : Int32) (v_ways_town_froms : (Nat → Int32)) (v_ways_town_tos : (Nat → Int32)) (v_ways_on : (Nat → Int32)) (v_ways_back : (Nat → Int32)) (v_costLeft : (Nat → Int32)) (v_costFirst : (Nat → Int32)) : Option (Nat → Int32) :=
  (lp (fun s_2 => f_X6_measureFirst_b2 s_2.1 s_2.2) N ((0 : Int32), v_costFirst)).bind (fun e_2 => (lp (fun s_24 => f_X6_measureFirst_b24 v_ways_town_size s_24.1 s_24.2 x1 v_ways_town_froms v_ways_town_tos v_ways_on v_costLeft v_ways_back) N ((0 : Int32), e_2)).bind (fun e_24 => some e_24))
set_option maxRecDepth 100000 in
set_option maxHeartbeats 4000000 in
theorem c_X6_measureFirst (l : Launch) (D : va_G) (N : Nat) {q_this q_ways q_ways_town q_ways_town_froms q_ways_town_tos q_ways_on q_ways_back q_costLeft q_costFirst : Nat} {w_streets w_corners w_costs w_again w_ways_least w_ways_town_lengths w_ways_town_kinds w_ways_town_figures : Value} {v_isSought : Int32} {v_due : Int32} {v_size : Int32} {v_ways_town_closed : Int32} {v_ways_town_size : Int32} {v_ways_town_home : Int32} {v_ways_town_froms : (Nat → Int32)} {v_ways_town_tos : (Nat → Int32)} {v_ways_on : (Nat → Int32)} {v_ways_back : (Nat → Int32)} {v_costLeft : (Nat → Int32)} {v_costFirst : (Nat → Int32)} {x1 : Int32} {o : (Nat → Int32)} (h : f_X6_measureFirst N x1 v_ways_town_size v_ways_town_froms v_ways_town_tos v_ways_on v_ways_back v_costLeft v_costFirst = some o) : CT l D yX6_measureFirst cX6_measureFirst 6 (Option.none : Option FieldType) 1 [.ref q_this, .int x1] (w_X6_measureFirst D q_this q_ways q_ways_town q_ways_town_froms q_ways_town_tos q_ways_on q_ways_back q_costLeft q_costFirst w_streets w_corners w_costs w_again w_ways_least w_ways_town_lengths w_ways_town_kinds w_ways_town_figures v_isSought v_due v_size v_ways_town_closed v_ways_town_size v_ways_town_home v_ways_town_froms v_ways_town_tos v_ways_on v_ways_back v_costLeft v_costFirst) (w_X6_measureFirst D q_this q_ways q_ways_town q_ways_town_froms q_ways_town_tos q_ways_on q_ways_back q_costLeft q_costFirst w_streets w_corners w_costs w_again w_ways_least w_ways_town_lengths w_ways_town_kinds w_ways_town_figures v_isSought v_due v_size v_ways_town_closed v_ways_town_size v_ways_town_home v_ways_town_froms v_ways_town_tos v_ways_on v_ways_back v_costLeft o) (none) := by
  refine CT.of mk_X6_measureFirst (Nat.le_of_ble_eq_true rfl) (fun g hl hD C E => ?_)
  subst hl
  subst hD
  unfold f_X6_measureFirst at h
  refine j_iconst C (0) dX6_measureFirst_0 ki_0 ?_
  refine j_istore_n C dX6_measureFirst_1 (by decide) ?_
  obtain ⟨e_2, hl_2, h⟩ := of_bind h
  have ha_2 : J g (w_X6_measureFirst (gD g) q_this q_ways q_ways_town q_ways_town_froms q_ways_town_tos q_ways_on q_ways_back q_costLeft q_costFirst w_streets w_corners w_costs w_again w_ways_least w_ways_town_lengths w_ways_town_kinds w_ways_town_figures v_isSought v_due v_size v_ways_town_closed v_ways_town_size v_ways_town_home v_ways_town_froms v_ways_town_tos v_ways_on v_ways_back v_costLeft e_2) [(0, .ref q_this), (1, .int (x1))] 22 [] := by
    refine j_iconst C (0) dX6_measureFirst_22 ki_0 ?_
    refine j_istore_n C dX6_measureFirst_23 (by decide) ?_
    obtain ⟨e_24, hl_24, h⟩ := of_bind h
    have ha_24 : J g (w_X6_measureFirst (gD g) q_this q_ways q_ways_town q_ways_town_froms q_ways_town_tos q_ways_on q_ways_back q_costLeft q_costFirst w_streets w_corners w_costs w_again w_ways_least w_ways_town_lengths w_ways_town_kinds w_ways_town_figures v_isSought v_due v_size v_ways_town_closed v_ways_town_size v_ways_town_home v_ways_town_froms v_ways_town_tos v_ways_on v_ways_back v_costLeft e_24) [] 163 [] := by
      cases h
      exact j_vret C E dX6_measureFirst_163
    refine j_lv (lv' := [(0, .ref q_this), (1, .int (x1)), (2, .int ((0 : Int32)))]) rfl ?_
    refine lp_ind hl_24 (fun s_24 => J g (w_X6_measureFirst (gD g) q_this q_ways q_ways_town q_ways_town_froms q_ways_town_tos q_ways_on q_ways_back q_costLeft q_costFirst w_streets w_corners w_costs w_again w_ways_least w_ways_town_lengths w_ways_town_kinds w_ways_town_figures v_isSought v_due v_size v_ways_town_closed v_ways_town_size v_ways_town_home v_ways_town_froms v_ways_town_tos v_ways_on v_ways_back v_costLeft s_24.2) [(0, .ref q_this), (1, .int (x1)), (2, .int (s_24.1))] 24 []) (fun s_24 r_24 h hc_24 hx_24 => ?_)
    unfold f_X6_measureFirst_b24 at h
    refine j_iload_n C dX6_measureFirst_24 rfl ?_
    refine j_aload_n C dX6_measureFirst_25 rfl ?_
    refine j_get C 0 rfl rfl inX6 0 (by decide) kw_117 rfl rfl dX6_measureFirst_26 ?_
    refine j_get C 1 rfl rfl inX8 0 (by decide) kw_92 rfl rfl dX6_measureFirst_29 ?_
    refine j_get C 2 rfl rfl inX7 6 (by decide) kw_58 rfl rfl dX6_measureFirst_32 ?_
    refine j_icmp_ge C h 163 dX6_measureFirst_35 (by decide) (fun hc h => ?_) (fun hc h => ?_)
    · cases h
      have h9 := hx_24 _ rfl
      subst h9
      exact j_lw ha_24 rfl
    · refine j_iload_n C dX6_measureFirst_38 rfl ?_
      refine j_iload_n C dX6_measureFirst_39 rfl ?_
      refine j_ishr C dX6_measureFirst_40 ?_
      refine j_iconst C (1) dX6_measureFirst_41 ki_1 ?_
      refine j_iand C dX6_measureFirst_42 ?_
      refine j_if_eq C h 157 dX6_measureFirst_43 (by decide) (fun hc h => ?_) (fun hc h => ?_)
      · refine j_inc C (1) dX6_measureFirst_157 rfl ki_1 (by decide) ?_
        refine j_goto C 24 dX6_measureFirst_160 (by decide) ?_
        cases h
        have hc9 := hc_24 _ rfl
        exact j_lw hc9 rfl
      · refine j_iload_n C dX6_measureFirst_46 rfl ?_
        refine j_iconst C (1) dX6_measureFirst_47 ki_1 ?_
        refine j_iload_n C dX6_measureFirst_48 rfl ?_
        refine j_ishl C dX6_measureFirst_49 ?_
        refine j_iconst C (-1) dX6_measureFirst_50 ki_m1 ?_
        refine j_ixor C dX6_measureFirst_51 ?_
        refine j_iand C dX6_measureFirst_52 ?_
        refine j_bipush C (6) dX6_measureFirst_53 kb_6 ?_
        refine j_imul C dX6_measureFirst_55 ?_
        refine j_istore_n C dX6_measureFirst_56 (by decide) ?_
        refine j_aload_n C dX6_measureFirst_57 rfl ?_
        refine j_get C 0 rfl rfl inX6 0 (by decide) kw_117 rfl rfl dX6_measureFirst_58 ?_
        refine j_get C 1 rfl rfl inX8 0 (by decide) kw_92 rfl rfl dX6_measureFirst_61 ?_
        refine j_get C 2 rfl rfl inX7 0 (by decide) kw_39 rfl rfl dX6_measureFirst_64 ?_
        refine j_iload_n C dX6_measureFirst_67 rfl ?_
        refine j_iaload 3 C h rfl rfl dX6_measureFirst_68 (fun h => ?_)
        refine j_istore C dX6_measureFirst_69 (by decide) ?_
        refine j_aload_n C dX6_measureFirst_71 rfl ?_
        refine j_get C 0 rfl rfl inX6 0 (by decide) kw_117 rfl rfl dX6_measureFirst_72 ?_
        refine j_get C 1 rfl rfl inX8 0 (by decide) kw_92 rfl rfl dX6_measureFirst_75 ?_
        refine j_get C 2 rfl rfl inX7 1 (by decide) kw_43 rfl rfl dX6_measureFirst_78 ?_
        refine j_iload_n C dX6_measureFirst_81 rfl ?_
        refine j_iaload 4 C h rfl rfl dX6_measureFirst_82 (fun h => ?_)
        refine j_istore C dX6_measureFirst_83 (by decide) ?_
        refine j_aload_n C dX6_measureFirst_85 rfl ?_
        refine j_get C 0 rfl rfl inX6 2 (by decide) kw_119 rfl rfl dX6_measureFirst_86 ?_
        refine j_iload C dX6_measureFirst_89 rfl ?_
        refine j_aload_n C dX6_measureFirst_91 rfl ?_
        refine j_get C 0 rfl rfl inX6 2 (by decide) kw_119 rfl rfl dX6_measureFirst_92 ?_
        refine j_iload C dX6_measureFirst_95 rfl ?_
        refine j_iaload 8 C h rfl rfl dX6_measureFirst_97 (fun h => ?_)
        refine j_aload_n C dX6_measureFirst_98 rfl ?_
        refine j_get C 0 rfl rfl inX6 0 (by decide) kw_117 rfl rfl dX6_measureFirst_99 ?_
        refine j_get C 1 rfl rfl inX8 1 (by decide) kw_95 rfl rfl dX6_measureFirst_102 ?_
        refine j_iload_n C dX6_measureFirst_105 rfl ?_
        refine j_iaload 5 C h rfl rfl dX6_measureFirst_106 (fun h => ?_)
        refine j_aload_n C dX6_measureFirst_107 rfl ?_
        refine j_get C 0 rfl rfl inX6 1 (by decide) kw_118 rfl rfl dX6_measureFirst_108 ?_
        refine j_iload_n C dX6_measureFirst_111 rfl ?_
        refine j_iload C dX6_measureFirst_112 rfl ?_
        refine j_iadd C dX6_measureFirst_114 ?_
        refine j_iaload 7 C h rfl rfl dX6_measureFirst_115 (fun h => ?_)
        refine j_iadd C dX6_measureFirst_116 ?_
        refine j_mmin C (by decide) kw_635 kw_636 kw_19 kw_637 (Nat.le_of_ble_eq_true rfl) dX6_measureFirst_117 ?_
        refine j_iastore 8 C h rfl rfl dX6_measureFirst_120 (fun h => ?_)
        refine j_ws (ws' := (w_X6_measureFirst (gD g) q_this q_ways q_ways_town q_ways_town_froms q_ways_town_tos q_ways_on q_ways_back q_costLeft q_costFirst w_streets w_corners w_costs w_again w_ways_least w_ways_town_lengths w_ways_town_kinds w_ways_town_figures v_isSought v_due v_size v_ways_town_closed v_ways_town_size v_ways_town_home v_ways_town_froms v_ways_town_tos v_ways_on v_ways_back v_costLeft (upd s_24.2 (Int32.toNatClampNeg (v_ways_town_froms (Int32.toNatClampNeg s_24.1))) (if ((v_ways_on (Int32.toNatClampNeg s_24.1)) + (v_costLeft (Int32.toNatClampNeg (((x1 &&& (((1 : Int32) <<< (s_24.1 &&& 31)) ^^^ (-1 : Int32))) * (6 : Int32)) + (v_ways_town_tos (Int32.toNatClampNeg s_24.1)))))) < (s_24.2 (Int32.toNatClampNeg (v_ways_town_froms (Int32.toNatClampNeg s_24.1)))) then ((v_ways_on (Int32.toNatClampNeg s_24.1)) + (v_costLeft (Int32.toNatClampNeg (((x1 &&& (((1 : Int32) <<< (s_24.1 &&& 31)) ^^^ (-1 : Int32))) * (6 : Int32)) + (v_ways_town_tos (Int32.toNatClampNeg s_24.1)))))) else (s_24.2 (Int32.toNatClampNeg (v_ways_town_froms (Int32.toNatClampNeg s_24.1)))))))) rfl ?_
        refine j_aload_n C dX6_measureFirst_121 rfl ?_
        refine j_get C 0 rfl rfl inX6 2 (by decide) kw_119 rfl rfl dX6_measureFirst_122 ?_
        refine j_iload C dX6_measureFirst_125 rfl ?_
        refine j_aload_n C dX6_measureFirst_127 rfl ?_
        refine j_get C 0 rfl rfl inX6 2 (by decide) kw_119 rfl rfl dX6_measureFirst_128 ?_
        refine j_iload C dX6_measureFirst_131 rfl ?_
        refine j_iaload 8 C h rfl rfl dX6_measureFirst_133 (fun h => ?_)
        refine j_aload_n C dX6_measureFirst_134 rfl ?_
        refine j_get C 0 rfl rfl inX6 0 (by decide) kw_117 rfl rfl dX6_measureFirst_135 ?_
        refine j_get C 1 rfl rfl inX8 2 (by decide) kw_97 rfl rfl dX6_measureFirst_138 ?_
        refine j_iload_n C dX6_measureFirst_141 rfl ?_
        refine j_iaload 6 C h rfl rfl dX6_measureFirst_142 (fun h => ?_)
        refine j_aload_n C dX6_measureFirst_143 rfl ?_
        refine j_get C 0 rfl rfl inX6 1 (by decide) kw_118 rfl rfl dX6_measureFirst_144 ?_
        refine j_iload_n C dX6_measureFirst_147 rfl ?_
        refine j_iload C dX6_measureFirst_148 rfl ?_
        refine j_iadd C dX6_measureFirst_150 ?_
        refine j_iaload 7 C h rfl rfl dX6_measureFirst_151 (fun h => ?_)
        refine j_iadd C dX6_measureFirst_152 ?_
        refine j_mmin C (by decide) kw_635 kw_636 kw_19 kw_637 (Nat.le_of_ble_eq_true rfl) dX6_measureFirst_153 ?_
        refine j_iastore 8 C h rfl rfl dX6_measureFirst_156 (fun h => ?_)
        refine j_ws (ws' := (w_X6_measureFirst (gD g) q_this q_ways q_ways_town q_ways_town_froms q_ways_town_tos q_ways_on q_ways_back q_costLeft q_costFirst w_streets w_corners w_costs w_again w_ways_least w_ways_town_lengths w_ways_town_kinds w_ways_town_figures v_isSought v_due v_size v_ways_town_closed v_ways_town_size v_ways_town_home v_ways_town_froms v_ways_town_tos v_ways_on v_ways_back v_costLeft (upd (upd s_24.2 (Int32.toNatClampNeg (v_ways_town_froms (Int32.toNatClampNeg s_24.1))) (if ((v_ways_on (Int32.toNatClampNeg s_24.1)) + (v_costLeft (Int32.toNatClampNeg (((x1 &&& (((1 : Int32) <<< (s_24.1 &&& 31)) ^^^ (-1 : Int32))) * (6 : Int32)) + (v_ways_town_tos (Int32.toNatClampNeg s_24.1)))))) < (s_24.2 (Int32.toNatClampNeg (v_ways_town_froms (Int32.toNatClampNeg s_24.1)))) then ((v_ways_on (Int32.toNatClampNeg s_24.1)) + (v_costLeft (Int32.toNatClampNeg (((x1 &&& (((1 : Int32) <<< (s_24.1 &&& 31)) ^^^ (-1 : Int32))) * (6 : Int32)) + (v_ways_town_tos (Int32.toNatClampNeg s_24.1)))))) else (s_24.2 (Int32.toNatClampNeg (v_ways_town_froms (Int32.toNatClampNeg s_24.1)))))) (Int32.toNatClampNeg (v_ways_town_tos (Int32.toNatClampNeg s_24.1))) (if ((v_ways_back (Int32.toNatClampNeg s_24.1)) + (v_costLeft (Int32.toNatClampNeg (((x1 &&& (((1 : Int32) <<< (s_24.1 &&& 31)) ^^^ (-1 : Int32))) * (6 : Int32)) + (v_ways_town_froms (Int32.toNatClampNeg s_24.1)))))) < ((upd s_24.2 (Int32.toNatClampNeg (v_ways_town_froms (Int32.toNatClampNeg s_24.1))) (if ((v_ways_on (Int32.toNatClampNeg s_24.1)) + (v_costLeft (Int32.toNatClampNeg (((x1 &&& (((1 : Int32) <<< (s_24.1 &&& 31)) ^^^ (-1 : Int32))) * (6 : Int32)) + (v_ways_town_tos (Int32.toNatClampNeg s_24.1)))))) < (s_24.2 (Int32.toNatClampNeg (v_ways_town_froms (Int32.toNatClampNeg s_24.1)))) then ((v_ways_on (Int32.toNatClampNeg s_24.1)) + (v_costLeft (Int32.toNatClampNeg (((x1 &&& (((1 : Int32) <<< (s_24.1 &&& 31)) ^^^ (-1 : Int32))) * (6 : Int32)) + (v_ways_town_tos (Int32.toNatClampNeg s_24.1)))))) else (s_24.2 (Int32.toNatClampNeg (v_ways_town_froms (Int32.toNatClampNeg s_24.1)))))) (Int32.toNatClampNeg (v_ways_town_tos (Int32.toNatClampNeg s_24.1)))) then ((v_ways_back (Int32.toNatClampNeg s_24.1)) + (v_costLeft (Int32.toNatClampNeg (((x1 &&& (((1 : Int32) <<< (s_24.1 &&& 31)) ^^^ (-1 : Int32))) * (6 : Int32)) + (v_ways_town_froms (Int32.toNatClampNeg s_24.1)))))) else ((upd s_24.2 (Int32.toNatClampNeg (v_ways_town_froms (Int32.toNatClampNeg s_24.1))) (if ((v_ways_on (Int32.toNatClampNeg s_24.1)) + (v_costLeft (Int32.toNatClampNeg (((x1 &&& (((1 : Int32) <<< (s_24.1 &&& 31)) ^^^ (-1 : Int32))) * (6 : Int32)) + (v_ways_town_tos (Int32.toNatClampNeg s_24.1)))))) < (s_24.2 (Int32.toNatClampNeg (v_ways_town_froms (Int32.toNatClampNeg s_24.1)))) then ((v_ways_on (Int32.toNatClampNeg s_24.1)) + (v_costLeft (Int32.toNatClampNeg (((x1 &&& (((1 : Int32) <<< (s_24.1 &&& 31)) ^^^ (-1 : Int32))) * (6 : Int32)) + (v_ways_town_tos (Int32.toNatClampNeg s_24.1)))))) else (s_24.2 (Int32.toNatClampNeg (v_ways_town_froms (Int32.toNatClampNeg s_24.1)))))) (Int32.toNatClampNeg (v_ways_town_tos (Int32.toNatClampNeg s_24.1)))))))) rfl ?_
        refine j_inc C (1) dX6_measureFirst_157 rfl ki_1 (by decide) ?_
        refine j_goto C 24 dX6_measureFirst_160 (by decide) ?_
        cases h
        have hc9 := hc_24 _ rfl
        exact j_lw hc9 rfl
  refine j_lv (lv' := [(0, .ref q_this), (1, .int (x1)), (2, .int ((0 : Int32)))]) rfl ?_
  refine lp_ind hl_2 (fun s_2 => J g (w_X6_measureFirst (gD g) q_this q_ways q_ways_town q_ways_town_froms q_ways_town_tos q_ways_on q_ways_back q_costLeft q_costFirst w_streets w_corners w_costs w_again w_ways_least w_ways_town_lengths w_ways_town_kinds w_ways_town_figures v_isSought v_due v_size v_ways_town_closed v_ways_town_size v_ways_town_home v_ways_town_froms v_ways_town_tos v_ways_on v_ways_back v_costLeft s_2.2) [(0, .ref q_this), (1, .int (x1)), (2, .int (s_2.1))] 2 []) (fun s_2 r_2 h hc_2 hx_2 => ?_)
  unfold f_X6_measureFirst_b2 at h
  refine j_iload_n C dX6_measureFirst_2 rfl ?_
  refine j_bipush C (6) dX6_measureFirst_3 kb_6 ?_
  refine j_icmp_ge C h 22 dX6_measureFirst_5 (by decide) (fun hc h => ?_) (fun hc h => ?_)
  · cases h
    have h9 := hx_2 _ rfl
    subst h9
    exact j_lw ha_2 rfl
  · refine j_aload_n C dX6_measureFirst_8 rfl ?_
    refine j_get C 0 rfl rfl inX6 2 (by decide) kw_119 rfl rfl dX6_measureFirst_9 ?_
    refine j_iload_n C dX6_measureFirst_12 rfl ?_
    refine j_ldc C kw_634 dX6_measureFirst_13 ?_
    refine j_iastore 8 C h rfl rfl dX6_measureFirst_15 (fun h => ?_)
    refine j_ws (ws' := (w_X6_measureFirst (gD g) q_this q_ways q_ways_town q_ways_town_froms q_ways_town_tos q_ways_on q_ways_back q_costLeft q_costFirst w_streets w_corners w_costs w_again w_ways_least w_ways_town_lengths w_ways_town_kinds w_ways_town_figures v_isSought v_due v_size v_ways_town_closed v_ways_town_size v_ways_town_home v_ways_town_froms v_ways_town_tos v_ways_on v_ways_back v_costLeft (upd s_2.2 (Int32.toNatClampNeg s_2.1) (1000000 : Int32)))) rfl ?_
    refine j_inc C (1) dX6_measureFirst_16 rfl ki_1 (by decide) ?_
    refine j_goto C 2 dX6_measureFirst_19 (by decide) ?_
    cases h
    have hc9 := hc_2 _ rfl
    exact j_lw hc9 rfl

def w_X6_measureSet (D : va_G) (q_this q_ways q_ways_least q_costLeft q_costFirst : Nat) (w_streets w_corners w_costs w_again w_ways_town w_ways_on w_ways_back : Value) (v_isSought : Int32) (v_due : Int32) (v_size : Int32) (v_ways_least : (Nat → Int32)) (v_costLeft : (Nat → Int32)) (v_costFirst : (Nat → Int32)) : va_W := [(q_this, .inr (5, [.ref q_ways, .ref q_costLeft, .ref q_costFirst, .int v_isSought, .int v_due, .int v_size, w_streets, w_corners, w_costs, w_again])), (q_ways, .inr (7, [w_ways_town, w_ways_on, w_ways_back, .ref q_ways_least])), (q_ways_least, .inl (D.1 100, 36, .inl v_ways_least)), (q_costLeft, .inl (D.1 100, 1536, .inl v_costLeft)), (q_costFirst, .inl (D.1 100, 6, .inl v_costFirst))]
def f_X6_measureSet_b23 (x5_23 : Int32) (x4_23 : Int32) (x3_10 : Int32) (v_ways_least : (Nat → Int32)) (v_costFirst : (Nat → Int32)) : Option ((Int32 × Int32) ⊕ Int32) :=
  (if (6 : Int32) ≤ x5_23 then some (.inr x4_23) else ga ((x3_10 * (6 : Int32)) + x5_23) 36 (ga x5_23 6 (some (.inl (if x4_23 ≤ ((v_ways_least (Int32.toNatClampNeg ((x3_10 * (6 : Int32)) + x5_23))) + (v_costFirst (Int32.toNatClampNeg x5_23))) then x4_23 else ((v_ways_least (Int32.toNatClampNeg ((x3_10 * (6 : Int32)) + x5_23))) + (v_costFirst (Int32.toNatClampNeg x5_23))), x5_23 + (1 : Int32))))))
def f_X6_measureSet_b10 (N : Nat) (x3_10 : Int32) (v_costLeft_10 : (Nat → Int32)) (v_ways_least : (Nat → Int32)) (v_costFirst : (Nat → Int32)) (x1 : Int32) : Option ((Int32 × (Nat → Int32)) ⊕ (Nat → Int32)) :=
  (if (6 : Int32) ≤ x3_10 then some (.inr v_costLeft_10) else (lp (fun s_23 => f_X6_measureSet_b23 s_23.2 s_23.1 x3_10 v_ways_least v_costFirst) N ((1000000 : Int32), (0 : Int32))).bind (fun e_23 => ga ((x1 * (6 : Int32)) + x3_10) 1536 (some (.inl (x3_10 + (1 : Int32), upd v_costLeft_10 (Int32.toNatClampNeg ((x1 * (6 : Int32)) + x3_10)) e_23)))))
def f_X6_measureSet (N : Nat) (x1 : Int32) (v_ways_least : (Nat → Int32)) (v_costLeft : (Nat → Int32)) (v_costFirst : (Nat → Int32)) : Option (Nat → Int32) :=
  (lp (fun s_10 => f_X6_measureSet_b10 N s_10.1 s_10.2 v_ways_least v_costFirst x1) N ((0 : Int32), v_costLeft)).bind (fun e_10 => some e_10)
set_option maxRecDepth 100000 in
set_option maxHeartbeats 4000000 in
theorem c_X6_measureSet (l : Launch) (D : va_G) (N : Nat) {q_this q_ways q_ways_least q_costLeft q_costFirst : Nat} {w_streets w_corners w_costs w_again w_ways_town w_ways_on w_ways_back : Value} {v_isSought : Int32} {v_due : Int32} {v_size : Int32} {v_ways_least : (Nat → Int32)} {v_costLeft : (Nat → Int32)} {v_costFirst : (Nat → Int32)} {x1 : Int32} {o : (Nat → Int32)} (h : f_X6_measureSet N x1 v_ways_least v_costLeft v_costFirst = some o) : CT l D yX6_measureSet cX6_measureSet 7 (Option.none : Option FieldType) 0 [.ref q_this, .int x1] (w_X6_measureSet D q_this q_ways q_ways_least q_costLeft q_costFirst w_streets w_corners w_costs w_again w_ways_town w_ways_on w_ways_back v_isSought v_due v_size v_ways_least v_costLeft v_costFirst) (w_X6_measureSet D q_this q_ways q_ways_least q_costLeft q_costFirst w_streets w_corners w_costs w_again w_ways_town w_ways_on w_ways_back v_isSought v_due v_size v_ways_least o v_costFirst) (none) := by
  refine CT.of mk_X6_measureSet (Nat.le_of_ble_eq_true rfl) (fun g hl hD C E => ?_)
  subst hl
  subst hD
  unfold f_X6_measureSet at h
  refine j_aload_n C dX6_measureSet_0 rfl ?_
  refine j_get C 0 rfl rfl inX6 0 (by decide) kw_117 rfl rfl dX6_measureSet_1 ?_
  refine j_get C 1 rfl rfl inX8 3 (by decide) kw_99 rfl rfl dX6_measureSet_4 ?_
  refine j_astore_n C dX6_measureSet_7 (by decide) ?_
  refine j_iconst C (0) dX6_measureSet_8 ki_0 ?_
  refine j_istore_n C dX6_measureSet_9 (by decide) ?_
  obtain ⟨e_10, hl_10, h⟩ := of_bind h
  have ha_10 : J g (w_X6_measureSet (gD g) q_this q_ways q_ways_least q_costLeft q_costFirst w_streets w_corners w_costs w_again w_ways_town w_ways_on w_ways_back v_isSought v_due v_size v_ways_least e_10 v_costFirst) [] 85 [] := by
    cases h
    exact j_vret C E dX6_measureSet_85
  refine j_lv (lv' := [(0, .ref q_this), (1, .int (x1)), (2, .ref q_ways_least), (3, .int ((0 : Int32)))]) rfl ?_
  refine lp_ind hl_10 (fun s_10 => J g (w_X6_measureSet (gD g) q_this q_ways q_ways_least q_costLeft q_costFirst w_streets w_corners w_costs w_again w_ways_town w_ways_on w_ways_back v_isSought v_due v_size v_ways_least s_10.2 v_costFirst) [(0, .ref q_this), (1, .int (x1)), (2, .ref q_ways_least), (3, .int (s_10.1))] 10 []) (fun s_10 r_10 h hc_10 hx_10 => ?_)
  unfold f_X6_measureSet_b10 at h
  refine j_iload_n C dX6_measureSet_10 rfl ?_
  refine j_bipush C (6) dX6_measureSet_11 kb_6 ?_
  refine j_icmp_ge C h 85 dX6_measureSet_13 (by decide) (fun hc h => ?_) (fun hc h => ?_)
  · cases h
    have h9 := hx_10 _ rfl
    subst h9
    exact j_lw ha_10 rfl
  · refine j_ldc C kw_634 dX6_measureSet_16 ?_
    refine j_istore C dX6_measureSet_18 (by decide) ?_
    refine j_iconst C (0) dX6_measureSet_20 ki_0 ?_
    refine j_istore C dX6_measureSet_21 (by decide) ?_
    obtain ⟨e_23, hl_23, h⟩ := of_bind h
    have ha_23 : J g (w_X6_measureSet (gD g) q_this q_ways q_ways_least q_costLeft q_costFirst w_streets w_corners w_costs w_again w_ways_town w_ways_on w_ways_back v_isSought v_due v_size v_ways_least s_10.2 v_costFirst) [(0, .ref q_this), (1, .int (x1)), (2, .ref q_ways_least), (3, .int (s_10.1)), (4, .int (e_23))] 66 [] := by
      refine j_aload_n C dX6_measureSet_66 rfl ?_
      refine j_get C 0 rfl rfl inX6 1 (by decide) kw_118 rfl rfl dX6_measureSet_67 ?_
      refine j_iload_n C dX6_measureSet_70 rfl ?_
      refine j_bipush C (6) dX6_measureSet_71 kb_6 ?_
      refine j_imul C dX6_measureSet_73 ?_
      refine j_iload_n C dX6_measureSet_74 rfl ?_
      refine j_iadd C dX6_measureSet_75 ?_
      refine j_iload C dX6_measureSet_76 rfl ?_
      refine j_iastore 3 C h rfl rfl dX6_measureSet_78 (fun h => ?_)
      refine j_ws (ws' := (w_X6_measureSet (gD g) q_this q_ways q_ways_least q_costLeft q_costFirst w_streets w_corners w_costs w_again w_ways_town w_ways_on w_ways_back v_isSought v_due v_size v_ways_least (upd s_10.2 (Int32.toNatClampNeg ((x1 * (6 : Int32)) + s_10.1)) e_23) v_costFirst)) rfl ?_
      refine j_inc C (1) dX6_measureSet_79 rfl ki_1 (by decide) ?_
      refine j_goto C 10 dX6_measureSet_82 (by decide) ?_
      cases h
      have hc9 := hc_10 _ rfl
      exact j_lw hc9 rfl
    refine j_lv (lv' := [(0, .ref q_this), (1, .int (x1)), (2, .ref q_ways_least), (3, .int (s_10.1)), (4, .int ((1000000 : Int32))), (5, .int ((0 : Int32)))]) rfl ?_
    refine lp_ind hl_23 (fun s_23 => J g (w_X6_measureSet (gD g) q_this q_ways q_ways_least q_costLeft q_costFirst w_streets w_corners w_costs w_again w_ways_town w_ways_on w_ways_back v_isSought v_due v_size v_ways_least s_10.2 v_costFirst) [(0, .ref q_this), (1, .int (x1)), (2, .ref q_ways_least), (3, .int (s_10.1)), (4, .int (s_23.1)), (5, .int (s_23.2))] 23 []) (fun s_23 r_23 h hc_23 hx_23 => ?_)
    unfold f_X6_measureSet_b23 at h
    refine j_iload C dX6_measureSet_23 rfl ?_
    refine j_bipush C (6) dX6_measureSet_25 kb_6 ?_
    refine j_icmp_ge C h 66 dX6_measureSet_27 (by decide) (fun hc h => ?_) (fun hc h => ?_)
    · cases h
      have h9 := hx_23 _ rfl
      subst h9
      exact j_lw ha_23 rfl
    · refine j_aload_n C dX6_measureSet_30 rfl ?_
      refine j_iload_n C dX6_measureSet_31 rfl ?_
      refine j_bipush C (6) dX6_measureSet_32 kb_6 ?_
      refine j_imul C dX6_measureSet_34 ?_
      refine j_iload C dX6_measureSet_35 rfl ?_
      refine j_iadd C dX6_measureSet_37 ?_
      refine j_iaload 2 C h rfl rfl dX6_measureSet_38 (fun h => ?_)
      refine j_aload_n C dX6_measureSet_39 rfl ?_
      refine j_get C 0 rfl rfl inX6 2 (by decide) kw_119 rfl rfl dX6_measureSet_40 ?_
      refine j_iload C dX6_measureSet_43 rfl ?_
      refine j_iaload 4 C h rfl rfl dX6_measureSet_45 (fun h => ?_)
      refine j_iadd C dX6_measureSet_46 ?_
      refine j_istore C dX6_measureSet_47 (by decide) ?_
      refine j_iload C dX6_measureSet_49 rfl ?_
      refine j_iload C dX6_measureSet_51 rfl ?_
      have hj_1 : J g (w_X6_measureSet (gD g) q_this q_ways q_ways_least q_costLeft q_costFirst w_streets w_corners w_costs w_again w_ways_town w_ways_on w_ways_back v_isSought v_due v_size v_ways_least s_10.2 v_costFirst) [(0, .ref q_this), (1, .int (x1)), (2, .ref q_ways_least), (3, .int (s_10.1)), (4, .int (if s_23.1 ≤ ((v_ways_least (Int32.toNatClampNeg ((s_10.1 * (6 : Int32)) + s_23.2))) + (v_costFirst (Int32.toNatClampNeg s_23.2))) then s_23.1 else ((v_ways_least (Int32.toNatClampNeg ((s_10.1 * (6 : Int32)) + s_23.2))) + (v_costFirst (Int32.toNatClampNeg s_23.2))))), (5, .int (s_23.2))] 60 [] := by
        refine j_inc C (1) dX6_measureSet_60 rfl ki_1 (by decide) ?_
        refine j_goto C 23 dX6_measureSet_63 (by decide) ?_
        cases h
        have hc9 := hc_23 _ rfl
        exact j_lw hc9 rfl
      refine jv_icmp_ge C 60 dX6_measureSet_53 (by decide) (fun hc => ?_) (fun hc => ?_)
      · try simp only [if_pos hc] at hj_1
        exact j_lw hj_1 rfl
      · try simp only [if_neg hc] at hj_1
        refine j_iload C dX6_measureSet_56 rfl ?_
        refine j_istore C dX6_measureSet_58 (by decide) ?_
        exact j_lw hj_1 rfl

def w_X6_measure (D : va_G) (q_this q_ways q_ways_town q_ways_town_froms q_ways_town_tos q_ways_town_kinds q_ways_on q_ways_back q_ways_least q_costLeft q_costFirst : Nat) (w_streets w_corners w_costs w_again w_ways_town_lengths w_ways_town_figures : Value) (v_isSought : Int32) (v_due : Int32) (v_size : Int32) (v_ways_town_closed : Int32) (v_ways_town_size : Int32) (v_ways_town_home : Int32) (v_ways_town_froms : (Nat → Int32)) (v_ways_town_tos : (Nat → Int32)) (v_ways_town_kinds : (Nat → Int32)) (v_ways_on : (Nat → Int32)) (v_ways_back : (Nat → Int32)) (v_ways_least : (Nat → Int32)) (v_costLeft : (Nat → Int32)) (v_costFirst : (Nat → Int32)) : va_W := [(q_this, .inr (5, [.ref q_ways, .ref q_costLeft, .ref q_costFirst, .int v_isSought, .int v_due, .int v_size, w_streets, w_corners, w_costs, w_again])), (q_ways, .inr (7, [.ref q_ways_town, .ref q_ways_on, .ref q_ways_back, .ref q_ways_least])), (q_ways_town, .inr (6, [.ref q_ways_town_froms, .ref q_ways_town_tos, w_ways_town_lengths, .ref q_ways_town_kinds, w_ways_town_figures, .int v_ways_town_closed, .int v_ways_town_size, .int v_ways_town_home])), (q_ways_town_froms, .inl (D.1 100, 8, .inl v_ways_town_froms)), (q_ways_town_tos, .inl (D.1 100, 8, .inl v_ways_town_tos)), (q_ways_town_kinds, .inl (D.1 100, 8, .inl v_ways_town_kinds)), (q_ways_on, .inl (D.1 100, 8, .inl v_ways_on)), (q_ways_back, .inl (D.1 100, 8, .inl v_ways_back)), (q_ways_least, .inl (D.1 100, 36, .inl v_ways_least)), (q_costLeft, .inl (D.1 100, 1536, .inl v_costLeft)), (q_costFirst, .inl (D.1 100, 6, .inl v_costFirst))]
def f_X6_measure_b16 (x1_16 : Int32) (v_costLeft_16 : (Nat → Int32)) (v_ways_town_home : Int32) (v_ways_least : (Nat → Int32)) : Option ((Int32 × (Nat → Int32)) ⊕ (Nat → Int32)) :=
  (if (6 : Int32) ≤ x1_16 then some (.inr v_costLeft_16) else (f_X8_between x1_16 v_ways_town_home v_ways_least).bind (fun r_between_2 => ga x1_16 1536 (some (.inl (x1_16 + (1 : Int32), upd v_costLeft_16 (Int32.toNatClampNeg x1_16) r_between_2)))))
def f_X6_measure_b54 (N : Nat) (r_dueStreets_1_0 : Int32) (x1_54 : Int32) (v_costLeft_54 : (Nat → Int32)) (v_costFirst_54 : (Nat → Int32)) (v_ways_town_size : Int32) (v_ways_town_froms : (Nat → Int32)) (v_ways_town_tos : (Nat → Int32)) (v_ways_on : (Nat → Int32)) (v_ways_back : (Nat → Int32)) (v_ways_least : (Nat → Int32)) : Option ((Int32 × (Nat → Int32) × (Nat → Int32)) ⊕ ((Nat → Int32) × (Nat → Int32))) :=
  (if r_dueStreets_1_0 < x1_54 then some (.inr (v_costLeft_54, v_costFirst_54)) else (if (x1_54 &&& (r_dueStreets_1_0 ^^^ (-1 : Int32))) = 0 then (f_X6_measureFirst N x1_54 v_ways_town_size v_ways_town_froms v_ways_town_tos v_ways_on v_ways_back v_costLeft_54 v_costFirst_54).bind (fun r_measureFirst_3 => (f_X6_measureSet N x1_54 v_ways_least v_costLeft_54 r_measureFirst_3).bind (fun r_measureSet_4 => some (.inl (x1_54 + (1 : Int32), r_measureSet_4, r_measureFirst_3)))) else some (.inl (x1_54 + (1 : Int32), v_costLeft_54, v_costFirst_54))))
def f_X6_measure (N : Nat) (v_due : Int32) (v_ways_town_closed : Int32) (v_ways_town_size : Int32) (v_ways_town_home : Int32) (v_ways_town_froms : (Nat → Int32)) (v_ways_town_tos : (Nat → Int32)) (v_ways_town_kinds : (Nat → Int32)) (v_ways_on : (Nat → Int32)) (v_ways_back : (Nat → Int32)) (v_ways_least : (Nat → Int32)) (v_costLeft : (Nat → Int32)) (v_costFirst : (Nat → Int32)) : Option (Int32 × (Nat → Int32) × (Nat → Int32)) :=
  (f_X7_dueStreets N v_ways_town_closed v_ways_town_size v_ways_town_kinds).bind (fun r_dueStreets_1 => (lp (fun s_16 => f_X6_measure_b16 s_16.1 s_16.2 v_ways_town_home v_ways_least) N ((0 : Int32), v_costLeft)).bind (fun e_16 => (lp (fun s_54 => f_X6_measure_b54 N r_dueStreets_1 s_54.1 s_54.2.1 s_54.2.2 v_ways_town_size v_ways_town_froms v_ways_town_tos v_ways_on v_ways_back v_ways_least) N ((1 : Int32), e_16, v_costFirst)).bind (fun e_54 => some (r_dueStreets_1, e_54.1, e_54.2))))
set_option maxRecDepth 100000 in
set_option maxHeartbeats 4000000 in
theorem c_X6_measure (l : Launch) (D : va_G) (N : Nat) {q_this q_ways q_ways_town q_ways_town_froms q_ways_town_tos q_ways_town_kinds q_ways_on q_ways_back q_ways_least q_costLeft q_costFirst : Nat} {w_streets w_corners w_costs w_again w_ways_town_lengths w_ways_town_figures : Value} {v_isSought : Int32} {v_due : Int32} {v_size : Int32} {v_ways_town_closed : Int32} {v_ways_town_size : Int32} {v_ways_town_home : Int32} {v_ways_town_froms : (Nat → Int32)} {v_ways_town_tos : (Nat → Int32)} {v_ways_town_kinds : (Nat → Int32)} {v_ways_on : (Nat → Int32)} {v_ways_back : (Nat → Int32)} {v_ways_least : (Nat → Int32)} {v_costLeft : (Nat → Int32)} {v_costFirst : (Nat → Int32)} {o : (Int32 × (Nat → Int32) × (Nat → Int32))} (h : f_X6_measure N v_due v_ways_town_closed v_ways_town_size v_ways_town_home v_ways_town_froms v_ways_town_tos v_ways_town_kinds v_ways_on v_ways_back v_ways_least v_costLeft v_costFirst = some o) : CT l D yX6_measure cX6_measure 2 (Option.none : Option FieldType) 3 [.ref q_this] (w_X6_measure D q_this q_ways q_ways_town q_ways_town_froms q_ways_town_tos q_ways_town_kinds q_ways_on q_ways_back q_ways_least q_costLeft q_costFirst w_streets w_corners w_costs w_again w_ways_town_lengths w_ways_town_figures v_isSought v_due v_size v_ways_town_closed v_ways_town_size v_ways_town_home v_ways_town_froms v_ways_town_tos v_ways_town_kinds v_ways_on v_ways_back v_ways_least v_costLeft v_costFirst) (w_X6_measure D q_this q_ways q_ways_town q_ways_town_froms q_ways_town_tos q_ways_town_kinds q_ways_on q_ways_back q_ways_least q_costLeft q_costFirst w_streets w_corners w_costs w_again w_ways_town_lengths w_ways_town_figures v_isSought o.1 v_size v_ways_town_closed v_ways_town_size v_ways_town_home v_ways_town_froms v_ways_town_tos v_ways_town_kinds v_ways_on v_ways_back v_ways_least o.2.1 o.2.2) (none) := by
  refine CT.of mk_X6_measure (Nat.le_of_ble_eq_true rfl) (fun g hl hD C E => ?_)
  subst hl
  subst hD
  unfold f_X6_measure at h
  refine j_aload_n C dX6_measure_0 rfl ?_
  refine j_aload_n C dX6_measure_1 rfl ?_
  refine j_get C 0 rfl rfl inX6 0 (by decide) kw_117 rfl rfl dX6_measure_2 ?_
  refine j_get C 1 rfl rfl inX8 0 (by decide) kw_92 rfl rfl dX6_measure_5 ?_
  obtain ⟨r_dueStreets_1, h_1, h⟩ := of_bind h
  refine j_callV1 C mk_X7_dueStreets ms_X7_dueStreets kw_628 (c_X7_dueStreets (gl g) (gD g) N h_1) (by decide) 2 rfl rfl [2, 5] rfl rfl rfl rfl rfl (Nat.le_of_ble_eq_true rfl) dX6_measure_8 ?_
  refine j_ws (ws' := (w_X6_measure (gD g) q_this q_ways q_ways_town q_ways_town_froms q_ways_town_tos q_ways_town_kinds q_ways_on q_ways_back q_ways_least q_costLeft q_costFirst w_streets w_corners w_costs w_again w_ways_town_lengths w_ways_town_figures v_isSought v_due v_size v_ways_town_closed v_ways_town_size v_ways_town_home v_ways_town_froms v_ways_town_tos v_ways_town_kinds v_ways_on v_ways_back v_ways_least v_costLeft v_costFirst)) rfl ?_
  refine j_put C 0 rfl rfl inX6 tyX6_ok nmX6 4 (by decide) kw_121 rfl rfl rfl rfl (Nat.le_of_ble_eq_true rfl) dX6_measure_11 ?_
  refine j_ws (ws' := (w_X6_measure (gD g) q_this q_ways q_ways_town q_ways_town_froms q_ways_town_tos q_ways_town_kinds q_ways_on q_ways_back q_ways_least q_costLeft q_costFirst w_streets w_corners w_costs w_again w_ways_town_lengths w_ways_town_figures v_isSought r_dueStreets_1 v_size v_ways_town_closed v_ways_town_size v_ways_town_home v_ways_town_froms v_ways_town_tos v_ways_town_kinds v_ways_on v_ways_back v_ways_least v_costLeft v_costFirst)) rfl ?_
  refine j_iconst C (0) dX6_measure_14 ki_0 ?_
  refine j_istore_n C dX6_measure_15 (by decide) ?_
  obtain ⟨e_16, hl_16, h⟩ := of_bind h
  have ha_16 : J g (w_X6_measure (gD g) q_this q_ways q_ways_town q_ways_town_froms q_ways_town_tos q_ways_town_kinds q_ways_on q_ways_back q_ways_least q_costLeft q_costFirst w_streets w_corners w_costs w_again w_ways_town_lengths w_ways_town_figures v_isSought r_dueStreets_1 v_size v_ways_town_closed v_ways_town_size v_ways_town_home v_ways_town_froms v_ways_town_tos v_ways_town_kinds v_ways_on v_ways_back v_ways_least e_16 v_costFirst) [(0, .ref q_this)] 52 [] := by
    refine j_iconst C (1) dX6_measure_52 ki_1 ?_
    refine j_istore_n C dX6_measure_53 (by decide) ?_
    obtain ⟨e_54, hl_54, h⟩ := of_bind h
    have ha_54 : J g (w_X6_measure (gD g) q_this q_ways q_ways_town q_ways_town_froms q_ways_town_tos q_ways_town_kinds q_ways_on q_ways_back q_ways_least q_costLeft q_costFirst w_streets w_corners w_costs w_again w_ways_town_lengths w_ways_town_figures v_isSought r_dueStreets_1 v_size v_ways_town_closed v_ways_town_size v_ways_town_home v_ways_town_froms v_ways_town_tos v_ways_town_kinds v_ways_on v_ways_back v_ways_least e_54.1 e_54.2) [] 89 [] := by
      cases h
      exact j_vret C E dX6_measure_89
    refine j_lv (lv' := [(0, .ref q_this), (1, .int ((1 : Int32)))]) rfl ?_
    refine lp_ind hl_54 (fun s_54 => J g (w_X6_measure (gD g) q_this q_ways q_ways_town q_ways_town_froms q_ways_town_tos q_ways_town_kinds q_ways_on q_ways_back q_ways_least q_costLeft q_costFirst w_streets w_corners w_costs w_again w_ways_town_lengths w_ways_town_figures v_isSought r_dueStreets_1 v_size v_ways_town_closed v_ways_town_size v_ways_town_home v_ways_town_froms v_ways_town_tos v_ways_town_kinds v_ways_on v_ways_back v_ways_least s_54.2.1 s_54.2.2) [(0, .ref q_this), (1, .int (s_54.1))] 54 []) (fun s_54 r_54 h hc_54 hx_54 => ?_)
    unfold f_X6_measure_b54 at h
    refine j_iload_n C dX6_measure_54 rfl ?_
    refine j_aload_n C dX6_measure_55 rfl ?_
    refine j_get C 0 rfl rfl inX6 4 (by decide) kw_121 rfl rfl dX6_measure_56 ?_
    refine j_icmp_gt C h 89 dX6_measure_59 (by decide) (fun hc h => ?_) (fun hc h => ?_)
    · cases h
      have h9 := hx_54 _ rfl
      subst h9
      exact j_lw ha_54 rfl
    · refine j_iload_n C dX6_measure_62 rfl ?_
      refine j_aload_n C dX6_measure_63 rfl ?_
      refine j_get C 0 rfl rfl inX6 4 (by decide) kw_121 rfl rfl dX6_measure_64 ?_
      refine j_iconst C (-1) dX6_measure_67 ki_m1 ?_
      refine j_ixor C dX6_measure_68 ?_
      refine j_iand C dX6_measure_69 ?_
      refine j_if_ne C h 83 dX6_measure_70 (by decide) (fun hc h => ?_) (fun hc h => ?_)
      · refine j_aload_n C dX6_measure_73 rfl ?_
        refine j_iload_n C dX6_measure_74 rfl ?_
        obtain ⟨r_measureFirst_3, h_3, h⟩ := of_bind h
        refine j_callV0 C mk_X6_measureFirst ms_X6_measureFirst kw_630 (c_X6_measureFirst (gl g) (gD g) N h_3) (by decide) 0 rfl rfl [0, 1, 2, 3, 4, 6, 7, 9, 10] rfl rfl rfl rfl rfl (Nat.le_of_ble_eq_true rfl) dX6_measure_75 ?_
        refine j_ws (ws' := (w_X6_measure (gD g) q_this q_ways q_ways_town q_ways_town_froms q_ways_town_tos q_ways_town_kinds q_ways_on q_ways_back q_ways_least q_costLeft q_costFirst w_streets w_corners w_costs w_again w_ways_town_lengths w_ways_town_figures v_isSought r_dueStreets_1 v_size v_ways_town_closed v_ways_town_size v_ways_town_home v_ways_town_froms v_ways_town_tos v_ways_town_kinds v_ways_on v_ways_back v_ways_least s_54.2.1 r_measureFirst_3)) rfl ?_
        refine j_aload_n C dX6_measure_78 rfl ?_
        refine j_iload_n C dX6_measure_79 rfl ?_
        obtain ⟨r_measureSet_4, h_4, h⟩ := of_bind h
        refine j_callV0 C mk_X6_measureSet ms_X6_measureSet kw_638 (c_X6_measureSet (gl g) (gD g) N h_4) (by decide) 0 rfl rfl [0, 1, 8, 9, 10] rfl rfl rfl rfl rfl (Nat.le_of_ble_eq_true rfl) dX6_measure_80 ?_
        refine j_ws (ws' := (w_X6_measure (gD g) q_this q_ways q_ways_town q_ways_town_froms q_ways_town_tos q_ways_town_kinds q_ways_on q_ways_back q_ways_least q_costLeft q_costFirst w_streets w_corners w_costs w_again w_ways_town_lengths w_ways_town_figures v_isSought r_dueStreets_1 v_size v_ways_town_closed v_ways_town_size v_ways_town_home v_ways_town_froms v_ways_town_tos v_ways_town_kinds v_ways_on v_ways_back v_ways_least r_measureSet_4 r_measureFirst_3)) rfl ?_
        refine j_inc C (1) dX6_measure_83 rfl ki_1 (by decide) ?_
        refine j_goto C 54 dX6_measure_86 (by decide) ?_
        cases h
        have hc9 := hc_54 _ rfl
        exact j_lw hc9 rfl
      · refine j_inc C (1) dX6_measure_83 rfl ki_1 (by decide) ?_
        refine j_goto C 54 dX6_measure_86 (by decide) ?_
        cases h
        have hc9 := hc_54 _ rfl
        exact j_lw hc9 rfl
  refine j_lv (lv' := [(0, .ref q_this), (1, .int ((0 : Int32)))]) rfl ?_
  refine lp_ind hl_16 (fun s_16 => J g (w_X6_measure (gD g) q_this q_ways q_ways_town q_ways_town_froms q_ways_town_tos q_ways_town_kinds q_ways_on q_ways_back q_ways_least q_costLeft q_costFirst w_streets w_corners w_costs w_again w_ways_town_lengths w_ways_town_figures v_isSought r_dueStreets_1 v_size v_ways_town_closed v_ways_town_size v_ways_town_home v_ways_town_froms v_ways_town_tos v_ways_town_kinds v_ways_on v_ways_back v_ways_least s_16.2 v_costFirst) [(0, .ref q_this), (1, .int (s_16.1))] 16 []) (fun s_16 r_16 h hc_16 hx_16 => ?_)
  unfold f_X6_measure_b16 at h
  refine j_iload_n C dX6_measure_16 rfl ?_
  refine j_bipush C (6) dX6_measure_17 kb_6 ?_
  refine j_icmp_ge C h 52 dX6_measure_19 (by decide) (fun hc h => ?_) (fun hc h => ?_)
  · cases h
    have h9 := hx_16 _ rfl
    subst h9
    exact j_lw ha_16 rfl
  · refine j_aload_n C dX6_measure_22 rfl ?_
    refine j_get C 0 rfl rfl inX6 1 (by decide) kw_118 rfl rfl dX6_measure_23 ?_
    refine j_iload_n C dX6_measure_26 rfl ?_
    refine j_aload_n C dX6_measure_27 rfl ?_
    refine j_get C 0 rfl rfl inX6 0 (by decide) kw_117 rfl rfl dX6_measure_28 ?_
    refine j_iload_n C dX6_measure_31 rfl ?_
    refine j_aload_n C dX6_measure_32 rfl ?_
    refine j_get C 0 rfl rfl inX6 0 (by decide) kw_117 rfl rfl dX6_measure_33 ?_
    refine j_get C 1 rfl rfl inX8 0 (by decide) kw_92 rfl rfl dX6_measure_36 ?_
    refine j_get C 2 rfl rfl inX7 7 (by decide) kw_61 rfl rfl dX6_measure_39 ?_
    obtain ⟨r_between_2, h_2, h⟩ := of_bind h
    refine j_callV1 C mk_X8_between ms_X8_between kw_629 (c_X8_between (gl g) (gD g) h_2) (by decide) 1 rfl rfl [1, 8] rfl rfl rfl rfl rfl (Nat.le_of_ble_eq_true rfl) dX6_measure_42 ?_
    refine j_ws (ws' := (w_X6_measure (gD g) q_this q_ways q_ways_town q_ways_town_froms q_ways_town_tos q_ways_town_kinds q_ways_on q_ways_back q_ways_least q_costLeft q_costFirst w_streets w_corners w_costs w_again w_ways_town_lengths w_ways_town_figures v_isSought r_dueStreets_1 v_size v_ways_town_closed v_ways_town_size v_ways_town_home v_ways_town_froms v_ways_town_tos v_ways_town_kinds v_ways_on v_ways_back v_ways_least s_16.2 v_costFirst)) rfl ?_
    refine j_iastore 9 C h rfl rfl dX6_measure_45 (fun h => ?_)
    refine j_ws (ws' := (w_X6_measure (gD g) q_this q_ways q_ways_town q_ways_town_froms q_ways_town_tos q_ways_town_kinds q_ways_on q_ways_back q_ways_least q_costLeft q_costFirst w_streets w_corners w_costs w_again w_ways_town_lengths w_ways_town_figures v_isSought r_dueStreets_1 v_size v_ways_town_closed v_ways_town_size v_ways_town_home v_ways_town_froms v_ways_town_tos v_ways_town_kinds v_ways_on v_ways_back v_ways_least (upd s_16.2 (Int32.toNatClampNeg s_16.1) r_between_2) v_costFirst)) rfl ?_
    refine j_inc C (1) dX6_measure_46 rfl ki_1 (by decide) ?_
    refine j_goto C 16 dX6_measure_49 (by decide) ?_
    cases h
    have hc9 := hc_16 _ rfl
    exact j_lw hc9 rfl

def w_X6_leastStreet (D : va_G) (q_this q_ways q_ways_town q_ways_town_froms q_ways_town_tos q_ways_on q_ways_back q_costLeft : Nat) (w_costFirst w_streets w_corners w_costs w_again w_ways_least w_ways_town_lengths w_ways_town_kinds w_ways_town_figures : Value) (v_isSought : Int32) (v_due : Int32) (v_size : Int32) (v_ways_town_closed : Int32) (v_ways_town_size : Int32) (v_ways_town_home : Int32) (v_ways_town_froms : (Nat → Int32)) (v_ways_town_tos : (Nat → Int32)) (v_ways_on : (Nat → Int32)) (v_ways_back : (Nat → Int32)) (v_costLeft : (Nat → Int32)) : va_W := [(q_this, .inr (5, [.ref q_ways, .ref q_costLeft, w_costFirst, .int v_isSought, .int v_due, .int v_size, w_streets, w_corners, w_costs, w_again])), (q_ways, .inr (7, [.ref q_ways_town, .ref q_ways_on, .ref q_ways_back, w_ways_least])), (q_ways_town, .inr (6, [.ref q_ways_town_froms, .ref q_ways_town_tos, w_ways_town_lengths, w_ways_town_kinds, w_ways_town_figures, .int v_ways_town_closed, .int v_ways_town_size, .int v_ways_town_home])), (q_ways_town_froms, .inl (D.1 100, 8, .inl v_ways_town_froms)), (q_ways_town_tos, .inl (D.1 100, 8, .inl v_ways_town_tos)), (q_ways_on, .inl (D.1 100, 8, .inl v_ways_on)), (q_ways_back, .inl (D.1 100, 8, .inl v_ways_back)), (q_costLeft, .inl (D.1 100, 1536, .inl v_costLeft))]
def f_X6_leastStreet_b15 (v_ways_town_size : Int32) (x4_15 : Int32) (x1 : Int32) (v_ways_town_froms : (Nat → Int32)) (v_ways_town_tos : (Nat → Int32)) (v_ways_on : (Nat → Int32)) (v_ways_back : (Nat → Int32)) (x2 : Int32) (v_costLeft : (Nat → Int32)) : Option (Int32 ⊕ (Unit ⊕ Int32)) :=
  (if v_ways_town_size ≤ x4_15 then some (.inr (.inl ())) else (f_X8_costFrom x4_15 x1 v_ways_town_froms v_ways_town_tos v_ways_on v_ways_back).bind (fun r_costFrom_1 => (if (1000000 : Int32) ≤ r_costFrom_1 then some (.inl (x4_15 + (1 : Int32))) else (f_X7_otherEnd x4_15 x1 v_ways_town_froms v_ways_town_tos).bind (fun r_otherEnd_2 => ga (((x2 &&& (((1 : Int32) <<< (x4_15 &&& 31)) ^^^ (-1 : Int32))) * (6 : Int32)) + r_otherEnd_2) 1536 ((if (r_costFrom_1 + (v_costLeft (Int32.toNatClampNeg (((x2 &&& (((1 : Int32) <<< (x4_15 &&& 31)) ^^^ (-1 : Int32))) * (6 : Int32)) + r_otherEnd_2)))) = (v_costLeft (Int32.toNatClampNeg ((x2 * (6 : Int32)) + x1))) then some (.inr (.inr x4_15)) else some (.inl (x4_15 + (1 : Int32)))))))))
def f_X6_leastStreet (N : Nat) (x1 : Int32) (x2 : Int32) (v_ways_town_size : Int32) (v_ways_town_froms : (Nat → Int32)) (v_ways_town_tos : (Nat → Int32)) (v_ways_on : (Nat → Int32)) (v_ways_back : (Nat → Int32)) (v_costLeft : (Nat → Int32)) : Option Int32 :=
  ga ((x2 * (6 : Int32)) + x1) 1536 ((lp (fun s_15 => f_X6_leastStreet_b15 v_ways_town_size s_15 x1 v_ways_town_froms v_ways_town_tos v_ways_on v_ways_back x2 v_costLeft) N ((0 : Int32))).bind (fun e_15 => match e_15 with | .inl x_15 => some (-9 : Int32) | .inr o_15 => some o_15))
set_option maxRecDepth 100000 in
set_option maxHeartbeats 4000000 in
theorem c_X6_leastStreet (l : Launch) (D : va_G) (N : Nat) {q_this q_ways q_ways_town q_ways_town_froms q_ways_town_tos q_ways_on q_ways_back q_costLeft : Nat} {w_costFirst w_streets w_corners w_costs w_again w_ways_least w_ways_town_lengths w_ways_town_kinds w_ways_town_figures : Value} {v_isSought : Int32} {v_due : Int32} {v_size : Int32} {v_ways_town_closed : Int32} {v_ways_town_size : Int32} {v_ways_town_home : Int32} {v_ways_town_froms : (Nat → Int32)} {v_ways_town_tos : (Nat → Int32)} {v_ways_on : (Nat → Int32)} {v_ways_back : (Nat → Int32)} {v_costLeft : (Nat → Int32)} {x1 : Int32} {x2 : Int32} {o : Int32} (h : f_X6_leastStreet N x1 x2 v_ways_town_size v_ways_town_froms v_ways_town_tos v_ways_on v_ways_back v_costLeft = some o) : CT l D yX6_leastStreet cX6_leastStreet 7 (Option.some FieldType.int) 1 [.ref q_this, .int x1, .int x2] (w_X6_leastStreet D q_this q_ways q_ways_town q_ways_town_froms q_ways_town_tos q_ways_on q_ways_back q_costLeft w_costFirst w_streets w_corners w_costs w_again w_ways_least w_ways_town_lengths w_ways_town_kinds w_ways_town_figures v_isSought v_due v_size v_ways_town_closed v_ways_town_size v_ways_town_home v_ways_town_froms v_ways_town_tos v_ways_on v_ways_back v_costLeft) (w_X6_leastStreet D q_this q_ways q_ways_town q_ways_town_froms q_ways_town_tos q_ways_on q_ways_back q_costLeft w_costFirst w_streets w_corners w_costs w_again w_ways_least w_ways_town_lengths w_ways_town_kinds w_ways_town_figures v_isSought v_due v_size v_ways_town_closed v_ways_town_size v_ways_town_home v_ways_town_froms v_ways_town_tos v_ways_on v_ways_back v_costLeft) (some (.int o)) := by
  refine CT.of mk_X6_leastStreet (Nat.le_of_ble_eq_true rfl) (fun g hl hD C E => ?_)
  subst hl
  subst hD
  unfold f_X6_leastStreet at h
  refine j_aload_n C dX6_leastStreet_0 rfl ?_
  refine j_get C 0 rfl rfl inX6 1 (by decide) kw_118 rfl rfl dX6_leastStreet_1 ?_
  refine j_iload_n C dX6_leastStreet_4 rfl ?_
  refine j_bipush C (6) dX6_leastStreet_5 kb_6 ?_
  refine j_imul C dX6_leastStreet_7 ?_
  refine j_iload_n C dX6_leastStreet_8 rfl ?_
  refine j_iadd C dX6_leastStreet_9 ?_
  refine j_iaload 7 C h rfl rfl dX6_leastStreet_10 (fun h => ?_)
  refine j_istore_n C dX6_leastStreet_11 (by decide) ?_
  refine j_iconst C (0) dX6_leastStreet_12 ki_0 ?_
  refine j_istore C dX6_leastStreet_13 (by decide) ?_
  obtain ⟨e_15, hl_15, h⟩ := of_bind h
  have hR_15 : ∀ o9, Sum.inr o9 = e_15 → some o9 = some o := by
    intro o9 ho9
    rw [← ho9] at h
    exact h
  have ha_15 : ∀ x_15, Sum.inl x_15 = e_15 → J g (w_X6_leastStreet (gD g) q_this q_ways q_ways_town q_ways_town_froms q_ways_town_tos q_ways_on q_ways_back q_costLeft w_costFirst w_streets w_corners w_costs w_again w_ways_least w_ways_town_lengths w_ways_town_kinds w_ways_town_figures v_isSought v_due v_size v_ways_town_closed v_ways_town_size v_ways_town_home v_ways_town_froms v_ways_town_tos v_ways_on v_ways_back v_costLeft) [] 99 [] := by
    intro x_15 hx9
    rw [← hx9] at h
    dsimp only at h
    refine j_bipush C (-9) dX6_leastStreet_99 kb_m9 ?_
    cases h
    exact j_iret C E dX6_leastStreet_101
  refine j_lv (lv' := [(0, .ref q_this), (1, .int (x1)), (2, .int (x2)), (3, .int (v_costLeft (Int32.toNatClampNeg ((x2 * (6 : Int32)) + x1)))), (4, .int ((0 : Int32)))]) rfl ?_
  refine lp_ind hl_15 (fun s_15 => J g (w_X6_leastStreet (gD g) q_this q_ways q_ways_town q_ways_town_froms q_ways_town_tos q_ways_on q_ways_back q_costLeft w_costFirst w_streets w_corners w_costs w_again w_ways_least w_ways_town_lengths w_ways_town_kinds w_ways_town_figures v_isSought v_due v_size v_ways_town_closed v_ways_town_size v_ways_town_home v_ways_town_froms v_ways_town_tos v_ways_on v_ways_back v_costLeft) [(0, .ref q_this), (1, .int (x1)), (2, .int (x2)), (3, .int (v_costLeft (Int32.toNatClampNeg ((x2 * (6 : Int32)) + x1)))), (4, .int (s_15))] 15 []) (fun s_15 r_15 h hc_15 hx_15 => ?_)
  unfold f_X6_leastStreet_b15 at h
  refine j_iload C dX6_leastStreet_15 rfl ?_
  refine j_aload_n C dX6_leastStreet_17 rfl ?_
  refine j_get C 0 rfl rfl inX6 0 (by decide) kw_117 rfl rfl dX6_leastStreet_18 ?_
  refine j_get C 1 rfl rfl inX8 0 (by decide) kw_92 rfl rfl dX6_leastStreet_21 ?_
  refine j_get C 2 rfl rfl inX7 6 (by decide) kw_58 rfl rfl dX6_leastStreet_24 ?_
  refine j_icmp_ge C h 99 dX6_leastStreet_27 (by decide) (fun hc h => ?_) (fun hc h => ?_)
  · cases h
    have hx9 := hx_15 _ rfl
    have ha9 := ha_15 _ hx9
    exact j_lw ha9 rfl
  · refine j_aload_n C dX6_leastStreet_30 rfl ?_
    refine j_get C 0 rfl rfl inX6 0 (by decide) kw_117 rfl rfl dX6_leastStreet_31 ?_
    refine j_iload C dX6_leastStreet_34 rfl ?_
    refine j_iload_n C dX6_leastStreet_36 rfl ?_
    obtain ⟨r_costFrom_1, h_1, h⟩ := of_bind h
    refine j_callV1 C mk_X8_costFrom ms_X8_costFrom kw_658 (c_X8_costFrom (gl g) (gD g) h_1) (by decide) 1 rfl rfl [1, 2, 3, 4, 5, 6] rfl rfl rfl rfl rfl (Nat.le_of_ble_eq_true rfl) dX6_leastStreet_37 ?_
    refine j_ws (ws' := (w_X6_leastStreet (gD g) q_this q_ways q_ways_town q_ways_town_froms q_ways_town_tos q_ways_on q_ways_back q_costLeft w_costFirst w_streets w_corners w_costs w_again w_ways_least w_ways_town_lengths w_ways_town_kinds w_ways_town_figures v_isSought v_due v_size v_ways_town_closed v_ways_town_size v_ways_town_home v_ways_town_froms v_ways_town_tos v_ways_on v_ways_back v_costLeft)) rfl ?_
    refine j_istore C dX6_leastStreet_40 (by decide) ?_
    refine j_iload_n C dX6_leastStreet_42 rfl ?_
    refine j_iconst C (1) dX6_leastStreet_43 ki_1 ?_
    refine j_iload C dX6_leastStreet_44 rfl ?_
    refine j_ishl C dX6_leastStreet_46 ?_
    refine j_iconst C (-1) dX6_leastStreet_47 ki_m1 ?_
    refine j_ixor C dX6_leastStreet_48 ?_
    refine j_iand C dX6_leastStreet_49 ?_
    refine j_bipush C (6) dX6_leastStreet_50 kb_6 ?_
    refine j_imul C dX6_leastStreet_52 ?_
    refine j_istore C dX6_leastStreet_53 (by decide) ?_
    refine j_iload C dX6_leastStreet_55 rfl ?_
    refine j_ldc C kw_634 dX6_leastStreet_57 ?_
    refine j_icmp_ge C h 93 dX6_leastStreet_59 (by decide) (fun hc h => ?_) (fun hc h => ?_)
    · refine j_inc C (1) dX6_leastStreet_93 rfl ki_1 (by decide) ?_
      refine j_goto C 15 dX6_leastStreet_96 (by decide) ?_
      cases h
      have hc9 := hc_15 _ rfl
      exact j_lw hc9 rfl
    · refine j_iload C dX6_leastStreet_62 rfl ?_
      refine j_aload_n C dX6_leastStreet_64 rfl ?_
      refine j_get C 0 rfl rfl inX6 1 (by decide) kw_118 rfl rfl dX6_leastStreet_65 ?_
      refine j_iload C dX6_leastStreet_68 rfl ?_
      refine j_aload_n C dX6_leastStreet_70 rfl ?_
      refine j_get C 0 rfl rfl inX6 0 (by decide) kw_117 rfl rfl dX6_leastStreet_71 ?_
      refine j_get C 1 rfl rfl inX8 0 (by decide) kw_92 rfl rfl dX6_leastStreet_74 ?_
      refine j_iload C dX6_leastStreet_77 rfl ?_
      refine j_iload_n C dX6_leastStreet_79 rfl ?_
      obtain ⟨r_otherEnd_2, h_2, h⟩ := of_bind h
      refine j_callV1 C mk_X7_otherEnd ms_X7_otherEnd kw_659 (c_X7_otherEnd (gl g) (gD g) h_2) (by decide) 2 rfl rfl [2, 3, 4] rfl rfl rfl rfl rfl (Nat.le_of_ble_eq_true rfl) dX6_leastStreet_80 ?_
      refine j_ws (ws' := (w_X6_leastStreet (gD g) q_this q_ways q_ways_town q_ways_town_froms q_ways_town_tos q_ways_on q_ways_back q_costLeft w_costFirst w_streets w_corners w_costs w_again w_ways_least w_ways_town_lengths w_ways_town_kinds w_ways_town_figures v_isSought v_due v_size v_ways_town_closed v_ways_town_size v_ways_town_home v_ways_town_froms v_ways_town_tos v_ways_on v_ways_back v_costLeft)) rfl ?_
      refine j_iadd C dX6_leastStreet_83 ?_
      refine j_iaload 7 C h rfl rfl dX6_leastStreet_84 (fun h => ?_)
      refine j_iadd C dX6_leastStreet_85 ?_
      refine j_iload_n C dX6_leastStreet_86 rfl ?_
      refine j_icmp_ne C h 93 dX6_leastStreet_87 (by decide) (fun hc h => ?_) (fun hc h => ?_)
      · refine j_iload C dX6_leastStreet_90 rfl ?_
        cases h
        have h := hR_15 _ (hx_15 _ rfl)
        cases h
        exact j_iret C E dX6_leastStreet_92
      · refine j_inc C (1) dX6_leastStreet_93 rfl ki_1 (by decide) ?_
        refine j_goto C 15 dX6_leastStreet_96 (by decide) ?_
        cases h
        have hc9 := hc_15 _ rfl
        exact j_lw hc9 rfl

def w_X6_trace (D : va_G) (q_this q_ways q_ways_town q_ways_town_froms q_ways_town_tos q_ways_on q_ways_back q_costLeft q_streets q_corners q_costs q_again : Nat) (w_costFirst w_ways_least w_ways_town_lengths w_ways_town_kinds w_ways_town_figures : Value) (v_isSought : Int32) (v_due : Int32) (v_size : Int32) (v_ways_town_closed : Int32) (v_ways_town_size : Int32) (v_ways_town_home : Int32) (v_ways_town_froms : (Nat → Int32)) (v_ways_town_tos : (Nat → Int32)) (v_ways_on : (Nat → Int32)) (v_ways_back : (Nat → Int32)) (v_costLeft : (Nat → Int32)) (v_streets : (Nat → Int32)) (v_corners : (Nat → Int32)) (v_costs : (Nat → Int32)) (v_again : (Nat → Int32)) : va_W := [(q_this, .inr (5, [.ref q_ways, .ref q_costLeft, w_costFirst, .int v_isSought, .int v_due, .int v_size, .ref q_streets, .ref q_corners, .ref q_costs, .ref q_again])), (q_ways, .inr (7, [.ref q_ways_town, .ref q_ways_on, .ref q_ways_back, w_ways_least])), (q_ways_town, .inr (6, [.ref q_ways_town_froms, .ref q_ways_town_tos, w_ways_town_lengths, w_ways_town_kinds, w_ways_town_figures, .int v_ways_town_closed, .int v_ways_town_size, .int v_ways_town_home])), (q_ways_town_froms, .inl (D.1 100, 8, .inl v_ways_town_froms)), (q_ways_town_tos, .inl (D.1 100, 8, .inl v_ways_town_tos)), (q_ways_on, .inl (D.1 100, 8, .inl v_ways_on)), (q_ways_back, .inl (D.1 100, 8, .inl v_ways_back)), (q_costLeft, .inl (D.1 100, 1536, .inl v_costLeft)), (q_streets, .inl (D.1 100, 64, .inl v_streets)), (q_corners, .inl (D.1 100, 65, .inl v_corners)), (q_costs, .inl (D.1 100, 64, .inl v_costs)), (q_again, .inl (D.1 101, 64, .inl v_again))]
def f_X6_trace_j2 (N : Nat) (x1_36 : Int32) (x2_36 : Int32) (v_ways_town_size : Int32) (v_ways_town_froms : (Nat → Int32)) (v_ways_town_tos : (Nat → Int32)) (v_ways_on : (Nat → Int32)) (v_ways_back : (Nat → Int32)) (v_costLeft : (Nat → Int32)) (v_size_36 : Int32) (v_streets_36 : (Nat → Int32)) (v_corners_36 : (Nat → Int32)) (v_costs_36 : (Nat → Int32)) (v_again_36 : (Nat → Int32)) : Option ((Int32 × Int32 × Int32 × (Nat → Int32) × (Nat → Int32) × (Nat → Int32) × (Nat → Int32)) ⊕ ((Int32 × (Nat → Int32) × (Nat → Int32) × (Nat → Int32) × (Nat → Int32)) ⊕ (Int32 × (Nat → Int32) × (Nat → Int32) × (Nat → Int32) × (Nat → Int32)))) :=
  (f_X6_leastStreet N x1_36 x2_36 v_ways_town_size v_ways_town_froms v_ways_town_tos v_ways_on v_ways_back v_costLeft).bind (fun r_leastStreet_3 => (if 0 ≤ r_leastStreet_3 then ga v_size_36 64 ((f_X8_costFrom r_leastStreet_3 x1_36 v_ways_town_froms v_ways_town_tos v_ways_on v_ways_back).bind (fun r_costFrom_4 => ga v_size_36 64 (ga v_size_36 64 ((f_X7_otherEnd r_leastStreet_3 x1_36 v_ways_town_froms v_ways_town_tos).bind (fun r_otherEnd_6 => ga (v_size_36 + (1 : Int32)) 65 (some (.inl (r_otherEnd_6, x2_36 &&& (((1 : Int32) <<< (r_leastStreet_3 &&& 31)) ^^^ (-1 : Int32)), v_size_36 + (1 : Int32), upd v_streets_36 (Int32.toNatClampNeg v_size_36) r_leastStreet_3, upd v_corners_36 (Int32.toNatClampNeg (v_size_36 + (1 : Int32))) r_otherEnd_6, upd v_costs_36 (Int32.toNatClampNeg v_size_36) r_costFrom_4, upd v_again_36 (Int32.toNatClampNeg v_size_36) (vp_nar .boolean (if ((x2_36 >>> (r_leastStreet_3 &&& 31)) &&& (1 : Int32)) = 0 then (1 : Int32) else (0 : Int32))))))))))) else some (.inr (.inr (v_size_36, v_streets_36, v_corners_36, v_costs_36, v_again_36)))))
def f_X6_trace_b36 (N : Nat) (v_size_36 : Int32) (v_streets_36 : (Nat → Int32)) (v_corners_36 : (Nat → Int32)) (v_costs_36 : (Nat → Int32)) (v_again_36 : (Nat → Int32)) (x2_36 : Int32) (x1_36 : Int32) (v_ways_town_home : Int32) (v_ways_town_size : Int32) (v_ways_town_froms : (Nat → Int32)) (v_ways_town_tos : (Nat → Int32)) (v_ways_on : (Nat → Int32)) (v_ways_back : (Nat → Int32)) (v_costLeft : (Nat → Int32)) : Option ((Int32 × Int32 × Int32 × (Nat → Int32) × (Nat → Int32) × (Nat → Int32) × (Nat → Int32)) ⊕ ((Int32 × (Nat → Int32) × (Nat → Int32) × (Nat → Int32) × (Nat → Int32)) ⊕ (Int32 × (Nat → Int32) × (Nat → Int32) × (Nat → Int32) × (Nat → Int32)))) :=
  (if (64 : Int32) ≤ v_size_36 then some (.inr (.inl (v_size_36, v_streets_36, v_corners_36, v_costs_36, v_again_36))) else (if x2_36 = 0 then (if x1_36 = v_ways_town_home then some (.inr (.inl (v_size_36, v_streets_36, v_corners_36, v_costs_36, v_again_36))) else f_X6_trace_j2 N x1_36 x2_36 v_ways_town_size v_ways_town_froms v_ways_town_tos v_ways_on v_ways_back v_costLeft v_size_36 v_streets_36 v_corners_36 v_costs_36 v_again_36) else f_X6_trace_j2 N x1_36 x2_36 v_ways_town_size v_ways_town_froms v_ways_town_tos v_ways_on v_ways_back v_costLeft v_size_36 v_streets_36 v_corners_36 v_costs_36 v_again_36))
def f_X6_trace (N : Nat) (v_due : Int32) (v_size : Int32) (v_ways_town_size : Int32) (v_ways_town_home : Int32) (v_ways_town_froms : (Nat → Int32)) (v_ways_town_tos : (Nat → Int32)) (v_ways_on : (Nat → Int32)) (v_ways_back : (Nat → Int32)) (v_costLeft : (Nat → Int32)) (v_streets : (Nat → Int32)) (v_corners : (Nat → Int32)) (v_costs : (Nat → Int32)) (v_again : (Nat → Int32)) : Option (Int32 × (Nat → Int32) × (Nat → Int32) × (Nat → Int32) × (Nat → Int32)) :=
  ga (0 : Int32) 65 ((f_X6_isFound v_due v_ways_town_home v_costLeft).bind (fun r_isFound_1 => (if r_isFound_1 = 0 then some ((0 : Int32), v_streets, upd v_corners (Int32.toNatClampNeg (0 : Int32)) v_ways_town_home, v_costs, v_again) else (lp (fun s_36 => f_X6_trace_b36 N s_36.2.2.1 s_36.2.2.2.1 s_36.2.2.2.2.1 s_36.2.2.2.2.2.1 s_36.2.2.2.2.2.2 s_36.2.1 s_36.1 v_ways_town_home v_ways_town_size v_ways_town_froms v_ways_town_tos v_ways_on v_ways_back v_costLeft) N (v_ways_town_home, v_due, (0 : Int32), v_streets, upd v_corners (Int32.toNatClampNeg (0 : Int32)) v_ways_town_home, v_costs, v_again)).bind (fun e_36 => match e_36 with | .inl x_36 => some (x_36.1, x_36.2.1, x_36.2.2.1, x_36.2.2.2.1, x_36.2.2.2.2) | .inr o_36 => some o_36))))
set_option maxRecDepth 100000 in
set_option maxHeartbeats 4000000 in
theorem c_X6_trace (l : Launch) (D : va_G) (N : Nat) {q_this q_ways q_ways_town q_ways_town_froms q_ways_town_tos q_ways_on q_ways_back q_costLeft q_streets q_corners q_costs q_again : Nat} {w_costFirst w_ways_least w_ways_town_lengths w_ways_town_kinds w_ways_town_figures : Value} {v_isSought : Int32} {v_due : Int32} {v_size : Int32} {v_ways_town_closed : Int32} {v_ways_town_size : Int32} {v_ways_town_home : Int32} {v_ways_town_froms : (Nat → Int32)} {v_ways_town_tos : (Nat → Int32)} {v_ways_on : (Nat → Int32)} {v_ways_back : (Nat → Int32)} {v_costLeft : (Nat → Int32)} {v_streets : (Nat → Int32)} {v_corners : (Nat → Int32)} {v_costs : (Nat → Int32)} {v_again : (Nat → Int32)} {o : (Int32 × (Nat → Int32) × (Nat → Int32) × (Nat → Int32) × (Nat → Int32))} (h : f_X6_trace N v_due v_size v_ways_town_size v_ways_town_home v_ways_town_froms v_ways_town_tos v_ways_on v_ways_back v_costLeft v_streets v_corners v_costs v_again = some o) : CT l D yX6_trace cX6_trace 4 (Option.none : Option FieldType) 2 [.ref q_this] (w_X6_trace D q_this q_ways q_ways_town q_ways_town_froms q_ways_town_tos q_ways_on q_ways_back q_costLeft q_streets q_corners q_costs q_again w_costFirst w_ways_least w_ways_town_lengths w_ways_town_kinds w_ways_town_figures v_isSought v_due v_size v_ways_town_closed v_ways_town_size v_ways_town_home v_ways_town_froms v_ways_town_tos v_ways_on v_ways_back v_costLeft v_streets v_corners v_costs v_again) (w_X6_trace D q_this q_ways q_ways_town q_ways_town_froms q_ways_town_tos q_ways_on q_ways_back q_costLeft q_streets q_corners q_costs q_again w_costFirst w_ways_least w_ways_town_lengths w_ways_town_kinds w_ways_town_figures v_isSought v_due o.1 v_ways_town_closed v_ways_town_size v_ways_town_home v_ways_town_froms v_ways_town_tos v_ways_on v_ways_back v_costLeft o.2.1 o.2.2.1 o.2.2.2.1 o.2.2.2.2) (none) := by
  refine CT.of mk_X6_trace (Nat.le_of_ble_eq_true rfl) (fun g hl hD C E => ?_)
  subst hl
  subst hD
  unfold f_X6_trace at h
  refine j_aload_n C dX6_trace_0 rfl ?_
  refine j_get C 0 rfl rfl inX6 0 (by decide) kw_117 rfl rfl dX6_trace_1 ?_
  refine j_get C 1 rfl rfl inX8 0 (by decide) kw_92 rfl rfl dX6_trace_4 ?_
  refine j_get C 2 rfl rfl inX7 7 (by decide) kw_61 rfl rfl dX6_trace_7 ?_
  refine j_istore_n C dX6_trace_10 (by decide) ?_
  refine j_aload_n C dX6_trace_11 rfl ?_
  refine j_get C 0 rfl rfl inX6 4 (by decide) kw_121 rfl rfl dX6_trace_12 ?_
  refine j_istore_n C dX6_trace_15 (by decide) ?_
  refine j_aload_n C dX6_trace_16 rfl ?_
  refine j_iconst C (0) dX6_trace_17 ki_0 ?_
  refine j_put C 0 rfl rfl inX6 tyX6_ok nmX6 5 (by decide) kw_123 rfl rfl rfl rfl (Nat.le_of_ble_eq_true rfl) dX6_trace_18 ?_
  refine j_ws (ws' := (w_X6_trace (gD g) q_this q_ways q_ways_town q_ways_town_froms q_ways_town_tos q_ways_on q_ways_back q_costLeft q_streets q_corners q_costs q_again w_costFirst w_ways_least w_ways_town_lengths w_ways_town_kinds w_ways_town_figures v_isSought v_due ((0 : Int32)) v_ways_town_closed v_ways_town_size v_ways_town_home v_ways_town_froms v_ways_town_tos v_ways_on v_ways_back v_costLeft v_streets v_corners v_costs v_again)) rfl ?_
  refine j_aload_n C dX6_trace_21 rfl ?_
  refine j_get C 0 rfl rfl inX6 7 (by decide) kw_127 rfl rfl dX6_trace_22 ?_
  refine j_iconst C (0) dX6_trace_25 ki_0 ?_
  refine j_iload_n C dX6_trace_26 rfl ?_
  refine j_iastore 9 C h rfl rfl dX6_trace_27 (fun h => ?_)
  refine j_ws (ws' := (w_X6_trace (gD g) q_this q_ways q_ways_town q_ways_town_froms q_ways_town_tos q_ways_on q_ways_back q_costLeft q_streets q_corners q_costs q_again w_costFirst w_ways_least w_ways_town_lengths w_ways_town_kinds w_ways_town_figures v_isSought v_due ((0 : Int32)) v_ways_town_closed v_ways_town_size v_ways_town_home v_ways_town_froms v_ways_town_tos v_ways_on v_ways_back v_costLeft v_streets (upd v_corners (Int32.toNatClampNeg (0 : Int32)) v_ways_town_home) v_costs v_again)) rfl ?_
  refine j_aload_n C dX6_trace_28 rfl ?_
  obtain ⟨r_isFound_1, h_1, h⟩ := of_bind h
  refine j_callV1 C mk_X6_isFound ms_X6_isFound kw_646 (c_X6_isFound (gl g) (gD g) h_1) (by decide) 0 rfl rfl [0, 1, 2, 7] rfl rfl rfl rfl rfl (Nat.le_of_ble_eq_true rfl) dX6_trace_29 ?_
  refine j_ws (ws' := (w_X6_trace (gD g) q_this q_ways q_ways_town q_ways_town_froms q_ways_town_tos q_ways_on q_ways_back q_costLeft q_streets q_corners q_costs q_again w_costFirst w_ways_least w_ways_town_lengths w_ways_town_kinds w_ways_town_figures v_isSought v_due ((0 : Int32)) v_ways_town_closed v_ways_town_size v_ways_town_home v_ways_town_froms v_ways_town_tos v_ways_on v_ways_back v_costLeft v_streets (upd v_corners (Int32.toNatClampNeg (0 : Int32)) v_ways_town_home) v_costs v_again)) rfl ?_
  refine j_if_ne C h 36 dX6_trace_32 (by decide) (fun hc h => ?_) (fun hc h => ?_)
  · cases h
    exact j_vret C E dX6_trace_35
  · obtain ⟨e_36, hl_36, h⟩ := of_bind h
    have hR_36 : ∀ o9, Sum.inr o9 = e_36 → some o9 = some o := by
      intro o9 ho9
      rw [← ho9] at h
      exact h
    have ha_36 : ∀ x_36, Sum.inl x_36 = e_36 → J g (w_X6_trace (gD g) q_this q_ways q_ways_town q_ways_town_froms q_ways_town_tos q_ways_on q_ways_back q_costLeft q_streets q_corners q_costs q_again w_costFirst w_ways_least w_ways_town_lengths w_ways_town_kinds w_ways_town_figures v_isSought v_due x_36.1 v_ways_town_closed v_ways_town_size v_ways_town_home v_ways_town_froms v_ways_town_tos v_ways_on v_ways_back v_costLeft x_36.2.1 x_36.2.2.1 x_36.2.2.2.1 x_36.2.2.2.2) [] 169 [] := by
      intro x_36 hx9
      rw [← hx9] at h
      dsimp only at h
      cases h
      exact j_vret C E dX6_trace_169
    refine j_lv (lv' := [(0, .ref q_this), (1, .int (v_ways_town_home)), (2, .int (v_due))]) rfl ?_
    refine lp_ind hl_36 (fun s_36 => J g (w_X6_trace (gD g) q_this q_ways q_ways_town q_ways_town_froms q_ways_town_tos q_ways_on q_ways_back q_costLeft q_streets q_corners q_costs q_again w_costFirst w_ways_least w_ways_town_lengths w_ways_town_kinds w_ways_town_figures v_isSought v_due s_36.2.2.1 v_ways_town_closed v_ways_town_size v_ways_town_home v_ways_town_froms v_ways_town_tos v_ways_on v_ways_back v_costLeft s_36.2.2.2.1 s_36.2.2.2.2.1 s_36.2.2.2.2.2.1 s_36.2.2.2.2.2.2) [(0, .ref q_this), (1, .int (s_36.1)), (2, .int (s_36.2.1))] 36 []) (fun s_36 r_36 h hc_36 hx_36 => ?_)
    unfold f_X6_trace_b36 at h
    refine j_aload_n C dX6_trace_36 rfl ?_
    refine j_get C 0 rfl rfl inX6 5 (by decide) kw_123 rfl rfl dX6_trace_37 ?_
    refine j_bipush C (64) dX6_trace_40 kb_64 ?_
    refine j_icmp_ge C h 169 dX6_trace_42 (by decide) (fun hc h => ?_) (fun hc h => ?_)
    · cases h
      have hx9 := hx_36 _ rfl
      have ha9 := ha_36 _ hx9
      exact j_lw ha9 rfl
    · refine j_iload_n C dX6_trace_45 rfl ?_
      have hj_2 : f_X6_trace_j2 N s_36.1 s_36.2.1 v_ways_town_size v_ways_town_froms v_ways_town_tos v_ways_on v_ways_back v_costLeft s_36.2.2.1 s_36.2.2.2.1 s_36.2.2.2.2.1 s_36.2.2.2.2.2.1 s_36.2.2.2.2.2.2 = some r_36 → J g (w_X6_trace (gD g) q_this q_ways q_ways_town q_ways_town_froms q_ways_town_tos q_ways_on q_ways_back q_costLeft q_streets q_corners q_costs q_again w_costFirst w_ways_least w_ways_town_lengths w_ways_town_kinds w_ways_town_figures v_isSought v_due s_36.2.2.1 v_ways_town_closed v_ways_town_size v_ways_town_home v_ways_town_froms v_ways_town_tos v_ways_on v_ways_back v_costLeft s_36.2.2.2.1 s_36.2.2.2.2.1 s_36.2.2.2.2.2.1 s_36.2.2.2.2.2.2) [(0, .ref q_this), (1, .int (s_36.1)), (2, .int (s_36.2.1))] 63 [] := by
        intro  h
        unfold f_X6_trace_j2 at h
        refine j_aload_n C dX6_trace_63 rfl ?_
        refine j_iload_n C dX6_trace_64 rfl ?_
        refine j_iload_n C dX6_trace_65 rfl ?_
        obtain ⟨r_leastStreet_3, h_3, h⟩ := of_bind h
        refine j_callV1 C mk_X6_leastStreet ms_X6_leastStreet kw_654 (c_X6_leastStreet (gl g) (gD g) N h_3) (by decide) 0 rfl rfl [0, 1, 2, 3, 4, 5, 6, 7] rfl rfl rfl rfl rfl (Nat.le_of_ble_eq_true rfl) dX6_trace_66 ?_
        refine j_ws (ws' := (w_X6_trace (gD g) q_this q_ways q_ways_town q_ways_town_froms q_ways_town_tos q_ways_on q_ways_back q_costLeft q_streets q_corners q_costs q_again w_costFirst w_ways_least w_ways_town_lengths w_ways_town_kinds w_ways_town_figures v_isSought v_due s_36.2.2.1 v_ways_town_closed v_ways_town_size v_ways_town_home v_ways_town_froms v_ways_town_tos v_ways_on v_ways_back v_costLeft s_36.2.2.2.1 s_36.2.2.2.2.1 s_36.2.2.2.2.2.1 s_36.2.2.2.2.2.2)) rfl ?_
        refine j_istore_n C dX6_trace_69 (by decide) ?_
        refine j_iload_n C dX6_trace_70 rfl ?_
        refine j_if_ge C h 75 dX6_trace_71 (by decide) (fun hc h => ?_) (fun hc h => ?_)
        · refine j_aload_n C dX6_trace_75 rfl ?_
          refine j_get C 0 rfl rfl inX6 6 (by decide) kw_125 rfl rfl dX6_trace_76 ?_
          refine j_aload_n C dX6_trace_79 rfl ?_
          refine j_get C 0 rfl rfl inX6 5 (by decide) kw_123 rfl rfl dX6_trace_80 ?_
          refine j_iload_n C dX6_trace_83 rfl ?_
          refine j_iastore 8 C h rfl rfl dX6_trace_84 (fun h => ?_)
          refine j_ws (ws' := (w_X6_trace (gD g) q_this q_ways q_ways_town q_ways_town_froms q_ways_town_tos q_ways_on q_ways_back q_costLeft q_streets q_corners q_costs q_again w_costFirst w_ways_least w_ways_town_lengths w_ways_town_kinds w_ways_town_figures v_isSought v_due s_36.2.2.1 v_ways_town_closed v_ways_town_size v_ways_town_home v_ways_town_froms v_ways_town_tos v_ways_on v_ways_back v_costLeft (upd s_36.2.2.2.1 (Int32.toNatClampNeg s_36.2.2.1) r_leastStreet_3) s_36.2.2.2.2.1 s_36.2.2.2.2.2.1 s_36.2.2.2.2.2.2)) rfl ?_
          refine j_aload_n C dX6_trace_85 rfl ?_
          refine j_get C 0 rfl rfl inX6 8 (by decide) kw_129 rfl rfl dX6_trace_86 ?_
          refine j_aload_n C dX6_trace_89 rfl ?_
          refine j_get C 0 rfl rfl inX6 5 (by decide) kw_123 rfl rfl dX6_trace_90 ?_
          refine j_aload_n C dX6_trace_93 rfl ?_
          refine j_get C 0 rfl rfl inX6 0 (by decide) kw_117 rfl rfl dX6_trace_94 ?_
          refine j_iload_n C dX6_trace_97 rfl ?_
          refine j_iload_n C dX6_trace_98 rfl ?_
          obtain ⟨r_costFrom_4, h_4, h⟩ := of_bind h
          refine j_callV1 C mk_X8_costFrom ms_X8_costFrom kw_658 (c_X8_costFrom (gl g) (gD g) h_4) (by decide) 1 rfl rfl [1, 2, 3, 4, 5, 6] rfl rfl rfl rfl rfl (Nat.le_of_ble_eq_true rfl) dX6_trace_99 ?_
          refine j_ws (ws' := (w_X6_trace (gD g) q_this q_ways q_ways_town q_ways_town_froms q_ways_town_tos q_ways_on q_ways_back q_costLeft q_streets q_corners q_costs q_again w_costFirst w_ways_least w_ways_town_lengths w_ways_town_kinds w_ways_town_figures v_isSought v_due s_36.2.2.1 v_ways_town_closed v_ways_town_size v_ways_town_home v_ways_town_froms v_ways_town_tos v_ways_on v_ways_back v_costLeft (upd s_36.2.2.2.1 (Int32.toNatClampNeg s_36.2.2.1) r_leastStreet_3) s_36.2.2.2.2.1 s_36.2.2.2.2.2.1 s_36.2.2.2.2.2.2)) rfl ?_
          refine j_iastore 10 C h rfl rfl dX6_trace_102 (fun h => ?_)
          refine j_ws (ws' := (w_X6_trace (gD g) q_this q_ways q_ways_town q_ways_town_froms q_ways_town_tos q_ways_on q_ways_back q_costLeft q_streets q_corners q_costs q_again w_costFirst w_ways_least w_ways_town_lengths w_ways_town_kinds w_ways_town_figures v_isSought v_due s_36.2.2.1 v_ways_town_closed v_ways_town_size v_ways_town_home v_ways_town_froms v_ways_town_tos v_ways_on v_ways_back v_costLeft (upd s_36.2.2.2.1 (Int32.toNatClampNeg s_36.2.2.1) r_leastStreet_3) s_36.2.2.2.2.1 (upd s_36.2.2.2.2.2.1 (Int32.toNatClampNeg s_36.2.2.1) r_costFrom_4) s_36.2.2.2.2.2.2)) rfl ?_
          refine j_aload_n C dX6_trace_103 rfl ?_
          refine j_get C 0 rfl rfl inX6 9 (by decide) kw_131 rfl rfl dX6_trace_104 ?_
          refine j_aload_n C dX6_trace_107 rfl ?_
          refine j_get C 0 rfl rfl inX6 5 (by decide) kw_123 rfl rfl dX6_trace_108 ?_
          refine j_iload_n C dX6_trace_111 rfl ?_
          refine j_iload_n C dX6_trace_112 rfl ?_
          refine j_ishr C dX6_trace_113 ?_
          refine j_iconst C (1) dX6_trace_114 ki_1 ?_
          refine j_iand C dX6_trace_115 ?_
          have hj_5 : J g (w_X6_trace (gD g) q_this q_ways q_ways_town q_ways_town_froms q_ways_town_tos q_ways_on q_ways_back q_costLeft q_streets q_corners q_costs q_again w_costFirst w_ways_least w_ways_town_lengths w_ways_town_kinds w_ways_town_figures v_isSought v_due s_36.2.2.1 v_ways_town_closed v_ways_town_size v_ways_town_home v_ways_town_froms v_ways_town_tos v_ways_on v_ways_back v_costLeft (upd s_36.2.2.2.1 (Int32.toNatClampNeg s_36.2.2.1) r_leastStreet_3) s_36.2.2.2.2.1 (upd s_36.2.2.2.2.2.1 (Int32.toNatClampNeg s_36.2.2.1) r_costFrom_4) s_36.2.2.2.2.2.2) [(0, .ref q_this), (1, .int (s_36.1)), (2, .int (s_36.2.1)), (3, .int (r_leastStreet_3))] 124 [.int (if ((s_36.2.1 >>> (r_leastStreet_3 &&& 31)) &&& (1 : Int32)) = 0 then (1 : Int32) else (0 : Int32)), .int (s_36.2.2.1), .ref q_again] := by
            refine j_zastore 11 C h rfl rfl dX6_trace_124 (fun h => ?_)
            refine j_ws (ws' := (w_X6_trace (gD g) q_this q_ways q_ways_town q_ways_town_froms q_ways_town_tos q_ways_on q_ways_back q_costLeft q_streets q_corners q_costs q_again w_costFirst w_ways_least w_ways_town_lengths w_ways_town_kinds w_ways_town_figures v_isSought v_due s_36.2.2.1 v_ways_town_closed v_ways_town_size v_ways_town_home v_ways_town_froms v_ways_town_tos v_ways_on v_ways_back v_costLeft (upd s_36.2.2.2.1 (Int32.toNatClampNeg s_36.2.2.1) r_leastStreet_3) s_36.2.2.2.2.1 (upd s_36.2.2.2.2.2.1 (Int32.toNatClampNeg s_36.2.2.1) r_costFrom_4) (upd s_36.2.2.2.2.2.2 (Int32.toNatClampNeg s_36.2.2.1) (vp_nar .boolean (if ((s_36.2.1 >>> (r_leastStreet_3 &&& 31)) &&& (1 : Int32)) = 0 then (1 : Int32) else (0 : Int32)))))) rfl ?_
            refine j_aload_n C dX6_trace_125 rfl ?_
            refine j_get C 0 rfl rfl inX6 0 (by decide) kw_117 rfl rfl dX6_trace_126 ?_
            refine j_get C 1 rfl rfl inX8 0 (by decide) kw_92 rfl rfl dX6_trace_129 ?_
            refine j_iload_n C dX6_trace_132 rfl ?_
            refine j_iload_n C dX6_trace_133 rfl ?_
            obtain ⟨r_otherEnd_6, h_6, h⟩ := of_bind h
            refine j_callV1 C mk_X7_otherEnd ms_X7_otherEnd kw_659 (c_X7_otherEnd (gl g) (gD g) h_6) (by decide) 2 rfl rfl [2, 3, 4] rfl rfl rfl rfl rfl (Nat.le_of_ble_eq_true rfl) dX6_trace_134 ?_
            refine j_ws (ws' := (w_X6_trace (gD g) q_this q_ways q_ways_town q_ways_town_froms q_ways_town_tos q_ways_on q_ways_back q_costLeft q_streets q_corners q_costs q_again w_costFirst w_ways_least w_ways_town_lengths w_ways_town_kinds w_ways_town_figures v_isSought v_due s_36.2.2.1 v_ways_town_closed v_ways_town_size v_ways_town_home v_ways_town_froms v_ways_town_tos v_ways_on v_ways_back v_costLeft (upd s_36.2.2.2.1 (Int32.toNatClampNeg s_36.2.2.1) r_leastStreet_3) s_36.2.2.2.2.1 (upd s_36.2.2.2.2.2.1 (Int32.toNatClampNeg s_36.2.2.1) r_costFrom_4) (upd s_36.2.2.2.2.2.2 (Int32.toNatClampNeg s_36.2.2.1) (vp_nar .boolean (if ((s_36.2.1 >>> (r_leastStreet_3 &&& 31)) &&& (1 : Int32)) = 0 then (1 : Int32) else (0 : Int32)))))) rfl ?_
            refine j_istore_n C dX6_trace_137 (by decide) ?_
            refine j_iload_n C dX6_trace_138 rfl ?_
            refine j_iconst C (1) dX6_trace_139 ki_1 ?_
            refine j_iload_n C dX6_trace_140 rfl ?_
            refine j_ishl C dX6_trace_141 ?_
            refine j_iconst C (-1) dX6_trace_142 ki_m1 ?_
            refine j_ixor C dX6_trace_143 ?_
            refine j_iand C dX6_trace_144 ?_
            refine j_istore_n C dX6_trace_145 (by decide) ?_
            refine j_aload_n C dX6_trace_146 rfl ?_
            refine j_dup C dX6_trace_147 rfl ?_
            refine j_get C 0 rfl rfl inX6 5 (by decide) kw_123 rfl rfl dX6_trace_148 ?_
            refine j_iconst C (1) dX6_trace_151 ki_1 ?_
            refine j_iadd C dX6_trace_152 ?_
            refine j_put C 0 rfl rfl inX6 tyX6_ok nmX6 5 (by decide) kw_123 rfl rfl rfl rfl (Nat.le_of_ble_eq_true rfl) dX6_trace_153 ?_
            refine j_ws (ws' := (w_X6_trace (gD g) q_this q_ways q_ways_town q_ways_town_froms q_ways_town_tos q_ways_on q_ways_back q_costLeft q_streets q_corners q_costs q_again w_costFirst w_ways_least w_ways_town_lengths w_ways_town_kinds w_ways_town_figures v_isSought v_due (s_36.2.2.1 + (1 : Int32)) v_ways_town_closed v_ways_town_size v_ways_town_home v_ways_town_froms v_ways_town_tos v_ways_on v_ways_back v_costLeft (upd s_36.2.2.2.1 (Int32.toNatClampNeg s_36.2.2.1) r_leastStreet_3) s_36.2.2.2.2.1 (upd s_36.2.2.2.2.2.1 (Int32.toNatClampNeg s_36.2.2.1) r_costFrom_4) (upd s_36.2.2.2.2.2.2 (Int32.toNatClampNeg s_36.2.2.1) (vp_nar .boolean (if ((s_36.2.1 >>> (r_leastStreet_3 &&& 31)) &&& (1 : Int32)) = 0 then (1 : Int32) else (0 : Int32)))))) rfl ?_
            refine j_aload_n C dX6_trace_156 rfl ?_
            refine j_get C 0 rfl rfl inX6 7 (by decide) kw_127 rfl rfl dX6_trace_157 ?_
            refine j_aload_n C dX6_trace_160 rfl ?_
            refine j_get C 0 rfl rfl inX6 5 (by decide) kw_123 rfl rfl dX6_trace_161 ?_
            refine j_iload_n C dX6_trace_164 rfl ?_
            refine j_iastore 9 C h rfl rfl dX6_trace_165 (fun h => ?_)
            refine j_ws (ws' := (w_X6_trace (gD g) q_this q_ways q_ways_town q_ways_town_froms q_ways_town_tos q_ways_on q_ways_back q_costLeft q_streets q_corners q_costs q_again w_costFirst w_ways_least w_ways_town_lengths w_ways_town_kinds w_ways_town_figures v_isSought v_due (s_36.2.2.1 + (1 : Int32)) v_ways_town_closed v_ways_town_size v_ways_town_home v_ways_town_froms v_ways_town_tos v_ways_on v_ways_back v_costLeft (upd s_36.2.2.2.1 (Int32.toNatClampNeg s_36.2.2.1) r_leastStreet_3) (upd s_36.2.2.2.2.1 (Int32.toNatClampNeg (s_36.2.2.1 + (1 : Int32))) r_otherEnd_6) (upd s_36.2.2.2.2.2.1 (Int32.toNatClampNeg s_36.2.2.1) r_costFrom_4) (upd s_36.2.2.2.2.2.2 (Int32.toNatClampNeg s_36.2.2.1) (vp_nar .boolean (if ((s_36.2.1 >>> (r_leastStreet_3 &&& 31)) &&& (1 : Int32)) = 0 then (1 : Int32) else (0 : Int32)))))) rfl ?_
            refine j_goto C 36 dX6_trace_166 (by decide) ?_
            cases h
            have hc9 := hc_36 _ rfl
            exact j_lw hc9 rfl
          refine jv_if_ne C 123 dX6_trace_116 (by decide) (fun hc => ?_) (fun hc => ?_)
          · try simp only [if_pos hc] at hj_5
            refine j_iconst C (1) dX6_trace_119 ki_1 ?_
            refine j_goto C 124 dX6_trace_120 (by decide) ?_
            exact j_lw hj_5 rfl
          · try simp only [if_neg hc] at hj_5
            refine j_iconst C (0) dX6_trace_123 ki_0 ?_
            exact j_lw hj_5 rfl
        · cases h
          have h := hR_36 _ (hx_36 _ rfl)
          cases h
          exact j_vret C E dX6_trace_74
      refine j_if_ne C h 63 dX6_trace_46 (by decide) (fun hc h => ?_) (fun hc h => ?_)
      · refine j_iload_n C dX6_trace_49 rfl ?_
        refine j_aload_n C dX6_trace_50 rfl ?_
        refine j_get C 0 rfl rfl inX6 0 (by decide) kw_117 rfl rfl dX6_trace_51 ?_
        refine j_get C 1 rfl rfl inX8 0 (by decide) kw_92 rfl rfl dX6_trace_54 ?_
        refine j_get C 2 rfl rfl inX7 7 (by decide) kw_61 rfl rfl dX6_trace_57 ?_
        refine j_icmp_eq C h 169 dX6_trace_60 (by decide) (fun hc h => ?_) (fun hc h => ?_)
        · cases h
          have hx9 := hx_36 _ rfl
          have ha9 := ha_36 _ hx9
          exact j_lw ha9 rfl
        · have hj9 := hj_2  h
          exact j_lw hj9 rfl
      · have hj9 := hj_2  h
        exact j_lw hj9 rfl

def w_X6_seek (D : va_G) (q_this q_ways q_ways_town q_ways_town_froms q_ways_town_tos q_ways_town_lengths q_ways_town_kinds q_ways_town_figures q_ways_on q_ways_back q_ways_least q_costLeft q_costFirst q_streets q_corners q_costs q_again q_p1 q_p1_froms q_p1_tos q_p1_lengths q_p1_kinds q_p1_figures : Nat) (v_isSought : Int32) (v_due : Int32) (v_size : Int32) (v_ways_town_closed : Int32) (v_ways_town_size : Int32) (v_ways_town_home : Int32) (v_ways_town_froms : (Nat → Int32)) (v_ways_town_tos : (Nat → Int32)) (v_ways_town_lengths : (Nat → Int32)) (v_ways_town_kinds : (Nat → Int32)) (v_ways_town_figures : (Nat → Int32)) (v_ways_on : (Nat → Int32)) (v_ways_back : (Nat → Int32)) (v_ways_least : (Nat → Int32)) (v_costLeft : (Nat → Int32)) (v_costFirst : (Nat → Int32)) (v_streets : (Nat → Int32)) (v_corners : (Nat → Int32)) (v_costs : (Nat → Int32)) (v_again : (Nat → Int32)) (v_p1_closed : Int32) (v_p1_size : Int32) (v_p1_home : Int32) (v_p1_froms : (Nat → Int32)) (v_p1_tos : (Nat → Int32)) (v_p1_lengths : (Nat → Int32)) (v_p1_kinds : (Nat → Int32)) (v_p1_figures : (Nat → Int32)) : va_W := [(q_this, .inr (5, [.ref q_ways, .ref q_costLeft, .ref q_costFirst, .int v_isSought, .int v_due, .int v_size, .ref q_streets, .ref q_corners, .ref q_costs, .ref q_again])), (q_ways, .inr (7, [.ref q_ways_town, .ref q_ways_on, .ref q_ways_back, .ref q_ways_least])), (q_ways_town, .inr (6, [.ref q_ways_town_froms, .ref q_ways_town_tos, .ref q_ways_town_lengths, .ref q_ways_town_kinds, .ref q_ways_town_figures, .int v_ways_town_closed, .int v_ways_town_size, .int v_ways_town_home])), (q_ways_town_froms, .inl (D.1 100, 8, .inl v_ways_town_froms)), (q_ways_town_tos, .inl (D.1 100, 8, .inl v_ways_town_tos)), (q_ways_town_lengths, .inl (D.1 100, 8, .inl v_ways_town_lengths)), (q_ways_town_kinds, .inl (D.1 100, 8, .inl v_ways_town_kinds)), (q_ways_town_figures, .inl (D.1 100, 8, .inl v_ways_town_figures)), (q_ways_on, .inl (D.1 100, 8, .inl v_ways_on)), (q_ways_back, .inl (D.1 100, 8, .inl v_ways_back)), (q_ways_least, .inl (D.1 100, 36, .inl v_ways_least)), (q_costLeft, .inl (D.1 100, 1536, .inl v_costLeft)), (q_costFirst, .inl (D.1 100, 6, .inl v_costFirst)), (q_streets, .inl (D.1 100, 64, .inl v_streets)), (q_corners, .inl (D.1 100, 65, .inl v_corners)), (q_costs, .inl (D.1 100, 64, .inl v_costs)), (q_again, .inl (D.1 101, 64, .inl v_again)), (q_p1, .inr (6, [.ref q_p1_froms, .ref q_p1_tos, .ref q_p1_lengths, .ref q_p1_kinds, .ref q_p1_figures, .int v_p1_closed, .int v_p1_size, .int v_p1_home])), (q_p1_froms, .inl (D.1 100, 8, .inl v_p1_froms)), (q_p1_tos, .inl (D.1 100, 8, .inl v_p1_tos)), (q_p1_lengths, .inl (D.1 100, 8, .inl v_p1_lengths)), (q_p1_kinds, .inl (D.1 100, 8, .inl v_p1_kinds)), (q_p1_figures, .inl (D.1 100, 8, .inl v_p1_figures))]
def f_X6_seek_j1 (N : Nat) (v_ways_town_closed : Int32) (v_ways_town_size : Int32) (v_ways_town_home : Int32) (v_ways_town_froms : (Nat → Int32)) (v_ways_town_tos : (Nat → Int32)) (v_ways_town_lengths : (Nat → Int32)) (v_ways_town_kinds : (Nat → Int32)) (v_ways_town_figures : (Nat → Int32)) (v_ways_on : (Nat → Int32)) (v_ways_back : (Nat → Int32)) (v_ways_least : (Nat → Int32)) (v_p1_closed : Int32) (v_p1_size : Int32) (v_p1_home : Int32) (v_p1_froms : (Nat → Int32)) (v_p1_tos : (Nat → Int32)) (v_p1_lengths : (Nat → Int32)) (v_p1_kinds : (Nat → Int32)) (v_p1_figures : (Nat → Int32)) (v_due : Int32) (v_costLeft : (Nat → Int32)) (v_costFirst : (Nat → Int32)) (v_size : Int32) (v_streets : (Nat → Int32)) (v_corners : (Nat → Int32)) (v_costs : (Nat → Int32)) (v_again : (Nat → Int32)) : Option (Int32 × Int32 × Int32 × Int32 × Int32 × Int32 × (Nat → Int32) × (Nat → Int32) × (Nat → Int32) × (Nat → Int32) × (Nat → Int32) × (Nat → Int32) × (Nat → Int32) × (Nat → Int32) × (Nat → Int32) × (Nat → Int32) × (Nat → Int32) × (Nat → Int32) × (Nat → Int32) × (Nat → Int32)) :=
  (f_X8_learn N (0 : Int32) v_ways_town_closed v_ways_town_size v_ways_town_home v_ways_town_froms v_ways_town_tos v_ways_town_lengths v_ways_town_kinds v_ways_town_figures v_ways_on v_ways_back v_ways_least v_p1_closed v_p1_size v_p1_home v_p1_froms v_p1_tos v_p1_lengths v_p1_kinds v_p1_figures).bind (fun r_learn_2 => (f_X6_measure N v_due r_learn_2.1 r_learn_2.2.1 r_learn_2.2.2.1 r_learn_2.2.2.2.1 r_learn_2.2.2.2.2.1 r_learn_2.2.2.2.2.2.2.1 r_learn_2.2.2.2.2.2.2.2.2.1 r_learn_2.2.2.2.2.2.2.2.2.2.1 r_learn_2.2.2.2.2.2.2.2.2.2.2 v_costLeft v_costFirst).bind (fun r_measure_3 => (f_X6_trace N r_measure_3.1 v_size r_learn_2.2.1 r_learn_2.2.2.1 r_learn_2.2.2.2.1 r_learn_2.2.2.2.2.1 r_learn_2.2.2.2.2.2.2.2.2.1 r_learn_2.2.2.2.2.2.2.2.2.2.1 r_measure_3.2.1 v_streets v_corners v_costs v_again).bind (fun r_trace_4 => some ((1 : Int32), r_measure_3.1, r_trace_4.1, r_learn_2.1, r_learn_2.2.1, r_learn_2.2.2.1, r_learn_2.2.2.2.1, r_learn_2.2.2.2.2.1, r_learn_2.2.2.2.2.2.1, r_learn_2.2.2.2.2.2.2.1, r_learn_2.2.2.2.2.2.2.2.1, r_learn_2.2.2.2.2.2.2.2.2.1, r_learn_2.2.2.2.2.2.2.2.2.2.1, r_learn_2.2.2.2.2.2.2.2.2.2.2, r_measure_3.2.1, r_measure_3.2.2, r_trace_4.2.1, r_trace_4.2.2.1, r_trace_4.2.2.2.1, r_trace_4.2.2.2.2))))
def f_X6_seek (N : Nat) (v_isSought : Int32) (v_due : Int32) (v_size : Int32) (v_ways_town_closed : Int32) (v_ways_town_size : Int32) (v_ways_town_home : Int32) (v_ways_town_froms : (Nat → Int32)) (v_ways_town_tos : (Nat → Int32)) (v_ways_town_lengths : (Nat → Int32)) (v_ways_town_kinds : (Nat → Int32)) (v_ways_town_figures : (Nat → Int32)) (v_ways_on : (Nat → Int32)) (v_ways_back : (Nat → Int32)) (v_ways_least : (Nat → Int32)) (v_costLeft : (Nat → Int32)) (v_costFirst : (Nat → Int32)) (v_streets : (Nat → Int32)) (v_corners : (Nat → Int32)) (v_costs : (Nat → Int32)) (v_again : (Nat → Int32)) (v_p1_closed : Int32) (v_p1_size : Int32) (v_p1_home : Int32) (v_p1_froms : (Nat → Int32)) (v_p1_tos : (Nat → Int32)) (v_p1_lengths : (Nat → Int32)) (v_p1_kinds : (Nat → Int32)) (v_p1_figures : (Nat → Int32)) : Option (Int32 × Int32 × Int32 × Int32 × Int32 × Int32 × (Nat → Int32) × (Nat → Int32) × (Nat → Int32) × (Nat → Int32) × (Nat → Int32) × (Nat → Int32) × (Nat → Int32) × (Nat → Int32) × (Nat → Int32) × (Nat → Int32) × (Nat → Int32) × (Nat → Int32) × (Nat → Int32) × (Nat → Int32)) :=
  (if v_isSought = 0 then f_X6_seek_j1 N v_ways_town_closed v_ways_town_size v_ways_town_home v_ways_town_froms v_ways_town_tos v_ways_town_lengths v_ways_town_kinds v_ways_town_figures v_ways_on v_ways_back v_ways_least v_p1_closed v_p1_size v_p1_home v_p1_froms v_p1_tos v_p1_lengths v_p1_kinds v_p1_figures v_due v_costLeft v_costFirst v_size v_streets v_corners v_costs v_again else (f_X7_isLike N v_ways_town_closed v_ways_town_size v_ways_town_home v_ways_town_froms v_ways_town_tos v_ways_town_lengths v_ways_town_kinds v_ways_town_figures v_p1_closed v_p1_size v_p1_home v_p1_froms v_p1_tos v_p1_lengths v_p1_kinds v_p1_figures).bind (fun r_isLike_5 => (if r_isLike_5 = 0 then f_X6_seek_j1 N v_ways_town_closed v_ways_town_size v_ways_town_home v_ways_town_froms v_ways_town_tos v_ways_town_lengths v_ways_town_kinds v_ways_town_figures v_ways_on v_ways_back v_ways_least v_p1_closed v_p1_size v_p1_home v_p1_froms v_p1_tos v_p1_lengths v_p1_kinds v_p1_figures v_due v_costLeft v_costFirst v_size v_streets v_corners v_costs v_again else some (v_isSought, v_due, v_size, v_ways_town_closed, v_ways_town_size, v_ways_town_home, v_ways_town_froms, v_ways_town_tos, v_ways_town_lengths, v_ways_town_kinds, v_ways_town_figures, v_ways_on, v_ways_back, v_ways_least, v_costLeft, v_costFirst, v_streets, v_corners, v_costs, v_again))))
set_option maxRecDepth 100000 in
set_option maxHeartbeats 4000000 in
theorem c_X6_seek (l : Launch) (D : va_G) (N : Nat) {q_this q_ways q_ways_town q_ways_town_froms q_ways_town_tos q_ways_town_lengths q_ways_town_kinds q_ways_town_figures q_ways_on q_ways_back q_ways_least q_costLeft q_costFirst q_streets q_corners q_costs q_again q_p1 q_p1_froms q_p1_tos q_p1_lengths q_p1_kinds q_p1_figures : Nat} {v_isSought : Int32} {v_due : Int32} {v_size : Int32} {v_ways_town_closed : Int32} {v_ways_town_size : Int32} {v_ways_town_home : Int32} {v_ways_town_froms : (Nat → Int32)} {v_ways_town_tos : (Nat → Int32)} {v_ways_town_lengths : (Nat → Int32)} {v_ways_town_kinds : (Nat → Int32)} {v_ways_town_figures : (Nat → Int32)} {v_ways_on : (Nat → Int32)} {v_ways_back : (Nat → Int32)} {v_ways_least : (Nat → Int32)} {v_costLeft : (Nat → Int32)} {v_costFirst : (Nat → Int32)} {v_streets : (Nat → Int32)} {v_corners : (Nat → Int32)} {v_costs : (Nat → Int32)} {v_again : (Nat → Int32)} {v_p1_closed : Int32} {v_p1_size : Int32} {v_p1_home : Int32} {v_p1_froms : (Nat → Int32)} {v_p1_tos : (Nat → Int32)} {v_p1_lengths : (Nat → Int32)} {v_p1_kinds : (Nat → Int32)} {v_p1_figures : (Nat → Int32)} {o : (Int32 × Int32 × Int32 × Int32 × Int32 × Int32 × (Nat → Int32) × (Nat → Int32) × (Nat → Int32) × (Nat → Int32) × (Nat → Int32) × (Nat → Int32) × (Nat → Int32) × (Nat → Int32) × (Nat → Int32) × (Nat → Int32) × (Nat → Int32) × (Nat → Int32) × (Nat → Int32) × (Nat → Int32))} (h : f_X6_seek N v_isSought v_due v_size v_ways_town_closed v_ways_town_size v_ways_town_home v_ways_town_froms v_ways_town_tos v_ways_town_lengths v_ways_town_kinds v_ways_town_figures v_ways_on v_ways_back v_ways_least v_costLeft v_costFirst v_streets v_corners v_costs v_again v_p1_closed v_p1_size v_p1_home v_p1_froms v_p1_tos v_p1_lengths v_p1_kinds v_p1_figures = some o) : CT l D yX6_seek cX6_seek 2 (Option.none : Option FieldType) 4 [.ref q_this, .ref q_p1] (w_X6_seek D q_this q_ways q_ways_town q_ways_town_froms q_ways_town_tos q_ways_town_lengths q_ways_town_kinds q_ways_town_figures q_ways_on q_ways_back q_ways_least q_costLeft q_costFirst q_streets q_corners q_costs q_again q_p1 q_p1_froms q_p1_tos q_p1_lengths q_p1_kinds q_p1_figures v_isSought v_due v_size v_ways_town_closed v_ways_town_size v_ways_town_home v_ways_town_froms v_ways_town_tos v_ways_town_lengths v_ways_town_kinds v_ways_town_figures v_ways_on v_ways_back v_ways_least v_costLeft v_costFirst v_streets v_corners v_costs v_again v_p1_closed v_p1_size v_p1_home v_p1_froms v_p1_tos v_p1_lengths v_p1_kinds v_p1_figures) (w_X6_seek D q_this q_ways q_ways_town q_ways_town_froms q_ways_town_tos q_ways_town_lengths q_ways_town_kinds q_ways_town_figures q_ways_on q_ways_back q_ways_least q_costLeft q_costFirst q_streets q_corners q_costs q_again q_p1 q_p1_froms q_p1_tos q_p1_lengths q_p1_kinds q_p1_figures o.1 o.2.1 o.2.2.1 o.2.2.2.1 o.2.2.2.2.1 o.2.2.2.2.2.1 o.2.2.2.2.2.2.1 o.2.2.2.2.2.2.2.1 o.2.2.2.2.2.2.2.2.1 o.2.2.2.2.2.2.2.2.2.1 o.2.2.2.2.2.2.2.2.2.2.1 o.2.2.2.2.2.2.2.2.2.2.2.1 o.2.2.2.2.2.2.2.2.2.2.2.2.1 o.2.2.2.2.2.2.2.2.2.2.2.2.2.1 o.2.2.2.2.2.2.2.2.2.2.2.2.2.2.1 o.2.2.2.2.2.2.2.2.2.2.2.2.2.2.2.1 o.2.2.2.2.2.2.2.2.2.2.2.2.2.2.2.2.1 o.2.2.2.2.2.2.2.2.2.2.2.2.2.2.2.2.2.1 o.2.2.2.2.2.2.2.2.2.2.2.2.2.2.2.2.2.2.1 o.2.2.2.2.2.2.2.2.2.2.2.2.2.2.2.2.2.2.2 v_p1_closed v_p1_size v_p1_home v_p1_froms v_p1_tos v_p1_lengths v_p1_kinds v_p1_figures) (none) := by
  refine CT.of mk_X6_seek (Nat.le_of_ble_eq_true rfl) (fun g hl hD C E => ?_)
  subst hl
  subst hD
  unfold f_X6_seek at h
  refine j_aload_n C dX6_seek_0 rfl ?_
  refine j_get C 0 rfl rfl inX6 3 (by decide) kw_120 rfl rfl dX6_seek_1 ?_
  have hj_1 : f_X6_seek_j1 N v_ways_town_closed v_ways_town_size v_ways_town_home v_ways_town_froms v_ways_town_tos v_ways_town_lengths v_ways_town_kinds v_ways_town_figures v_ways_on v_ways_back v_ways_least v_p1_closed v_p1_size v_p1_home v_p1_froms v_p1_tos v_p1_lengths v_p1_kinds v_p1_figures v_due v_costLeft v_costFirst v_size v_streets v_corners v_costs v_again = some o → J g (w_X6_seek (gD g) q_this q_ways q_ways_town q_ways_town_froms q_ways_town_tos q_ways_town_lengths q_ways_town_kinds q_ways_town_figures q_ways_on q_ways_back q_ways_least q_costLeft q_costFirst q_streets q_corners q_costs q_again q_p1 q_p1_froms q_p1_tos q_p1_lengths q_p1_kinds q_p1_figures v_isSought v_due v_size v_ways_town_closed v_ways_town_size v_ways_town_home v_ways_town_froms v_ways_town_tos v_ways_town_lengths v_ways_town_kinds v_ways_town_figures v_ways_on v_ways_back v_ways_least v_costLeft v_costFirst v_streets v_corners v_costs v_again v_p1_closed v_p1_size v_p1_home v_p1_froms v_p1_tos v_p1_lengths v_p1_kinds v_p1_figures) [(0, .ref q_this), (1, .ref q_p1)] 22 [] := by
    intro  h
    unfold f_X6_seek_j1 at h
    refine j_aload_n C dX6_seek_22 rfl ?_
    refine j_get C 0 rfl rfl inX6 0 (by decide) kw_117 rfl rfl dX6_seek_23 ?_
    refine j_aload_n C dX6_seek_26 rfl ?_
    refine j_iconst C (0) dX6_seek_27 ki_0 ?_
    obtain ⟨r_learn_2, h_2, h⟩ := of_bind h
    refine j_callV0 C mk_X8_learn ms_X8_learn kw_623 (c_X8_learn (gl g) (gD g) N h_2) (by decide) 1 rfl rfl [1, 2, 3, 4, 5, 6, 7, 8, 9, 10, 17, 18, 19, 20, 21, 22] rfl rfl rfl rfl rfl (Nat.le_of_ble_eq_true rfl) dX6_seek_28 ?_
    refine j_ws (ws' := (w_X6_seek (gD g) q_this q_ways q_ways_town q_ways_town_froms q_ways_town_tos q_ways_town_lengths q_ways_town_kinds q_ways_town_figures q_ways_on q_ways_back q_ways_least q_costLeft q_costFirst q_streets q_corners q_costs q_again q_p1 q_p1_froms q_p1_tos q_p1_lengths q_p1_kinds q_p1_figures v_isSought v_due v_size r_learn_2.1 r_learn_2.2.1 r_learn_2.2.2.1 r_learn_2.2.2.2.1 r_learn_2.2.2.2.2.1 r_learn_2.2.2.2.2.2.1 r_learn_2.2.2.2.2.2.2.1 r_learn_2.2.2.2.2.2.2.2.1 r_learn_2.2.2.2.2.2.2.2.2.1 r_learn_2.2.2.2.2.2.2.2.2.2.1 r_learn_2.2.2.2.2.2.2.2.2.2.2 v_costLeft v_costFirst v_streets v_corners v_costs v_again v_p1_closed v_p1_size v_p1_home v_p1_froms v_p1_tos v_p1_lengths v_p1_kinds v_p1_figures)) rfl ?_
    refine j_aload_n C dX6_seek_31 rfl ?_
    obtain ⟨r_measure_3, h_3, h⟩ := of_bind h
    refine j_callV0 C mk_X6_measure ms_X6_measure kw_624 (c_X6_measure (gl g) (gD g) N h_3) (by decide) 0 rfl rfl [0, 1, 2, 3, 4, 6, 8, 9, 10, 11, 12] rfl rfl rfl rfl rfl (Nat.le_of_ble_eq_true rfl) dX6_seek_32 ?_
    refine j_ws (ws' := (w_X6_seek (gD g) q_this q_ways q_ways_town q_ways_town_froms q_ways_town_tos q_ways_town_lengths q_ways_town_kinds q_ways_town_figures q_ways_on q_ways_back q_ways_least q_costLeft q_costFirst q_streets q_corners q_costs q_again q_p1 q_p1_froms q_p1_tos q_p1_lengths q_p1_kinds q_p1_figures v_isSought r_measure_3.1 v_size r_learn_2.1 r_learn_2.2.1 r_learn_2.2.2.1 r_learn_2.2.2.2.1 r_learn_2.2.2.2.2.1 r_learn_2.2.2.2.2.2.1 r_learn_2.2.2.2.2.2.2.1 r_learn_2.2.2.2.2.2.2.2.1 r_learn_2.2.2.2.2.2.2.2.2.1 r_learn_2.2.2.2.2.2.2.2.2.2.1 r_learn_2.2.2.2.2.2.2.2.2.2.2 r_measure_3.2.1 r_measure_3.2.2 v_streets v_corners v_costs v_again v_p1_closed v_p1_size v_p1_home v_p1_froms v_p1_tos v_p1_lengths v_p1_kinds v_p1_figures)) rfl ?_
    refine j_aload_n C dX6_seek_35 rfl ?_
    obtain ⟨r_trace_4, h_4, h⟩ := of_bind h
    refine j_callV0 C mk_X6_trace ms_X6_trace kw_642 (c_X6_trace (gl g) (gD g) N h_4) (by decide) 0 rfl rfl [0, 1, 2, 3, 4, 8, 9, 11, 13, 14, 15, 16] rfl rfl rfl rfl rfl (Nat.le_of_ble_eq_true rfl) dX6_seek_36 ?_
    refine j_ws (ws' := (w_X6_seek (gD g) q_this q_ways q_ways_town q_ways_town_froms q_ways_town_tos q_ways_town_lengths q_ways_town_kinds q_ways_town_figures q_ways_on q_ways_back q_ways_least q_costLeft q_costFirst q_streets q_corners q_costs q_again q_p1 q_p1_froms q_p1_tos q_p1_lengths q_p1_kinds q_p1_figures v_isSought r_measure_3.1 r_trace_4.1 r_learn_2.1 r_learn_2.2.1 r_learn_2.2.2.1 r_learn_2.2.2.2.1 r_learn_2.2.2.2.2.1 r_learn_2.2.2.2.2.2.1 r_learn_2.2.2.2.2.2.2.1 r_learn_2.2.2.2.2.2.2.2.1 r_learn_2.2.2.2.2.2.2.2.2.1 r_learn_2.2.2.2.2.2.2.2.2.2.1 r_learn_2.2.2.2.2.2.2.2.2.2.2 r_measure_3.2.1 r_measure_3.2.2 r_trace_4.2.1 r_trace_4.2.2.1 r_trace_4.2.2.2.1 r_trace_4.2.2.2.2 v_p1_closed v_p1_size v_p1_home v_p1_froms v_p1_tos v_p1_lengths v_p1_kinds v_p1_figures)) rfl ?_
    refine j_aload_n C dX6_seek_39 rfl ?_
    refine j_iconst C (1) dX6_seek_40 ki_1 ?_
    refine j_put C 0 rfl rfl inX6 tyX6_ok nmX6 3 (by decide) kw_120 rfl rfl rfl rfl (Nat.le_of_ble_eq_true rfl) dX6_seek_41 ?_
    refine j_ws (ws' := (w_X6_seek (gD g) q_this q_ways q_ways_town q_ways_town_froms q_ways_town_tos q_ways_town_lengths q_ways_town_kinds q_ways_town_figures q_ways_on q_ways_back q_ways_least q_costLeft q_costFirst q_streets q_corners q_costs q_again q_p1 q_p1_froms q_p1_tos q_p1_lengths q_p1_kinds q_p1_figures ((1 : Int32)) r_measure_3.1 r_trace_4.1 r_learn_2.1 r_learn_2.2.1 r_learn_2.2.2.1 r_learn_2.2.2.2.1 r_learn_2.2.2.2.2.1 r_learn_2.2.2.2.2.2.1 r_learn_2.2.2.2.2.2.2.1 r_learn_2.2.2.2.2.2.2.2.1 r_learn_2.2.2.2.2.2.2.2.2.1 r_learn_2.2.2.2.2.2.2.2.2.2.1 r_learn_2.2.2.2.2.2.2.2.2.2.2 r_measure_3.2.1 r_measure_3.2.2 r_trace_4.2.1 r_trace_4.2.2.1 r_trace_4.2.2.2.1 r_trace_4.2.2.2.2 v_p1_closed v_p1_size v_p1_home v_p1_froms v_p1_tos v_p1_lengths v_p1_kinds v_p1_figures)) rfl ?_
    cases h
    exact j_vret C E dX6_seek_44
  refine j_if_eq C h 22 dX6_seek_4 (by decide) (fun hc h => ?_) (fun hc h => ?_)
  · have hj9 := hj_1  h
    exact j_lw hj9 rfl
  · refine j_aload_n C dX6_seek_7 rfl ?_
    refine j_get C 0 rfl rfl inX6 0 (by decide) kw_117 rfl rfl dX6_seek_8 ?_
    refine j_get C 1 rfl rfl inX8 0 (by decide) kw_92 rfl rfl dX6_seek_11 ?_
    refine j_aload_n C dX6_seek_14 rfl ?_
    obtain ⟨r_isLike_5, h_5, h⟩ := of_bind h
    refine j_callV1 C mk_X7_isLike ms_X7_isLike kw_619 (c_X7_isLike (gl g) (gD g) N h_5) (by decide) 2 rfl rfl [2, 3, 4, 5, 6, 7, 17, 18, 19, 20, 21, 22] rfl rfl rfl rfl rfl (Nat.le_of_ble_eq_true rfl) dX6_seek_15 ?_
    refine j_ws (ws' := (w_X6_seek (gD g) q_this q_ways q_ways_town q_ways_town_froms q_ways_town_tos q_ways_town_lengths q_ways_town_kinds q_ways_town_figures q_ways_on q_ways_back q_ways_least q_costLeft q_costFirst q_streets q_corners q_costs q_again q_p1 q_p1_froms q_p1_tos q_p1_lengths q_p1_kinds q_p1_figures v_isSought v_due v_size v_ways_town_closed v_ways_town_size v_ways_town_home v_ways_town_froms v_ways_town_tos v_ways_town_lengths v_ways_town_kinds v_ways_town_figures v_ways_on v_ways_back v_ways_least v_costLeft v_costFirst v_streets v_corners v_costs v_again v_p1_closed v_p1_size v_p1_home v_p1_froms v_p1_tos v_p1_lengths v_p1_kinds v_p1_figures)) rfl ?_
    refine j_if_eq C h 22 dX6_seek_18 (by decide) (fun hc h => ?_) (fun hc h => ?_)
    · have hj9 := hj_1  h
      exact j_lw hj9 rfl
    · cases h
      exact j_vret C E dX6_seek_21

def w_X6_looseEnd (D : va_G) (q_this q_ways q_ways_town q_ways_town_froms q_ways_town_tos q_ways_town_lengths q_ways_town_kinds q_ways_town_figures q_ways_on q_ways_back q_ways_least q_costLeft q_costFirst q_p1 q_p1_froms q_p1_tos q_p1_lengths q_p1_kinds q_p1_figures : Nat) (w_streets w_corners w_costs w_again : Value) (v_isSought : Int32) (v_due : Int32) (v_size : Int32) (v_ways_town_closed : Int32) (v_ways_town_size : Int32) (v_ways_town_home : Int32) (v_ways_town_froms : (Nat → Int32)) (v_ways_town_tos : (Nat → Int32)) (v_ways_town_lengths : (Nat → Int32)) (v_ways_town_kinds : (Nat → Int32)) (v_ways_town_figures : (Nat → Int32)) (v_ways_on : (Nat → Int32)) (v_ways_back : (Nat → Int32)) (v_ways_least : (Nat → Int32)) (v_costLeft : (Nat → Int32)) (v_costFirst : (Nat → Int32)) (v_p1_closed : Int32) (v_p1_size : Int32) (v_p1_home : Int32) (v_p1_froms : (Nat → Int32)) (v_p1_tos : (Nat → Int32)) (v_p1_lengths : (Nat → Int32)) (v_p1_kinds : (Nat → Int32)) (v_p1_figures : (Nat → Int32)) : va_W := [(q_this, .inr (5, [.ref q_ways, .ref q_costLeft, .ref q_costFirst, .int v_isSought, .int v_due, .int v_size, w_streets, w_corners, w_costs, w_again])), (q_ways, .inr (7, [.ref q_ways_town, .ref q_ways_on, .ref q_ways_back, .ref q_ways_least])), (q_ways_town, .inr (6, [.ref q_ways_town_froms, .ref q_ways_town_tos, .ref q_ways_town_lengths, .ref q_ways_town_kinds, .ref q_ways_town_figures, .int v_ways_town_closed, .int v_ways_town_size, .int v_ways_town_home])), (q_ways_town_froms, .inl (D.1 100, 8, .inl v_ways_town_froms)), (q_ways_town_tos, .inl (D.1 100, 8, .inl v_ways_town_tos)), (q_ways_town_lengths, .inl (D.1 100, 8, .inl v_ways_town_lengths)), (q_ways_town_kinds, .inl (D.1 100, 8, .inl v_ways_town_kinds)), (q_ways_town_figures, .inl (D.1 100, 8, .inl v_ways_town_figures)), (q_ways_on, .inl (D.1 100, 8, .inl v_ways_on)), (q_ways_back, .inl (D.1 100, 8, .inl v_ways_back)), (q_ways_least, .inl (D.1 100, 36, .inl v_ways_least)), (q_costLeft, .inl (D.1 100, 1536, .inl v_costLeft)), (q_costFirst, .inl (D.1 100, 6, .inl v_costFirst)), (q_p1, .inr (6, [.ref q_p1_froms, .ref q_p1_tos, .ref q_p1_lengths, .ref q_p1_kinds, .ref q_p1_figures, .int v_p1_closed, .int v_p1_size, .int v_p1_home])), (q_p1_froms, .inl (D.1 100, 8, .inl v_p1_froms)), (q_p1_tos, .inl (D.1 100, 8, .inl v_p1_tos)), (q_p1_lengths, .inl (D.1 100, 8, .inl v_p1_lengths)), (q_p1_kinds, .inl (D.1 100, 8, .inl v_p1_kinds)), (q_p1_figures, .inl (D.1 100, 8, .inl v_p1_figures))]
def f_X6_looseEnd_b27 (x4_27 : Int32) (x2_27 : Int32) (r_measure_2_0 : Int32) (r_measure_2_1 : (Nat → Int32)) (x3_27 : Int32) : Option ((Int32 × Int32 × Int32) ⊕ Int32) :=
  (if (6 : Int32) ≤ x4_27 then some (.inr x2_27) else (f_X6_looseCost x4_27 r_measure_2_0 r_measure_2_1).bind (fun r_looseCost_3 => (if x3_27 ≤ r_looseCost_3 then some (.inl (x2_27, x3_27, x4_27 + (1 : Int32))) else (f_X6_looseCost x4_27 r_measure_2_0 r_measure_2_1).bind (fun r_looseCost_4 => some (.inl (x4_27, r_looseCost_4, x4_27 + (1 : Int32)))))))
def f_X6_looseEnd (N : Nat) (v_isSought : Int32) (v_due : Int32) (v_ways_town_closed : Int32) (v_ways_town_size : Int32) (v_ways_town_home : Int32) (v_ways_town_froms : (Nat → Int32)) (v_ways_town_tos : (Nat → Int32)) (v_ways_town_lengths : (Nat → Int32)) (v_ways_town_kinds : (Nat → Int32)) (v_ways_town_figures : (Nat → Int32)) (v_ways_on : (Nat → Int32)) (v_ways_back : (Nat → Int32)) (v_ways_least : (Nat → Int32)) (v_costLeft : (Nat → Int32)) (v_costFirst : (Nat → Int32)) (v_p1_closed : Int32) (v_p1_size : Int32) (v_p1_home : Int32) (v_p1_froms : (Nat → Int32)) (v_p1_tos : (Nat → Int32)) (v_p1_lengths : (Nat → Int32)) (v_p1_kinds : (Nat → Int32)) (v_p1_figures : (Nat → Int32)) : Option (Int32 × Int32 × Int32 × Int32 × Int32 × Int32 × (Nat → Int32) × (Nat → Int32) × (Nat → Int32) × (Nat → Int32) × (Nat → Int32) × (Nat → Int32) × (Nat → Int32) × (Nat → Int32) × (Nat → Int32) × (Nat → Int32)) :=
  (f_X8_learn N (1 : Int32) v_ways_town_closed v_ways_town_size v_ways_town_home v_ways_town_froms v_ways_town_tos v_ways_town_lengths v_ways_town_kinds v_ways_town_figures v_ways_on v_ways_back v_ways_least v_p1_closed v_p1_size v_p1_home v_p1_froms v_p1_tos v_p1_lengths v_p1_kinds v_p1_figures).bind (fun r_learn_1 => (f_X6_measure N v_due r_learn_1.1 r_learn_1.2.1 r_learn_1.2.2.1 r_learn_1.2.2.2.1 r_learn_1.2.2.2.2.1 r_learn_1.2.2.2.2.2.2.1 r_learn_1.2.2.2.2.2.2.2.2.1 r_learn_1.2.2.2.2.2.2.2.2.2.1 r_learn_1.2.2.2.2.2.2.2.2.2.2 v_costLeft v_costFirst).bind (fun r_measure_2 => (lp (fun s_27 => f_X6_looseEnd_b27 s_27.2.2 s_27.1 r_measure_2.1 r_measure_2.2.1 s_27.2.1) N ((-9 : Int32), (1000000 : Int32), (0 : Int32))).bind (fun e_27 => some (e_27, (0 : Int32), r_measure_2.1, r_learn_1.1, r_learn_1.2.1, r_learn_1.2.2.1, r_learn_1.2.2.2.1, r_learn_1.2.2.2.2.1, r_learn_1.2.2.2.2.2.1, r_learn_1.2.2.2.2.2.2.1, r_learn_1.2.2.2.2.2.2.2.1, r_learn_1.2.2.2.2.2.2.2.2.1, r_learn_1.2.2.2.2.2.2.2.2.2.1, r_learn_1.2.2.2.2.2.2.2.2.2.2, r_measure_2.2.1, r_measure_2.2.2))))
set_option maxRecDepth 100000 in
set_option maxHeartbeats 4000000 in
theorem c_X6_looseEnd (l : Launch) (D : va_G) (N : Nat) {q_this q_ways q_ways_town q_ways_town_froms q_ways_town_tos q_ways_town_lengths q_ways_town_kinds q_ways_town_figures q_ways_on q_ways_back q_ways_least q_costLeft q_costFirst q_p1 q_p1_froms q_p1_tos q_p1_lengths q_p1_kinds q_p1_figures : Nat} {w_streets w_corners w_costs w_again : Value} {v_isSought : Int32} {v_due : Int32} {v_size : Int32} {v_ways_town_closed : Int32} {v_ways_town_size : Int32} {v_ways_town_home : Int32} {v_ways_town_froms : (Nat → Int32)} {v_ways_town_tos : (Nat → Int32)} {v_ways_town_lengths : (Nat → Int32)} {v_ways_town_kinds : (Nat → Int32)} {v_ways_town_figures : (Nat → Int32)} {v_ways_on : (Nat → Int32)} {v_ways_back : (Nat → Int32)} {v_ways_least : (Nat → Int32)} {v_costLeft : (Nat → Int32)} {v_costFirst : (Nat → Int32)} {v_p1_closed : Int32} {v_p1_size : Int32} {v_p1_home : Int32} {v_p1_froms : (Nat → Int32)} {v_p1_tos : (Nat → Int32)} {v_p1_lengths : (Nat → Int32)} {v_p1_kinds : (Nat → Int32)} {v_p1_figures : (Nat → Int32)} {o : (Int32 × Int32 × Int32 × Int32 × Int32 × Int32 × (Nat → Int32) × (Nat → Int32) × (Nat → Int32) × (Nat → Int32) × (Nat → Int32) × (Nat → Int32) × (Nat → Int32) × (Nat → Int32) × (Nat → Int32) × (Nat → Int32))} (h : f_X6_looseEnd N v_isSought v_due v_ways_town_closed v_ways_town_size v_ways_town_home v_ways_town_froms v_ways_town_tos v_ways_town_lengths v_ways_town_kinds v_ways_town_figures v_ways_on v_ways_back v_ways_least v_costLeft v_costFirst v_p1_closed v_p1_size v_p1_home v_p1_froms v_p1_tos v_p1_lengths v_p1_kinds v_p1_figures = some o) : CT l D yX6_looseEnd cX6_looseEnd 5 (Option.some FieldType.int) 4 [.ref q_this, .ref q_p1] (w_X6_looseEnd D q_this q_ways q_ways_town q_ways_town_froms q_ways_town_tos q_ways_town_lengths q_ways_town_kinds q_ways_town_figures q_ways_on q_ways_back q_ways_least q_costLeft q_costFirst q_p1 q_p1_froms q_p1_tos q_p1_lengths q_p1_kinds q_p1_figures w_streets w_corners w_costs w_again v_isSought v_due v_size v_ways_town_closed v_ways_town_size v_ways_town_home v_ways_town_froms v_ways_town_tos v_ways_town_lengths v_ways_town_kinds v_ways_town_figures v_ways_on v_ways_back v_ways_least v_costLeft v_costFirst v_p1_closed v_p1_size v_p1_home v_p1_froms v_p1_tos v_p1_lengths v_p1_kinds v_p1_figures) (w_X6_looseEnd D q_this q_ways q_ways_town q_ways_town_froms q_ways_town_tos q_ways_town_lengths q_ways_town_kinds q_ways_town_figures q_ways_on q_ways_back q_ways_least q_costLeft q_costFirst q_p1 q_p1_froms q_p1_tos q_p1_lengths q_p1_kinds q_p1_figures w_streets w_corners w_costs w_again o.2.1 o.2.2.1 v_size o.2.2.2.1 o.2.2.2.2.1 o.2.2.2.2.2.1 o.2.2.2.2.2.2.1 o.2.2.2.2.2.2.2.1 o.2.2.2.2.2.2.2.2.1 o.2.2.2.2.2.2.2.2.2.1 o.2.2.2.2.2.2.2.2.2.2.1 o.2.2.2.2.2.2.2.2.2.2.2.1 o.2.2.2.2.2.2.2.2.2.2.2.2.1 o.2.2.2.2.2.2.2.2.2.2.2.2.2.1 o.2.2.2.2.2.2.2.2.2.2.2.2.2.2.1 o.2.2.2.2.2.2.2.2.2.2.2.2.2.2.2 v_p1_closed v_p1_size v_p1_home v_p1_froms v_p1_tos v_p1_lengths v_p1_kinds v_p1_figures) (some (.int o.1)) := by
  refine CT.of mk_X6_looseEnd (Nat.le_of_ble_eq_true rfl) (fun g hl hD C E => ?_)
  subst hl
  subst hD
  unfold f_X6_looseEnd at h
  refine j_aload_n C dX6_looseEnd_0 rfl ?_
  refine j_iconst C (0) dX6_looseEnd_1 ki_0 ?_
  refine j_put C 0 rfl rfl inX6 tyX6_ok nmX6 3 (by decide) kw_120 rfl rfl rfl rfl (Nat.le_of_ble_eq_true rfl) dX6_looseEnd_2 ?_
  refine j_ws (ws' := (w_X6_looseEnd (gD g) q_this q_ways q_ways_town q_ways_town_froms q_ways_town_tos q_ways_town_lengths q_ways_town_kinds q_ways_town_figures q_ways_on q_ways_back q_ways_least q_costLeft q_costFirst q_p1 q_p1_froms q_p1_tos q_p1_lengths q_p1_kinds q_p1_figures w_streets w_corners w_costs w_again ((0 : Int32)) v_due v_size v_ways_town_closed v_ways_town_size v_ways_town_home v_ways_town_froms v_ways_town_tos v_ways_town_lengths v_ways_town_kinds v_ways_town_figures v_ways_on v_ways_back v_ways_least v_costLeft v_costFirst v_p1_closed v_p1_size v_p1_home v_p1_froms v_p1_tos v_p1_lengths v_p1_kinds v_p1_figures)) rfl ?_
  refine j_aload_n C dX6_looseEnd_5 rfl ?_
  refine j_get C 0 rfl rfl inX6 0 (by decide) kw_117 rfl rfl dX6_looseEnd_6 ?_
  refine j_aload_n C dX6_looseEnd_9 rfl ?_
  refine j_iconst C (1) dX6_looseEnd_10 ki_1 ?_
  obtain ⟨r_learn_1, h_1, h⟩ := of_bind h
  refine j_callV0 C mk_X8_learn ms_X8_learn kw_623 (c_X8_learn (gl g) (gD g) N h_1) (by decide) 1 rfl rfl [1, 2, 3, 4, 5, 6, 7, 8, 9, 10, 13, 14, 15, 16, 17, 18] rfl rfl rfl rfl rfl (Nat.le_of_ble_eq_true rfl) dX6_looseEnd_11 ?_
  refine j_ws (ws' := (w_X6_looseEnd (gD g) q_this q_ways q_ways_town q_ways_town_froms q_ways_town_tos q_ways_town_lengths q_ways_town_kinds q_ways_town_figures q_ways_on q_ways_back q_ways_least q_costLeft q_costFirst q_p1 q_p1_froms q_p1_tos q_p1_lengths q_p1_kinds q_p1_figures w_streets w_corners w_costs w_again ((0 : Int32)) v_due v_size r_learn_1.1 r_learn_1.2.1 r_learn_1.2.2.1 r_learn_1.2.2.2.1 r_learn_1.2.2.2.2.1 r_learn_1.2.2.2.2.2.1 r_learn_1.2.2.2.2.2.2.1 r_learn_1.2.2.2.2.2.2.2.1 r_learn_1.2.2.2.2.2.2.2.2.1 r_learn_1.2.2.2.2.2.2.2.2.2.1 r_learn_1.2.2.2.2.2.2.2.2.2.2 v_costLeft v_costFirst v_p1_closed v_p1_size v_p1_home v_p1_froms v_p1_tos v_p1_lengths v_p1_kinds v_p1_figures)) rfl ?_
  refine j_aload_n C dX6_looseEnd_14 rfl ?_
  obtain ⟨r_measure_2, h_2, h⟩ := of_bind h
  refine j_callV0 C mk_X6_measure ms_X6_measure kw_624 (c_X6_measure (gl g) (gD g) N h_2) (by decide) 0 rfl rfl [0, 1, 2, 3, 4, 6, 8, 9, 10, 11, 12] rfl rfl rfl rfl rfl (Nat.le_of_ble_eq_true rfl) dX6_looseEnd_15 ?_
  refine j_ws (ws' := (w_X6_looseEnd (gD g) q_this q_ways q_ways_town q_ways_town_froms q_ways_town_tos q_ways_town_lengths q_ways_town_kinds q_ways_town_figures q_ways_on q_ways_back q_ways_least q_costLeft q_costFirst q_p1 q_p1_froms q_p1_tos q_p1_lengths q_p1_kinds q_p1_figures w_streets w_corners w_costs w_again ((0 : Int32)) r_measure_2.1 v_size r_learn_1.1 r_learn_1.2.1 r_learn_1.2.2.1 r_learn_1.2.2.2.1 r_learn_1.2.2.2.2.1 r_learn_1.2.2.2.2.2.1 r_learn_1.2.2.2.2.2.2.1 r_learn_1.2.2.2.2.2.2.2.1 r_learn_1.2.2.2.2.2.2.2.2.1 r_learn_1.2.2.2.2.2.2.2.2.2.1 r_learn_1.2.2.2.2.2.2.2.2.2.2 r_measure_2.2.1 r_measure_2.2.2 v_p1_closed v_p1_size v_p1_home v_p1_froms v_p1_tos v_p1_lengths v_p1_kinds v_p1_figures)) rfl ?_
  refine j_bipush C (-9) dX6_looseEnd_18 kb_m9 ?_
  refine j_istore_n C dX6_looseEnd_20 (by decide) ?_
  refine j_ldc C kw_634 dX6_looseEnd_21 ?_
  refine j_istore_n C dX6_looseEnd_23 (by decide) ?_
  refine j_iconst C (0) dX6_looseEnd_24 ki_0 ?_
  refine j_istore C dX6_looseEnd_25 (by decide) ?_
  obtain ⟨e_27, hl_27, h⟩ := of_bind h
  have ha_27 : J g (w_X6_looseEnd (gD g) q_this q_ways q_ways_town q_ways_town_froms q_ways_town_tos q_ways_town_lengths q_ways_town_kinds q_ways_town_figures q_ways_on q_ways_back q_ways_least q_costLeft q_costFirst q_p1 q_p1_froms q_p1_tos q_p1_lengths q_p1_kinds q_p1_figures w_streets w_corners w_costs w_again ((0 : Int32)) r_measure_2.1 v_size r_learn_1.1 r_learn_1.2.1 r_learn_1.2.2.1 r_learn_1.2.2.2.1 r_learn_1.2.2.2.2.1 r_learn_1.2.2.2.2.2.1 r_learn_1.2.2.2.2.2.2.1 r_learn_1.2.2.2.2.2.2.2.1 r_learn_1.2.2.2.2.2.2.2.2.1 r_learn_1.2.2.2.2.2.2.2.2.2.1 r_learn_1.2.2.2.2.2.2.2.2.2.2 r_measure_2.2.1 r_measure_2.2.2 v_p1_closed v_p1_size v_p1_home v_p1_froms v_p1_tos v_p1_lengths v_p1_kinds v_p1_figures) [(2, .int (e_27))] 60 [] := by
    refine j_iload_n C dX6_looseEnd_60 rfl ?_
    cases h
    exact j_iret C E dX6_looseEnd_61
  refine j_lv (lv' := [(0, .ref q_this), (2, .int ((-9 : Int32))), (3, .int ((1000000 : Int32))), (4, .int ((0 : Int32)))]) rfl ?_
  refine lp_ind hl_27 (fun s_27 => J g (w_X6_looseEnd (gD g) q_this q_ways q_ways_town q_ways_town_froms q_ways_town_tos q_ways_town_lengths q_ways_town_kinds q_ways_town_figures q_ways_on q_ways_back q_ways_least q_costLeft q_costFirst q_p1 q_p1_froms q_p1_tos q_p1_lengths q_p1_kinds q_p1_figures w_streets w_corners w_costs w_again ((0 : Int32)) r_measure_2.1 v_size r_learn_1.1 r_learn_1.2.1 r_learn_1.2.2.1 r_learn_1.2.2.2.1 r_learn_1.2.2.2.2.1 r_learn_1.2.2.2.2.2.1 r_learn_1.2.2.2.2.2.2.1 r_learn_1.2.2.2.2.2.2.2.1 r_learn_1.2.2.2.2.2.2.2.2.1 r_learn_1.2.2.2.2.2.2.2.2.2.1 r_learn_1.2.2.2.2.2.2.2.2.2.2 r_measure_2.2.1 r_measure_2.2.2 v_p1_closed v_p1_size v_p1_home v_p1_froms v_p1_tos v_p1_lengths v_p1_kinds v_p1_figures) [(0, .ref q_this), (2, .int (s_27.1)), (3, .int (s_27.2.1)), (4, .int (s_27.2.2))] 27 []) (fun s_27 r_27 h hc_27 hx_27 => ?_)
  unfold f_X6_looseEnd_b27 at h
  refine j_iload C dX6_looseEnd_27 rfl ?_
  refine j_bipush C (6) dX6_looseEnd_29 kb_6 ?_
  refine j_icmp_ge C h 60 dX6_looseEnd_31 (by decide) (fun hc h => ?_) (fun hc h => ?_)
  · cases h
    have h9 := hx_27 _ rfl
    subst h9
    exact j_lw ha_27 rfl
  · refine j_aload_n C dX6_looseEnd_34 rfl ?_
    refine j_iload C dX6_looseEnd_35 rfl ?_
    obtain ⟨r_looseCost_3, h_3, h⟩ := of_bind h
    refine j_callV1 C mk_X6_looseCost ms_X6_looseCost kw_825 (c_X6_looseCost (gl g) (gD g) h_3) (by decide) 0 rfl rfl [0, 11] rfl rfl rfl rfl rfl (Nat.le_of_ble_eq_true rfl) dX6_looseEnd_37 ?_
    refine j_ws (ws' := (w_X6_looseEnd (gD g) q_this q_ways q_ways_town q_ways_town_froms q_ways_town_tos q_ways_town_lengths q_ways_town_kinds q_ways_town_figures q_ways_on q_ways_back q_ways_least q_costLeft q_costFirst q_p1 q_p1_froms q_p1_tos q_p1_lengths q_p1_kinds q_p1_figures w_streets w_corners w_costs w_again ((0 : Int32)) r_measure_2.1 v_size r_learn_1.1 r_learn_1.2.1 r_learn_1.2.2.1 r_learn_1.2.2.2.1 r_learn_1.2.2.2.2.1 r_learn_1.2.2.2.2.2.1 r_learn_1.2.2.2.2.2.2.1 r_learn_1.2.2.2.2.2.2.2.1 r_learn_1.2.2.2.2.2.2.2.2.1 r_learn_1.2.2.2.2.2.2.2.2.2.1 r_learn_1.2.2.2.2.2.2.2.2.2.2 r_measure_2.2.1 r_measure_2.2.2 v_p1_closed v_p1_size v_p1_home v_p1_froms v_p1_tos v_p1_lengths v_p1_kinds v_p1_figures)) rfl ?_
    refine j_iload_n C dX6_looseEnd_40 rfl ?_
    refine j_icmp_ge C h 54 dX6_looseEnd_41 (by decide) (fun hc h => ?_) (fun hc h => ?_)
    · refine j_inc C (1) dX6_looseEnd_54 rfl ki_1 (by decide) ?_
      refine j_goto C 27 dX6_looseEnd_57 (by decide) ?_
      cases h
      have hc9 := hc_27 _ rfl
      exact j_lw hc9 rfl
    · refine j_aload_n C dX6_looseEnd_44 rfl ?_
      refine j_iload C dX6_looseEnd_45 rfl ?_
      obtain ⟨r_looseCost_4, h_4, h⟩ := of_bind h
      refine j_callV1 C mk_X6_looseCost ms_X6_looseCost kw_825 (c_X6_looseCost (gl g) (gD g) h_4) (by decide) 0 rfl rfl [0, 11] rfl rfl rfl rfl rfl (Nat.le_of_ble_eq_true rfl) dX6_looseEnd_47 ?_
      refine j_ws (ws' := (w_X6_looseEnd (gD g) q_this q_ways q_ways_town q_ways_town_froms q_ways_town_tos q_ways_town_lengths q_ways_town_kinds q_ways_town_figures q_ways_on q_ways_back q_ways_least q_costLeft q_costFirst q_p1 q_p1_froms q_p1_tos q_p1_lengths q_p1_kinds q_p1_figures w_streets w_corners w_costs w_again ((0 : Int32)) r_measure_2.1 v_size r_learn_1.1 r_learn_1.2.1 r_learn_1.2.2.1 r_learn_1.2.2.2.1 r_learn_1.2.2.2.2.1 r_learn_1.2.2.2.2.2.1 r_learn_1.2.2.2.2.2.2.1 r_learn_1.2.2.2.2.2.2.2.1 r_learn_1.2.2.2.2.2.2.2.2.1 r_learn_1.2.2.2.2.2.2.2.2.2.1 r_learn_1.2.2.2.2.2.2.2.2.2.2 r_measure_2.2.1 r_measure_2.2.2 v_p1_closed v_p1_size v_p1_home v_p1_froms v_p1_tos v_p1_lengths v_p1_kinds v_p1_figures)) rfl ?_
      refine j_istore_n C dX6_looseEnd_50 (by decide) ?_
      refine j_iload C dX6_looseEnd_51 rfl ?_
      refine j_istore_n C dX6_looseEnd_53 (by decide) ?_
      refine j_inc C (1) dX6_looseEnd_54 rfl ki_1 (by decide) ?_
      refine j_goto C 27 dX6_looseEnd_57 (by decide) ?_
      cases h
      have hc9 := hc_27 _ rfl
      exact j_lw hc9 rfl
