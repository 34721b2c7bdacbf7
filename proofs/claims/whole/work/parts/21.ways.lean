def w_X8_between (D : va_G) (q_this q_least : Nat) (w_town w_on w_back : Value) (v_least : (Nat → Int32)) : va_W := [(q_this, .inr (7, [w_town, w_on, w_back, .ref q_least])), (q_least, .inl (D.1 100, 36, .inl v_least))]
def f_X8_between (x1 : Int32) (x2 : Int32) (v_least : (Nat → Int32)) : Option Int32 :=
  ga ((x1 * (6 : Int32)) + x2) 36 (some (v_least (Int32.toNatClampNeg ((x1 * (6 : Int32)) + x2))))
set_option maxRecDepth 100000 in
set_option maxHeartbeats 4000000 in
theorem c_X8_between (l : Launch) (D : va_G) {q_this q_least : Nat} {w_town w_on w_back : Value} {v_least : (Nat → Int32)} {x1 : Int32} {x2 : Int32} {o : Int32} (h : f_X8_between x1 x2 v_least = some o) : CT l D yX8_between cX8_between 3 (Option.some FieldType.int) 0 [.ref q_this, .int x1, .int x2] (w_X8_between D q_this q_least w_town w_on w_back v_least) (w_X8_between D q_this q_least w_town w_on w_back v_least) (some (.int o)) := by
  refine CT.of mk_X8_between (Nat.le_of_ble_eq_true rfl) (fun g hl hD C E => ?_)
  subst hl
  subst hD
  unfold f_X8_between at h
  refine j_aload_n C dX8_between_0 rfl ?_
  refine j_get C 0 rfl rfl inX8 3 (by decide) kw_98 rfl rfl dX8_between_1 ?_
  refine j_iload_n C dX8_between_4 rfl ?_
  refine j_bipush C (6) dX8_between_5 kb_6 ?_
  refine j_imul C dX8_between_7 ?_
  refine j_iload_n C dX8_between_8 rfl ?_
  refine j_iadd C dX8_between_9 ?_
  refine j_iaload 1 C h rfl rfl dX8_between_10 (fun h => ?_)
  cases h
  exact j_iret C E dX8_between_11

def w_X8_shorten (D : va_G) (q_this q_least : Nat) (w_town w_on w_back : Value) (v_least : (Nat → Int32)) : va_W := [(q_this, .inr (7, [w_town, w_on, w_back, .ref q_least])), (q_least, .inl (D.1 100, 36, .inl v_least))]
def f_X8_shorten (x1 : Int32) (x2 : Int32) (x3 : Int32) (v_least : (Nat → Int32)) : Option (Nat → Int32) :=
  ga ((x1 * (6 : Int32)) + x2) 36 ((if (v_least (Int32.toNatClampNeg ((x1 * (6 : Int32)) + x2))) ≤ x3 then some v_least else ga ((x1 * (6 : Int32)) + x2) 36 (some (upd v_least (Int32.toNatClampNeg ((x1 * (6 : Int32)) + x2)) x3))))
set_option maxRecDepth 100000 in
set_option maxHeartbeats 4000000 in
theorem c_X8_shorten (l : Launch) (D : va_G) {q_this q_least : Nat} {w_town w_on w_back : Value} {v_least : (Nat → Int32)} {x1 : Int32} {x2 : Int32} {x3 : Int32} {o : (Nat → Int32)} (h : f_X8_shorten x1 x2 x3 v_least = some o) : CT l D yX8_shorten cX8_shorten 5 (Option.none : Option FieldType) 0 [.ref q_this, .int x1, .int x2, .int x3] (w_X8_shorten D q_this q_least w_town w_on w_back v_least) (w_X8_shorten D q_this q_least w_town w_on w_back o) (none) := by
  refine CT.of mk_X8_shorten (Nat.le_of_ble_eq_true rfl) (fun g hl hD C E => ?_)
  subst hl
  subst hD
  unfold f_X8_shorten at h
  refine j_iload_n C dX8_shorten_0 rfl ?_
  refine j_bipush C (6) dX8_shorten_1 kb_6 ?_
  refine j_imul C dX8_shorten_3 ?_
  refine j_iload_n C dX8_shorten_4 rfl ?_
  refine j_iadd C dX8_shorten_5 ?_
  refine j_istore C dX8_shorten_6 (by decide) ?_
  refine j_iload_n C dX8_shorten_8 rfl ?_
  refine j_aload_n C dX8_shorten_9 rfl ?_
  refine j_get C 0 rfl rfl inX8 3 (by decide) kw_98 rfl rfl dX8_shorten_10 ?_
  refine j_iload C dX8_shorten_13 rfl ?_
  refine j_iaload 1 C h rfl rfl dX8_shorten_15 (fun h => ?_)
  refine j_icmp_ge C h 27 dX8_shorten_16 (by decide) (fun hc h => ?_) (fun hc h => ?_)
  · cases h
    exact j_vret C E dX8_shorten_27
  · refine j_aload_n C dX8_shorten_19 rfl ?_
    refine j_get C 0 rfl rfl inX8 3 (by decide) kw_98 rfl rfl dX8_shorten_20 ?_
    refine j_iload C dX8_shorten_23 rfl ?_
    refine j_iload_n C dX8_shorten_25 rfl ?_
    refine j_iastore 1 C h rfl rfl dX8_shorten_26 (fun h => ?_)
    refine j_ws (ws' := (w_X8_shorten (gD g) q_this q_least w_town w_on w_back (upd v_least (Int32.toNatClampNeg ((x1 * (6 : Int32)) + x2)) x3))) rfl ?_
    cases h
    exact j_vret C E dX8_shorten_27

def w_X8_measure (D : va_G) (q_this q_town q_town_froms q_town_tos q_on q_back q_least : Nat) (w_town_lengths w_town_kinds w_town_figures : Value) (v_town_closed : Int32) (v_town_size : Int32) (v_town_home : Int32) (v_town_froms : (Nat → Int32)) (v_town_tos : (Nat → Int32)) (v_on : (Nat → Int32)) (v_back : (Nat → Int32)) (v_least : (Nat → Int32)) : va_W := [(q_this, .inr (7, [.ref q_town, .ref q_on, .ref q_back, .ref q_least])), (q_town, .inr (6, [.ref q_town_froms, .ref q_town_tos, w_town_lengths, w_town_kinds, w_town_figures, .int v_town_closed, .int v_town_size, .int v_town_home])), (q_town_froms, .inl (D.1 100, 8, .inl v_town_froms)), (q_town_tos, .inl (D.1 100, 8, .inl v_town_tos)), (q_on, .inl (D.1 100, 8, .inl v_on)), (q_back, .inl (D.1 100, 8, .inl v_back)), (q_least, .inl (D.1 100, 36, .inl v_least))]
def f_X8_measure_b2 (x1_2 : Int32) (v_least_2 : (Nat → Int32)) : Option ((Int32 × (Nat → Int32)) ⊕ (Nat → Int32)) :=
  (if (36 : Int32) ≤ x1_2 then some (.inr v_least_2) else ga x1_2 36 (some (.inl (x1_2 + (1 : Int32), upd v_least_2 (Int32.toNatClampNeg x1_2) (if (x1_2 - x1_2 / (7 : Int32) * (7 : Int32)) = 0 then (0 : Int32) else (1000000 : Int32))))))
def f_X8_measure_b38 (v_town_size : Int32) (x1_38 : Int32) (v_least_38 : (Nat → Int32)) (v_town_froms : (Nat → Int32)) (v_town_tos : (Nat → Int32)) (v_on : (Nat → Int32)) (v_back : (Nat → Int32)) : Option ((Int32 × (Nat → Int32)) ⊕ (Nat → Int32)) :=
  (if v_town_size ≤ x1_38 then some (.inr v_least_38) else ga x1_38 8 (ga x1_38 8 (ga x1_38 8 ((f_X8_shorten (v_town_froms (Int32.toNatClampNeg x1_38)) (v_town_tos (Int32.toNatClampNeg x1_38)) (v_on (Int32.toNatClampNeg x1_38)) v_least_38).bind (fun r_shorten_2 => ga x1_38 8 (ga x1_38 8 (ga x1_38 8 ((f_X8_shorten (v_town_tos (Int32.toNatClampNeg x1_38)) (v_town_froms (Int32.toNatClampNeg x1_38)) (v_back (Int32.toNatClampNeg x1_38)) r_shorten_2).bind (fun r_shorten_3 => some (.inl (x1_38 + (1 : Int32), r_shorten_3)))))))))))
def f_X8_measure_b129 (x3_129 : Int32) (v_least_129 : (Nat → Int32)) (x2_121 : Int32) (x1_113 : Int32) : Option ((Int32 × (Nat → Int32)) ⊕ (Nat → Int32)) :=
  (if (6 : Int32) ≤ x3_129 then some (.inr v_least_129) else (f_X8_between x2_121 x1_113 v_least_129).bind (fun r_between_4 => (f_X8_between x1_113 x3_129 v_least_129).bind (fun r_between_5 => (f_X8_shorten x2_121 x3_129 (r_between_4 + r_between_5) v_least_129).bind (fun r_shorten_6 => some (.inl (x3_129 + (1 : Int32), r_shorten_6))))))
def f_X8_measure_b121 (N : Nat) (x2_121 : Int32) (v_least_121 : (Nat → Int32)) (x1_113 : Int32) : Option ((Int32 × (Nat → Int32)) ⊕ (Nat → Int32)) :=
  (if (6 : Int32) ≤ x2_121 then some (.inr v_least_121) else (lp (fun s_129 => f_X8_measure_b129 s_129.1 s_129.2 x2_121 x1_113) N ((0 : Int32), v_least_121)).bind (fun e_129 => some (.inl (x2_121 + (1 : Int32), e_129))))
def f_X8_measure_b113 (N : Nat) (x1_113 : Int32) (v_least_113 : (Nat → Int32)) : Option ((Int32 × (Nat → Int32)) ⊕ (Nat → Int32)) :=
  (if (6 : Int32) ≤ x1_113 then some (.inr v_least_113) else (lp (fun s_121 => f_X8_measure_b121 N s_121.1 s_121.2 x1_113) N ((0 : Int32), v_least_113)).bind (fun e_121 => some (.inl (x1_113 + (1 : Int32), e_121))))
def f_X8_measure (N : Nat) (v_town_size : Int32) (v_town_froms : (Nat → Int32)) (v_town_tos : (Nat → Int32)) (v_on : (Nat → Int32)) (v_back : (Nat → Int32)) (v_least : (Nat → Int32)) : Option (Nat → Int32) :=
  (lp (fun s_2 => f_X8_measure_b2 s_2.1 s_2.2) N ((0 : Int32), v_least)).bind (fun e_2 => (lp (fun s_38 => f_X8_measure_b38 v_town_size s_38.1 s_38.2 v_town_froms v_town_tos v_on v_back) N ((0 : Int32), e_2)).bind (fun e_38 => (lp (fun s_113 => f_X8_measure_b113 N s_113.1 s_113.2) N ((0 : Int32), e_38)).bind (fun e_113 => some e_113)))
set_option maxRecDepth 100000 in
set_option maxHeartbeats 4000000 in
theorem c_X8_measure (l : Launch) (D : va_G) (N : Nat) {q_this q_town q_town_froms q_town_tos q_on q_back q_least : Nat} {w_town_lengths w_town_kinds w_town_figures : Value} {v_town_closed : Int32} {v_town_size : Int32} {v_town_home : Int32} {v_town_froms : (Nat → Int32)} {v_town_tos : (Nat → Int32)} {v_on : (Nat → Int32)} {v_back : (Nat → Int32)} {v_least : (Nat → Int32)} {o : (Nat → Int32)} (h : f_X8_measure N v_town_size v_town_froms v_town_tos v_on v_back v_least = some o) : CT l D yX8_measure cX8_measure 4 (Option.none : Option FieldType) 1 [.ref q_this] (w_X8_measure D q_this q_town q_town_froms q_town_tos q_on q_back q_least w_town_lengths w_town_kinds w_town_figures v_town_closed v_town_size v_town_home v_town_froms v_town_tos v_on v_back v_least) (w_X8_measure D q_this q_town q_town_froms q_town_tos q_on q_back q_least w_town_lengths w_town_kinds w_town_figures v_town_closed v_town_size v_town_home v_town_froms v_town_tos v_on v_back o) (none) := by
  refine CT.of mk_X8_measure (Nat.le_of_ble_eq_true rfl) (fun g hl hD C E => ?_)
  subst hl
  subst hD
  unfold f_X8_measure at h
  refine j_iconst C (0) dX8_measure_0 ki_0 ?_
  refine j_istore_n C dX8_measure_1 (by decide) ?_
  obtain ⟨e_2, hl_2, h⟩ := of_bind h
  have ha_2 : J g (w_X8_measure (gD g) q_this q_town q_town_froms q_town_tos q_on q_back q_least w_town_lengths w_town_kinds w_town_figures v_town_closed v_town_size v_town_home v_town_froms v_town_tos v_on v_back e_2) [(0, .ref q_this)] 36 [] := by
    refine j_iconst C (0) dX8_measure_36 ki_0 ?_
    refine j_istore_n C dX8_measure_37 (by decide) ?_
    obtain ⟨e_38, hl_38, h⟩ := of_bind h
    have ha_38 : J g (w_X8_measure (gD g) q_this q_town q_town_froms q_town_tos q_on q_back q_least w_town_lengths w_town_kinds w_town_figures v_town_closed v_town_size v_town_home v_town_froms v_town_tos v_on v_back e_38) [(0, .ref q_this)] 111 [] := by
      refine j_iconst C (0) dX8_measure_111 ki_0 ?_
      refine j_istore_n C dX8_measure_112 (by decide) ?_
      obtain ⟨e_113, hl_113, h⟩ := of_bind h
      have ha_113 : J g (w_X8_measure (gD g) q_this q_town q_town_froms q_town_tos q_on q_back q_least w_town_lengths w_town_kinds w_town_figures v_town_closed v_town_size v_town_home v_town_froms v_town_tos v_on v_back e_113) [] 172 [] := by
        cases h
        exact j_vret C E dX8_measure_172
      refine j_lv (lv' := [(0, .ref q_this), (1, .int ((0 : Int32)))]) rfl ?_
      refine lp_ind hl_113 (fun s_113 => J g (w_X8_measure (gD g) q_this q_town q_town_froms q_town_tos q_on q_back q_least w_town_lengths w_town_kinds w_town_figures v_town_closed v_town_size v_town_home v_town_froms v_town_tos v_on v_back s_113.2) [(0, .ref q_this), (1, .int (s_113.1))] 113 []) (fun s_113 r_113 h hc_113 hx_113 => ?_)
      unfold f_X8_measure_b113 at h
      refine j_iload_n C dX8_measure_113 rfl ?_
      refine j_bipush C (6) dX8_measure_114 kb_6 ?_
      refine j_icmp_ge C h 172 dX8_measure_116 (by decide) (fun hc h => ?_) (fun hc h => ?_)
      · cases h
        have h9 := hx_113 _ rfl
        subst h9
        exact j_lw ha_113 rfl
      · refine j_iconst C (0) dX8_measure_119 ki_0 ?_
        refine j_istore_n C dX8_measure_120 (by decide) ?_
        obtain ⟨e_121, hl_121, h⟩ := of_bind h
        have ha_121 : J g (w_X8_measure (gD g) q_this q_town q_town_froms q_town_tos q_on q_back q_least w_town_lengths w_town_kinds w_town_figures v_town_closed v_town_size v_town_home v_town_froms v_town_tos v_on v_back e_121) [(0, .ref q_this), (1, .int (s_113.1))] 166 [] := by
          refine j_inc C (1) dX8_measure_166 rfl ki_1 (by decide) ?_
          refine j_goto C 113 dX8_measure_169 (by decide) ?_
          cases h
          have hc9 := hc_113 _ rfl
          exact j_lw hc9 rfl
        refine j_lv (lv' := [(0, .ref q_this), (1, .int (s_113.1)), (2, .int ((0 : Int32)))]) rfl ?_
        refine lp_ind hl_121 (fun s_121 => J g (w_X8_measure (gD g) q_this q_town q_town_froms q_town_tos q_on q_back q_least w_town_lengths w_town_kinds w_town_figures v_town_closed v_town_size v_town_home v_town_froms v_town_tos v_on v_back s_121.2) [(0, .ref q_this), (1, .int (s_113.1)), (2, .int (s_121.1))] 121 []) (fun s_121 r_121 h hc_121 hx_121 => ?_)
        unfold f_X8_measure_b121 at h
        refine j_iload_n C dX8_measure_121 rfl ?_
        refine j_bipush C (6) dX8_measure_122 kb_6 ?_
        refine j_icmp_ge C h 166 dX8_measure_124 (by decide) (fun hc h => ?_) (fun hc h => ?_)
        · cases h
          have h9 := hx_121 _ rfl
          subst h9
          exact j_lw ha_121 rfl
        · refine j_iconst C (0) dX8_measure_127 ki_0 ?_
          refine j_istore_n C dX8_measure_128 (by decide) ?_
          obtain ⟨e_129, hl_129, h⟩ := of_bind h
          have ha_129 : J g (w_X8_measure (gD g) q_this q_town q_town_froms q_town_tos q_on q_back q_least w_town_lengths w_town_kinds w_town_figures v_town_closed v_town_size v_town_home v_town_froms v_town_tos v_on v_back e_129) [(0, .ref q_this), (1, .int (s_113.1)), (2, .int (s_121.1))] 160 [] := by
            refine j_inc C (1) dX8_measure_160 rfl ki_1 (by decide) ?_
            refine j_goto C 121 dX8_measure_163 (by decide) ?_
            cases h
            have hc9 := hc_121 _ rfl
            exact j_lw hc9 rfl
          refine j_lv (lv' := [(0, .ref q_this), (1, .int (s_113.1)), (2, .int (s_121.1)), (3, .int ((0 : Int32)))]) rfl ?_
          refine lp_ind hl_129 (fun s_129 => J g (w_X8_measure (gD g) q_this q_town q_town_froms q_town_tos q_on q_back q_least w_town_lengths w_town_kinds w_town_figures v_town_closed v_town_size v_town_home v_town_froms v_town_tos v_on v_back s_129.2) [(0, .ref q_this), (1, .int (s_113.1)), (2, .int (s_121.1)), (3, .int (s_129.1))] 129 []) (fun s_129 r_129 h hc_129 hx_129 => ?_)
          unfold f_X8_measure_b129 at h
          refine j_iload_n C dX8_measure_129 rfl ?_
          refine j_bipush C (6) dX8_measure_130 kb_6 ?_
          refine j_icmp_ge C h 160 dX8_measure_132 (by decide) (fun hc h => ?_) (fun hc h => ?_)
          · cases h
            have h9 := hx_129 _ rfl
            subst h9
            exact j_lw ha_129 rfl
          · refine j_aload_n C dX8_measure_135 rfl ?_
            refine j_iload_n C dX8_measure_136 rfl ?_
            refine j_iload_n C dX8_measure_137 rfl ?_
            refine j_aload_n C dX8_measure_138 rfl ?_
            refine j_iload_n C dX8_measure_139 rfl ?_
            refine j_iload_n C dX8_measure_140 rfl ?_
            obtain ⟨r_between_4, h_4, h⟩ := of_bind h
            refine j_callV1 C mk_X8_between ms_X8_between kw_586 (c_X8_between (gl g) (gD g) h_4) (by decide) 0 rfl rfl [0, 6] rfl rfl rfl rfl rfl (Nat.le_of_ble_eq_true rfl) dX8_measure_141 ?_
            refine j_ws (ws' := (w_X8_measure (gD g) q_this q_town q_town_froms q_town_tos q_on q_back q_least w_town_lengths w_town_kinds w_town_figures v_town_closed v_town_size v_town_home v_town_froms v_town_tos v_on v_back s_129.2)) rfl ?_
            refine j_aload_n C dX8_measure_144 rfl ?_
            refine j_iload_n C dX8_measure_145 rfl ?_
            refine j_iload_n C dX8_measure_146 rfl ?_
            obtain ⟨r_between_5, h_5, h⟩ := of_bind h
            refine j_callV1 C mk_X8_between ms_X8_between kw_586 (c_X8_between (gl g) (gD g) h_5) (by decide) 0 rfl rfl [0, 6] rfl rfl rfl rfl rfl (Nat.le_of_ble_eq_true rfl) dX8_measure_147 ?_
            refine j_ws (ws' := (w_X8_measure (gD g) q_this q_town q_town_froms q_town_tos q_on q_back q_least w_town_lengths w_town_kinds w_town_figures v_town_closed v_town_size v_town_home v_town_froms v_town_tos v_on v_back s_129.2)) rfl ?_
            refine j_iadd C dX8_measure_150 ?_
            obtain ⟨r_shorten_6, h_6, h⟩ := of_bind h
            refine j_callV0 C mk_X8_shorten ms_X8_shorten kw_582 (c_X8_shorten (gl g) (gD g) h_6) (by decide) 0 rfl rfl [0, 6] rfl rfl rfl rfl rfl (Nat.le_of_ble_eq_true rfl) dX8_measure_151 ?_
            refine j_ws (ws' := (w_X8_measure (gD g) q_this q_town q_town_froms q_town_tos q_on q_back q_least w_town_lengths w_town_kinds w_town_figures v_town_closed v_town_size v_town_home v_town_froms v_town_tos v_on v_back r_shorten_6)) rfl ?_
            refine j_inc C (1) dX8_measure_154 rfl ki_1 (by decide) ?_
            refine j_goto C 129 dX8_measure_157 (by decide) ?_
            cases h
            have hc9 := hc_129 _ rfl
            exact j_lw hc9 rfl
    refine j_lv (lv' := [(0, .ref q_this), (1, .int ((0 : Int32)))]) rfl ?_
    refine lp_ind hl_38 (fun s_38 => J g (w_X8_measure (gD g) q_this q_town q_town_froms q_town_tos q_on q_back q_least w_town_lengths w_town_kinds w_town_figures v_town_closed v_town_size v_town_home v_town_froms v_town_tos v_on v_back s_38.2) [(0, .ref q_this), (1, .int (s_38.1))] 38 []) (fun s_38 r_38 h hc_38 hx_38 => ?_)
    unfold f_X8_measure_b38 at h
    refine j_iload_n C dX8_measure_38 rfl ?_
    refine j_aload_n C dX8_measure_39 rfl ?_
    refine j_get C 0 rfl rfl inX8 0 (by decide) kw_90 rfl rfl dX8_measure_40 ?_
    refine j_get C 1 rfl rfl inX7 6 (by decide) kw_55 rfl rfl dX8_measure_43 ?_
    refine j_icmp_ge C h 111 dX8_measure_46 (by decide) (fun hc h => ?_) (fun hc h => ?_)
    · cases h
      have h9 := hx_38 _ rfl
      subst h9
      exact j_lw ha_38 rfl
    · refine j_aload_n C dX8_measure_49 rfl ?_
      refine j_aload_n C dX8_measure_50 rfl ?_
      refine j_get C 0 rfl rfl inX8 0 (by decide) kw_90 rfl rfl dX8_measure_51 ?_
      refine j_get C 1 rfl rfl inX7 0 (by decide) kw_37 rfl rfl dX8_measure_54 ?_
      refine j_iload_n C dX8_measure_57 rfl ?_
      refine j_iaload 2 C h rfl rfl dX8_measure_58 (fun h => ?_)
      refine j_aload_n C dX8_measure_59 rfl ?_
      refine j_get C 0 rfl rfl inX8 0 (by decide) kw_90 rfl rfl dX8_measure_60 ?_
      refine j_get C 1 rfl rfl inX7 1 (by decide) kw_41 rfl rfl dX8_measure_63 ?_
      refine j_iload_n C dX8_measure_66 rfl ?_
      refine j_iaload 3 C h rfl rfl dX8_measure_67 (fun h => ?_)
      refine j_aload_n C dX8_measure_68 rfl ?_
      refine j_get C 0 rfl rfl inX8 1 (by decide) kw_94 rfl rfl dX8_measure_69 ?_
      refine j_iload_n C dX8_measure_72 rfl ?_
      refine j_iaload 4 C h rfl rfl dX8_measure_73 (fun h => ?_)
      obtain ⟨r_shorten_2, h_2, h⟩ := of_bind h
      refine j_callV0 C mk_X8_shorten ms_X8_shorten kw_582 (c_X8_shorten (gl g) (gD g) h_2) (by decide) 0 rfl rfl [0, 6] rfl rfl rfl rfl rfl (Nat.le_of_ble_eq_true rfl) dX8_measure_74 ?_
      refine j_ws (ws' := (w_X8_measure (gD g) q_this q_town q_town_froms q_town_tos q_on q_back q_least w_town_lengths w_town_kinds w_town_figures v_town_closed v_town_size v_town_home v_town_froms v_town_tos v_on v_back r_shorten_2)) rfl ?_
      refine j_aload_n C dX8_measure_77 rfl ?_
      refine j_aload_n C dX8_measure_78 rfl ?_
      refine j_get C 0 rfl rfl inX8 0 (by decide) kw_90 rfl rfl dX8_measure_79 ?_
      refine j_get C 1 rfl rfl inX7 1 (by decide) kw_41 rfl rfl dX8_measure_82 ?_
      refine j_iload_n C dX8_measure_85 rfl ?_
      refine j_iaload 3 C h rfl rfl dX8_measure_86 (fun h => ?_)
      refine j_aload_n C dX8_measure_87 rfl ?_
      refine j_get C 0 rfl rfl inX8 0 (by decide) kw_90 rfl rfl dX8_measure_88 ?_
      refine j_get C 1 rfl rfl inX7 0 (by decide) kw_37 rfl rfl dX8_measure_91 ?_
      refine j_iload_n C dX8_measure_94 rfl ?_
      refine j_iaload 2 C h rfl rfl dX8_measure_95 (fun h => ?_)
      refine j_aload_n C dX8_measure_96 rfl ?_
      refine j_get C 0 rfl rfl inX8 2 (by decide) kw_96 rfl rfl dX8_measure_97 ?_
      refine j_iload_n C dX8_measure_100 rfl ?_
      refine j_iaload 5 C h rfl rfl dX8_measure_101 (fun h => ?_)
      obtain ⟨r_shorten_3, h_3, h⟩ := of_bind h
      refine j_callV0 C mk_X8_shorten ms_X8_shorten kw_582 (c_X8_shorten (gl g) (gD g) h_3) (by decide) 0 rfl rfl [0, 6] rfl rfl rfl rfl rfl (Nat.le_of_ble_eq_true rfl) dX8_measure_102 ?_
      refine j_ws (ws' := (w_X8_measure (gD g) q_this q_town q_town_froms q_town_tos q_on q_back q_least w_town_lengths w_town_kinds w_town_figures v_town_closed v_town_size v_town_home v_town_froms v_town_tos v_on v_back r_shorten_3)) rfl ?_
      refine j_inc C (1) dX8_measure_105 rfl ki_1 (by decide) ?_
      refine j_goto C 38 dX8_measure_108 (by decide) ?_
      cases h
      have hc9 := hc_38 _ rfl
      exact j_lw hc9 rfl
  refine j_lv (lv' := [(0, .ref q_this), (1, .int ((0 : Int32)))]) rfl ?_
  refine lp_ind hl_2 (fun s_2 => J g (w_X8_measure (gD g) q_this q_town q_town_froms q_town_tos q_on q_back q_least w_town_lengths w_town_kinds w_town_figures v_town_closed v_town_size v_town_home v_town_froms v_town_tos v_on v_back s_2.2) [(0, .ref q_this), (1, .int (s_2.1))] 2 []) (fun s_2 r_2 h hc_2 hx_2 => ?_)
  unfold f_X8_measure_b2 at h
  refine j_iload_n C dX8_measure_2 rfl ?_
  refine j_aload_n C dX8_measure_3 rfl ?_
  refine j_get C 0 rfl rfl inX8 3 (by decide) kw_98 rfl rfl dX8_measure_4 ?_
  refine j_alen C 36 6 rfl rfl (by decide) dX8_measure_7 ?_
  refine j_icmp_ge C h 36 dX8_measure_8 (by decide) (fun hc h => ?_) (fun hc h => ?_)
  · cases h
    have h9 := hx_2 _ rfl
    subst h9
    exact j_lw ha_2 rfl
  · refine j_aload_n C dX8_measure_11 rfl ?_
    refine j_get C 0 rfl rfl inX8 3 (by decide) kw_98 rfl rfl dX8_measure_12 ?_
    refine j_iload_n C dX8_measure_15 rfl ?_
    refine j_iload_n C dX8_measure_16 rfl ?_
    refine j_bipush C (7) dX8_measure_17 kb_7 ?_
    refine j_iremc C (by decide) dX8_measure_19 ?_
    have hj_1 : J g (w_X8_measure (gD g) q_this q_town q_town_froms q_town_tos q_on q_back q_least w_town_lengths w_town_kinds w_town_figures v_town_closed v_town_size v_town_home v_town_froms v_town_tos v_on v_back s_2.2) [(0, .ref q_this), (1, .int (s_2.1))] 29 [.int (if (s_2.1 - s_2.1 / (7 : Int32) * (7 : Int32)) = 0 then (0 : Int32) else (1000000 : Int32)), .int (s_2.1), .ref q_least] := by
      refine j_iastore 6 C h rfl rfl dX8_measure_29 (fun h => ?_)
      refine j_ws (ws' := (w_X8_measure (gD g) q_this q_town q_town_froms q_town_tos q_on q_back q_least w_town_lengths w_town_kinds w_town_figures v_town_closed v_town_size v_town_home v_town_froms v_town_tos v_on v_back (upd s_2.2 (Int32.toNatClampNeg s_2.1) (if (s_2.1 - s_2.1 / (7 : Int32) * (7 : Int32)) = 0 then (0 : Int32) else (1000000 : Int32))))) rfl ?_
      refine j_inc C (1) dX8_measure_30 rfl ki_1 (by decide) ?_
      refine j_goto C 2 dX8_measure_33 (by decide) ?_
      cases h
      have hc9 := hc_2 _ rfl
      exact j_lw hc9 rfl
    refine jv_if_ne C 27 dX8_measure_20 (by decide) (fun hc => ?_) (fun hc => ?_)
    · try simp only [if_pos hc] at hj_1
      refine j_iconst C (0) dX8_measure_23 ki_0 ?_
      refine j_goto C 29 dX8_measure_24 (by decide) ?_
      exact j_lw hj_1 rfl
    · try simp only [if_neg hc] at hj_1
      refine j_ldc C kw_581 dX8_measure_27 ?_
      exact j_lw hj_1 rfl

def w_X8_learn (D : va_G) (q_this q_town q_town_froms q_town_tos q_town_lengths q_town_kinds q_town_figures q_on q_back q_least q_p1 q_p1_froms q_p1_tos q_p1_lengths q_p1_kinds q_p1_figures : Nat) (v_town_closed : Int32) (v_town_size : Int32) (v_town_home : Int32) (v_town_froms : (Nat → Int32)) (v_town_tos : (Nat → Int32)) (v_town_lengths : (Nat → Int32)) (v_town_kinds : (Nat → Int32)) (v_town_figures : (Nat → Int32)) (v_on : (Nat → Int32)) (v_back : (Nat → Int32)) (v_least : (Nat → Int32)) (v_p1_closed : Int32) (v_p1_size : Int32) (v_p1_home : Int32) (v_p1_froms : (Nat → Int32)) (v_p1_tos : (Nat → Int32)) (v_p1_lengths : (Nat → Int32)) (v_p1_kinds : (Nat → Int32)) (v_p1_figures : (Nat → Int32)) : va_W := [(q_this, .inr (7, [.ref q_town, .ref q_on, .ref q_back, .ref q_least])), (q_town, .inr (6, [.ref q_town_froms, .ref q_town_tos, .ref q_town_lengths, .ref q_town_kinds, .ref q_town_figures, .int v_town_closed, .int v_town_size, .int v_town_home])), (q_town_froms, .inl (D.1 100, 8, .inl v_town_froms)), (q_town_tos, .inl (D.1 100, 8, .inl v_town_tos)), (q_town_lengths, .inl (D.1 100, 8, .inl v_town_lengths)), (q_town_kinds, .inl (D.1 100, 8, .inl v_town_kinds)), (q_town_figures, .inl (D.1 100, 8, .inl v_town_figures)), (q_on, .inl (D.1 100, 8, .inl v_on)), (q_back, .inl (D.1 100, 8, .inl v_back)), (q_least, .inl (D.1 100, 36, .inl v_least)), (q_p1, .inr (6, [.ref q_p1_froms, .ref q_p1_tos, .ref q_p1_lengths, .ref q_p1_kinds, .ref q_p1_figures, .int v_p1_closed, .int v_p1_size, .int v_p1_home])), (q_p1_froms, .inl (D.1 100, 8, .inl v_p1_froms)), (q_p1_tos, .inl (D.1 100, 8, .inl v_p1_tos)), (q_p1_lengths, .inl (D.1 100, 8, .inl v_p1_lengths)), (q_p1_kinds, .inl (D.1 100, 8, .inl v_p1_kinds)), (q_p1_figures, .inl (D.1 100, 8, .inl v_p1_figures))]
def f_X8_learn_b10 (r_takeOver_1_1 : Int32) (x3_10 : Int32) (v_on_10 : (Nat → Int32)) (v_back_10 : (Nat → Int32)) (x2 : Int32) (r_takeOver_1_0 : Int32) (r_takeOver_1_5 : (Nat → Int32)) (r_takeOver_1_6 : (Nat → Int32)) (r_takeOver_1_7 : (Nat → Int32)) : Option ((Int32 × (Nat → Int32) × (Nat → Int32)) ⊕ ((Nat → Int32) × (Nat → Int32))) :=
  (if r_takeOver_1_1 ≤ x3_10 then some (.inr (v_on_10, v_back_10)) else ((if x2 = 0 then (f_X7_costOn x3_10 r_takeOver_1_0 r_takeOver_1_5 r_takeOver_1_6 r_takeOver_1_7).bind (fun r_costOn_3 => some r_costOn_3) else (f_X7_costBack x3_10 r_takeOver_1_0 r_takeOver_1_5 r_takeOver_1_6 r_takeOver_1_7).bind (fun r_costBack_4 => some r_costBack_4)) : Option Int32).bind (fun m_2 => ga x3_10 8 ((if x2 = 0 then (f_X7_costBack x3_10 r_takeOver_1_0 r_takeOver_1_5 r_takeOver_1_6 r_takeOver_1_7).bind (fun r_costBack_5 => ga x3_10 8 (some (.inl (x3_10 + (1 : Int32), upd v_on_10 (Int32.toNatClampNeg x3_10) m_2, upd v_back_10 (Int32.toNatClampNeg x3_10) r_costBack_5)))) else (f_X7_costOn x3_10 r_takeOver_1_0 r_takeOver_1_5 r_takeOver_1_6 r_takeOver_1_7).bind (fun r_costOn_6 => ga x3_10 8 (some (.inl (x3_10 + (1 : Int32), upd v_on_10 (Int32.toNatClampNeg x3_10) m_2, upd v_back_10 (Int32.toNatClampNeg x3_10) r_costOn_6))))))))
def f_X8_learn (N : Nat) (x2 : Int32) (v_town_closed : Int32) (v_town_size : Int32) (v_town_home : Int32) (v_town_froms : (Nat → Int32)) (v_town_tos : (Nat → Int32)) (v_town_lengths : (Nat → Int32)) (v_town_kinds : (Nat → Int32)) (v_town_figures : (Nat → Int32)) (v_on : (Nat → Int32)) (v_back : (Nat → Int32)) (v_least : (Nat → Int32)) (v_p1_closed : Int32) (v_p1_size : Int32) (v_p1_home : Int32) (v_p1_froms : (Nat → Int32)) (v_p1_tos : (Nat → Int32)) (v_p1_lengths : (Nat → Int32)) (v_p1_kinds : (Nat → Int32)) (v_p1_figures : (Nat → Int32)) : Option (Int32 × Int32 × Int32 × (Nat → Int32) × (Nat → Int32) × (Nat → Int32) × (Nat → Int32) × (Nat → Int32) × (Nat → Int32) × (Nat → Int32) × (Nat → Int32)) :=
  (f_X7_takeOver v_town_closed v_town_size v_town_home v_town_froms v_town_tos v_town_lengths v_town_kinds v_town_figures v_p1_closed v_p1_size v_p1_home v_p1_froms v_p1_tos v_p1_lengths v_p1_kinds v_p1_figures).bind (fun r_takeOver_1 => (lp (fun s_10 => f_X8_learn_b10 r_takeOver_1.2.1 s_10.1 s_10.2.1 s_10.2.2 x2 r_takeOver_1.1 r_takeOver_1.2.2.2.2.2.1 r_takeOver_1.2.2.2.2.2.2.1 r_takeOver_1.2.2.2.2.2.2.2) N ((0 : Int32), v_on, v_back)).bind (fun e_10 => (f_X8_measure N r_takeOver_1.2.1 r_takeOver_1.2.2.2.1 r_takeOver_1.2.2.2.2.1 e_10.1 e_10.2 v_least).bind (fun r_measure_7 => some (r_takeOver_1.1, r_takeOver_1.2.1, r_takeOver_1.2.2.1, r_takeOver_1.2.2.2.1, r_takeOver_1.2.2.2.2.1, r_takeOver_1.2.2.2.2.2.1, r_takeOver_1.2.2.2.2.2.2.1, r_takeOver_1.2.2.2.2.2.2.2, e_10.1, e_10.2, r_measure_7))))
set_option maxRecDepth 100000 in
set_option maxHeartbeats 4000000 in
theorem c_X8_learn (l : Launch) (D : va_G) (N : Nat) {q_this q_town q_town_froms q_town_tos q_town_lengths q_town_kinds q_town_figures q_on q_back q_least q_p1 q_p1_froms q_p1_tos q_p1_lengths q_p1_kinds q_p1_figures : Nat} {v_town_closed : Int32} {v_town_size : Int32} {v_town_home : Int32} {v_town_froms : (Nat → Int32)} {v_town_tos : (Nat → Int32)} {v_town_lengths : (Nat → Int32)} {v_town_kinds : (Nat → Int32)} {v_town_figures : (Nat → Int32)} {v_on : (Nat → Int32)} {v_back : (Nat → Int32)} {v_least : (Nat → Int32)} {v_p1_closed : Int32} {v_p1_size : Int32} {v_p1_home : Int32} {v_p1_froms : (Nat → Int32)} {v_p1_tos : (Nat → Int32)} {v_p1_lengths : (Nat → Int32)} {v_p1_kinds : (Nat → Int32)} {v_p1_figures : (Nat → Int32)} {x2 : Int32} {o : (Int32 × Int32 × Int32 × (Nat → Int32) × (Nat → Int32) × (Nat → Int32) × (Nat → Int32) × (Nat → Int32) × (Nat → Int32) × (Nat → Int32) × (Nat → Int32))} (h : f_X8_learn N x2 v_town_closed v_town_size v_town_home v_town_froms v_town_tos v_town_lengths v_town_kinds v_town_figures v_on v_back v_least v_p1_closed v_p1_size v_p1_home v_p1_froms v_p1_tos v_p1_lengths v_p1_kinds v_p1_figures = some o) : CT l D yX8_learn cX8_learn 4 (Option.none : Option FieldType) 2 [.ref q_this, .ref q_p1, .int x2] (w_X8_learn D q_this q_town q_town_froms q_town_tos q_town_lengths q_town_kinds q_town_figures q_on q_back q_least q_p1 q_p1_froms q_p1_tos q_p1_lengths q_p1_kinds q_p1_figures v_town_closed v_town_size v_town_home v_town_froms v_town_tos v_town_lengths v_town_kinds v_town_figures v_on v_back v_least v_p1_closed v_p1_size v_p1_home v_p1_froms v_p1_tos v_p1_lengths v_p1_kinds v_p1_figures) (w_X8_learn D q_this q_town q_town_froms q_town_tos q_town_lengths q_town_kinds q_town_figures q_on q_back q_least q_p1 q_p1_froms q_p1_tos q_p1_lengths q_p1_kinds q_p1_figures o.1 o.2.1 o.2.2.1 o.2.2.2.1 o.2.2.2.2.1 o.2.2.2.2.2.1 o.2.2.2.2.2.2.1 o.2.2.2.2.2.2.2.1 o.2.2.2.2.2.2.2.2.1 o.2.2.2.2.2.2.2.2.2.1 o.2.2.2.2.2.2.2.2.2.2 v_p1_closed v_p1_size v_p1_home v_p1_froms v_p1_tos v_p1_lengths v_p1_kinds v_p1_figures) (none) := by
  refine CT.of mk_X8_learn (Nat.le_of_ble_eq_true rfl) (fun g hl hD C E => ?_)
  subst hl
  subst hD
  unfold f_X8_learn at h
  refine j_aload_n C dX8_learn_0 rfl ?_
  refine j_get C 0 rfl rfl inX8 0 (by decide) kw_90 rfl rfl dX8_learn_1 ?_
  refine j_aload_n C dX8_learn_4 rfl ?_
  obtain ⟨r_takeOver_1, h_1, h⟩ := of_bind h
  refine j_callV0 C mk_X7_takeOver ms_X7_takeOver kw_574 (c_X7_takeOver (gl g) (gD g) h_1) (by decide) 1 rfl rfl [1, 2, 3, 4, 5, 6, 10, 11, 12, 13, 14, 15] rfl rfl rfl rfl rfl (Nat.le_of_ble_eq_true rfl) dX8_learn_5 ?_
  refine j_ws (ws' := (w_X8_learn (gD g) q_this q_town q_town_froms q_town_tos q_town_lengths q_town_kinds q_town_figures q_on q_back q_least q_p1 q_p1_froms q_p1_tos q_p1_lengths q_p1_kinds q_p1_figures r_takeOver_1.1 r_takeOver_1.2.1 r_takeOver_1.2.2.1 r_takeOver_1.2.2.2.1 r_takeOver_1.2.2.2.2.1 r_takeOver_1.2.2.2.2.2.1 r_takeOver_1.2.2.2.2.2.2.1 r_takeOver_1.2.2.2.2.2.2.2 v_on v_back v_least v_p1_closed v_p1_size v_p1_home v_p1_froms v_p1_tos v_p1_lengths v_p1_kinds v_p1_figures)) rfl ?_
  refine j_iconst C (0) dX8_learn_8 ki_0 ?_
  refine j_istore_n C dX8_learn_9 (by decide) ?_
  obtain ⟨e_10, hl_10, h⟩ := of_bind h
  have ha_10 : J g (w_X8_learn (gD g) q_this q_town q_town_froms q_town_tos q_town_lengths q_town_kinds q_town_figures q_on q_back q_least q_p1 q_p1_froms q_p1_tos q_p1_lengths q_p1_kinds q_p1_figures r_takeOver_1.1 r_takeOver_1.2.1 r_takeOver_1.2.2.1 r_takeOver_1.2.2.2.1 r_takeOver_1.2.2.2.2.1 r_takeOver_1.2.2.2.2.2.1 r_takeOver_1.2.2.2.2.2.2.1 r_takeOver_1.2.2.2.2.2.2.2 e_10.1 e_10.2 v_least v_p1_closed v_p1_size v_p1_home v_p1_froms v_p1_tos v_p1_lengths v_p1_kinds v_p1_figures) [(0, .ref q_this)] 85 [] := by
    refine j_aload_n C dX8_learn_85 rfl ?_
    obtain ⟨r_measure_7, h_7, h⟩ := of_bind h
    refine j_callV0 C mk_X8_measure ms_X8_measure kw_577 (c_X8_measure (gl g) (gD g) N h_7) (by decide) 0 rfl rfl [0, 1, 2, 3, 7, 8, 9] rfl rfl rfl rfl rfl (Nat.le_of_ble_eq_true rfl) dX8_learn_86 ?_
    refine j_ws (ws' := (w_X8_learn (gD g) q_this q_town q_town_froms q_town_tos q_town_lengths q_town_kinds q_town_figures q_on q_back q_least q_p1 q_p1_froms q_p1_tos q_p1_lengths q_p1_kinds q_p1_figures r_takeOver_1.1 r_takeOver_1.2.1 r_takeOver_1.2.2.1 r_takeOver_1.2.2.2.1 r_takeOver_1.2.2.2.2.1 r_takeOver_1.2.2.2.2.2.1 r_takeOver_1.2.2.2.2.2.2.1 r_takeOver_1.2.2.2.2.2.2.2 e_10.1 e_10.2 r_measure_7 v_p1_closed v_p1_size v_p1_home v_p1_froms v_p1_tos v_p1_lengths v_p1_kinds v_p1_figures)) rfl ?_
    cases h
    exact j_vret C E dX8_learn_89
  refine j_lv (lv' := [(0, .ref q_this), (2, .int (x2)), (3, .int ((0 : Int32)))]) rfl ?_
  refine lp_ind hl_10 (fun s_10 => J g (w_X8_learn (gD g) q_this q_town q_town_froms q_town_tos q_town_lengths q_town_kinds q_town_figures q_on q_back q_least q_p1 q_p1_froms q_p1_tos q_p1_lengths q_p1_kinds q_p1_figures r_takeOver_1.1 r_takeOver_1.2.1 r_takeOver_1.2.2.1 r_takeOver_1.2.2.2.1 r_takeOver_1.2.2.2.2.1 r_takeOver_1.2.2.2.2.2.1 r_takeOver_1.2.2.2.2.2.2.1 r_takeOver_1.2.2.2.2.2.2.2 s_10.2.1 s_10.2.2 v_least v_p1_closed v_p1_size v_p1_home v_p1_froms v_p1_tos v_p1_lengths v_p1_kinds v_p1_figures) [(0, .ref q_this), (2, .int (x2)), (3, .int (s_10.1))] 10 []) (fun s_10 r_10 h hc_10 hx_10 => ?_)
  unfold f_X8_learn_b10 at h
  refine j_iload_n C dX8_learn_10 rfl ?_
  refine j_aload_n C dX8_learn_11 rfl ?_
  refine j_get C 0 rfl rfl inX8 0 (by decide) kw_90 rfl rfl dX8_learn_12 ?_
  refine j_get C 1 rfl rfl inX7 6 (by decide) kw_55 rfl rfl dX8_learn_15 ?_
  refine j_icmp_ge C h 85 dX8_learn_18 (by decide) (fun hc h => ?_) (fun hc h => ?_)
  · cases h
    have h9 := hx_10 _ rfl
    subst h9
    exact j_lw ha_10 rfl
  · refine j_aload_n C dX8_learn_21 rfl ?_
    refine j_get C 0 rfl rfl inX8 1 (by decide) kw_94 rfl rfl dX8_learn_22 ?_
    refine j_iload_n C dX8_learn_25 rfl ?_
    refine j_iload_n C dX8_learn_26 rfl ?_
    obtain ⟨m_2, hm_2, h⟩ := of_bind h
    have hj_2 : J g (w_X8_learn (gD g) q_this q_town q_town_froms q_town_tos q_town_lengths q_town_kinds q_town_figures q_on q_back q_least q_p1 q_p1_froms q_p1_tos q_p1_lengths q_p1_kinds q_p1_figures r_takeOver_1.1 r_takeOver_1.2.1 r_takeOver_1.2.2.1 r_takeOver_1.2.2.2.1 r_takeOver_1.2.2.2.2.1 r_takeOver_1.2.2.2.2.2.1 r_takeOver_1.2.2.2.2.2.2.1 r_takeOver_1.2.2.2.2.2.2.2 s_10.2.1 s_10.2.2 v_least v_p1_closed v_p1_size v_p1_home v_p1_froms v_p1_tos v_p1_lengths v_p1_kinds v_p1_figures) [(0, .ref q_this), (2, .int (x2)), (3, .int (s_10.1))] 49 [.int (m_2), .int (s_10.1), .ref q_on] := by
      refine j_iastore 7 C h rfl rfl dX8_learn_49 (fun h => ?_)
      refine j_ws (ws' := (w_X8_learn (gD g) q_this q_town q_town_froms q_town_tos q_town_lengths q_town_kinds q_town_figures q_on q_back q_least q_p1 q_p1_froms q_p1_tos q_p1_lengths q_p1_kinds q_p1_figures r_takeOver_1.1 r_takeOver_1.2.1 r_takeOver_1.2.2.1 r_takeOver_1.2.2.2.1 r_takeOver_1.2.2.2.2.1 r_takeOver_1.2.2.2.2.2.1 r_takeOver_1.2.2.2.2.2.2.1 r_takeOver_1.2.2.2.2.2.2.2 (upd s_10.2.1 (Int32.toNatClampNeg s_10.1) m_2) s_10.2.2 v_least v_p1_closed v_p1_size v_p1_home v_p1_froms v_p1_tos v_p1_lengths v_p1_kinds v_p1_figures)) rfl ?_
      refine j_aload_n C dX8_learn_50 rfl ?_
      refine j_get C 0 rfl rfl inX8 2 (by decide) kw_96 rfl rfl dX8_learn_51 ?_
      refine j_iload_n C dX8_learn_54 rfl ?_
      refine j_iload_n C dX8_learn_55 rfl ?_
      refine j_if_eq C h 70 dX8_learn_56 (by decide) (fun hc h => ?_) (fun hc h => ?_)
      · refine j_aload_n C dX8_learn_70 rfl ?_
        refine j_get C 0 rfl rfl inX8 0 (by decide) kw_90 rfl rfl dX8_learn_71 ?_
        refine j_iload_n C dX8_learn_74 rfl ?_
        obtain ⟨r_costBack_5, h_5, h⟩ := of_bind h
        refine j_callV1 C mk_X7_costBack ms_X7_costBack kw_575 (c_X7_costBack (gl g) (gD g) h_5) (by decide) 1 rfl rfl [1, 4, 5, 6] rfl rfl rfl rfl rfl (Nat.le_of_ble_eq_true rfl) dX8_learn_75 ?_
        refine j_ws (ws' := (w_X8_learn (gD g) q_this q_town q_town_froms q_town_tos q_town_lengths q_town_kinds q_town_figures q_on q_back q_least q_p1 q_p1_froms q_p1_tos q_p1_lengths q_p1_kinds q_p1_figures r_takeOver_1.1 r_takeOver_1.2.1 r_takeOver_1.2.2.1 r_takeOver_1.2.2.2.1 r_takeOver_1.2.2.2.2.1 r_takeOver_1.2.2.2.2.2.1 r_takeOver_1.2.2.2.2.2.2.1 r_takeOver_1.2.2.2.2.2.2.2 (upd s_10.2.1 (Int32.toNatClampNeg s_10.1) m_2) s_10.2.2 v_least v_p1_closed v_p1_size v_p1_home v_p1_froms v_p1_tos v_p1_lengths v_p1_kinds v_p1_figures)) rfl ?_
        refine j_iastore 8 C h rfl rfl dX8_learn_78 (fun h => ?_)
        refine j_ws (ws' := (w_X8_learn (gD g) q_this q_town q_town_froms q_town_tos q_town_lengths q_town_kinds q_town_figures q_on q_back q_least q_p1 q_p1_froms q_p1_tos q_p1_lengths q_p1_kinds q_p1_figures r_takeOver_1.1 r_takeOver_1.2.1 r_takeOver_1.2.2.1 r_takeOver_1.2.2.2.1 r_takeOver_1.2.2.2.2.1 r_takeOver_1.2.2.2.2.2.1 r_takeOver_1.2.2.2.2.2.2.1 r_takeOver_1.2.2.2.2.2.2.2 (upd s_10.2.1 (Int32.toNatClampNeg s_10.1) m_2) (upd s_10.2.2 (Int32.toNatClampNeg s_10.1) r_costBack_5) v_least v_p1_closed v_p1_size v_p1_home v_p1_froms v_p1_tos v_p1_lengths v_p1_kinds v_p1_figures)) rfl ?_
        refine j_inc C (1) dX8_learn_79 rfl ki_1 (by decide) ?_
        refine j_goto C 10 dX8_learn_82 (by decide) ?_
        cases h
        have hc9 := hc_10 _ rfl
        exact j_lw hc9 rfl
      · refine j_aload_n C dX8_learn_59 rfl ?_
        refine j_get C 0 rfl rfl inX8 0 (by decide) kw_90 rfl rfl dX8_learn_60 ?_
        refine j_iload_n C dX8_learn_63 rfl ?_
        obtain ⟨r_costOn_6, h_6, h⟩ := of_bind h
        refine j_callV1 C mk_X7_costOn ms_X7_costOn kw_576 (c_X7_costOn (gl g) (gD g) h_6) (by decide) 1 rfl rfl [1, 4, 5, 6] rfl rfl rfl rfl rfl (Nat.le_of_ble_eq_true rfl) dX8_learn_64 ?_
        refine j_ws (ws' := (w_X8_learn (gD g) q_this q_town q_town_froms q_town_tos q_town_lengths q_town_kinds q_town_figures q_on q_back q_least q_p1 q_p1_froms q_p1_tos q_p1_lengths q_p1_kinds q_p1_figures r_takeOver_1.1 r_takeOver_1.2.1 r_takeOver_1.2.2.1 r_takeOver_1.2.2.2.1 r_takeOver_1.2.2.2.2.1 r_takeOver_1.2.2.2.2.2.1 r_takeOver_1.2.2.2.2.2.2.1 r_takeOver_1.2.2.2.2.2.2.2 (upd s_10.2.1 (Int32.toNatClampNeg s_10.1) m_2) s_10.2.2 v_least v_p1_closed v_p1_size v_p1_home v_p1_froms v_p1_tos v_p1_lengths v_p1_kinds v_p1_figures)) rfl ?_
        refine j_goto C 78 dX8_learn_67 (by decide) ?_
        refine j_iastore 8 C h rfl rfl dX8_learn_78 (fun h => ?_)
        refine j_ws (ws' := (w_X8_learn (gD g) q_this q_town q_town_froms q_town_tos q_town_lengths q_town_kinds q_town_figures q_on q_back q_least q_p1 q_p1_froms q_p1_tos q_p1_lengths q_p1_kinds q_p1_figures r_takeOver_1.1 r_takeOver_1.2.1 r_takeOver_1.2.2.1 r_takeOver_1.2.2.2.1 r_takeOver_1.2.2.2.2.1 r_takeOver_1.2.2.2.2.2.1 r_takeOver_1.2.2.2.2.2.2.1 r_takeOver_1.2.2.2.2.2.2.2 (upd s_10.2.1 (Int32.toNatClampNeg s_10.1) m_2) (upd s_10.2.2 (Int32.toNatClampNeg s_10.1) r_costOn_6) v_least v_p1_closed v_p1_size v_p1_home v_p1_froms v_p1_tos v_p1_lengths v_p1_kinds v_p1_figures)) rfl ?_
        refine j_inc C (1) dX8_learn_79 rfl ki_1 (by decide) ?_
        refine j_goto C 10 dX8_learn_82 (by decide) ?_
        cases h
        have hc9 := hc_10 _ rfl
        exact j_lw hc9 rfl
    refine j_if_eq C hm_2 41 dX8_learn_27 (by decide) (fun hc h => ?_) (fun hc h => ?_)
    · refine j_aload_n C dX8_learn_41 rfl ?_
      refine j_get C 0 rfl rfl inX8 0 (by decide) kw_90 rfl rfl dX8_learn_42 ?_
      refine j_iload_n C dX8_learn_45 rfl ?_
      obtain ⟨r_costOn_3, h_3, h⟩ := of_bind h
      refine j_callV1 C mk_X7_costOn ms_X7_costOn kw_576 (c_X7_costOn (gl g) (gD g) h_3) (by decide) 1 rfl rfl [1, 4, 5, 6] rfl rfl rfl rfl rfl (Nat.le_of_ble_eq_true rfl) dX8_learn_46 ?_
      refine j_ws (ws' := (w_X8_learn (gD g) q_this q_town q_town_froms q_town_tos q_town_lengths q_town_kinds q_town_figures q_on q_back q_least q_p1 q_p1_froms q_p1_tos q_p1_lengths q_p1_kinds q_p1_figures r_takeOver_1.1 r_takeOver_1.2.1 r_takeOver_1.2.2.1 r_takeOver_1.2.2.2.1 r_takeOver_1.2.2.2.2.1 r_takeOver_1.2.2.2.2.2.1 r_takeOver_1.2.2.2.2.2.2.1 r_takeOver_1.2.2.2.2.2.2.2 s_10.2.1 s_10.2.2 v_least v_p1_closed v_p1_size v_p1_home v_p1_froms v_p1_tos v_p1_lengths v_p1_kinds v_p1_figures)) rfl ?_
      cases h
      exact j_lw hj_2 rfl
    · refine j_aload_n C dX8_learn_30 rfl ?_
      refine j_get C 0 rfl rfl inX8 0 (by decide) kw_90 rfl rfl dX8_learn_31 ?_
      refine j_iload_n C dX8_learn_34 rfl ?_
      obtain ⟨r_costBack_4, h_4, h⟩ := of_bind h
      refine j_callV1 C mk_X7_costBack ms_X7_costBack kw_575 (c_X7_costBack (gl g) (gD g) h_4) (by decide) 1 rfl rfl [1, 4, 5, 6] rfl rfl rfl rfl rfl (Nat.le_of_ble_eq_true rfl) dX8_learn_35 ?_
      refine j_ws (ws' := (w_X8_learn (gD g) q_this q_town q_town_froms q_town_tos q_town_lengths q_town_kinds q_town_figures q_on q_back q_least q_p1 q_p1_froms q_p1_tos q_p1_lengths q_p1_kinds q_p1_figures r_takeOver_1.1 r_takeOver_1.2.1 r_takeOver_1.2.2.1 r_takeOver_1.2.2.2.1 r_takeOver_1.2.2.2.2.1 r_takeOver_1.2.2.2.2.2.1 r_takeOver_1.2.2.2.2.2.2.1 r_takeOver_1.2.2.2.2.2.2.2 s_10.2.1 s_10.2.2 v_least v_p1_closed v_p1_size v_p1_home v_p1_froms v_p1_tos v_p1_lengths v_p1_kinds v_p1_figures)) rfl ?_
      refine j_goto C 49 dX8_learn_38 (by decide) ?_
      cases h
      exact j_lw hj_2 rfl

def w_X8_costFrom (D : va_G) (q_this q_town q_town_froms q_town_tos q_on q_back : Nat) (w_least w_town_lengths w_town_kinds w_town_figures : Value) (v_town_closed : Int32) (v_town_size : Int32) (v_town_home : Int32) (v_town_froms : (Nat → Int32)) (v_town_tos : (Nat → Int32)) (v_on : (Nat → Int32)) (v_back : (Nat → Int32)) : va_W := [(q_this, .inr (7, [.ref q_town, .ref q_on, .ref q_back, w_least])), (q_town, .inr (6, [.ref q_town_froms, .ref q_town_tos, w_town_lengths, w_town_kinds, w_town_figures, .int v_town_closed, .int v_town_size, .int v_town_home])), (q_town_froms, .inl (D.1 100, 8, .inl v_town_froms)), (q_town_tos, .inl (D.1 100, 8, .inl v_town_tos)), (q_on, .inl (D.1 100, 8, .inl v_on)), (q_back, .inl (D.1 100, 8, .inl v_back))]
def f_X8_costFrom (x1 : Int32) (x2 : Int32) (v_town_froms : (Nat → Int32)) (v_town_tos : (Nat → Int32)) (v_on : (Nat → Int32)) (v_back : (Nat → Int32)) : Option Int32 :=
  ga x1 8 ((if (v_town_froms (Int32.toNatClampNeg x1)) = x2 then ga x1 8 (some (v_on (Int32.toNatClampNeg x1))) else ga x1 8 ((if (v_town_tos (Int32.toNatClampNeg x1)) = x2 then ga x1 8 (some (v_back (Int32.toNatClampNeg x1))) else some (1000000 : Int32)))))
set_option maxRecDepth 100000 in
set_option maxHeartbeats 4000000 in
theorem c_X8_costFrom (l : Launch) (D : va_G) {q_this q_town q_town_froms q_town_tos q_on q_back : Nat} {w_least w_town_lengths w_town_kinds w_town_figures : Value} {v_town_closed : Int32} {v_town_size : Int32} {v_town_home : Int32} {v_town_froms : (Nat → Int32)} {v_town_tos : (Nat → Int32)} {v_on : (Nat → Int32)} {v_back : (Nat → Int32)} {x1 : Int32} {x2 : Int32} {o : Int32} (h : f_X8_costFrom x1 x2 v_town_froms v_town_tos v_on v_back = some o) : CT l D yX8_costFrom cX8_costFrom 3 (Option.some FieldType.int) 0 [.ref q_this, .int x1, .int x2] (w_X8_costFrom D q_this q_town q_town_froms q_town_tos q_on q_back w_least w_town_lengths w_town_kinds w_town_figures v_town_closed v_town_size v_town_home v_town_froms v_town_tos v_on v_back) (w_X8_costFrom D q_this q_town q_town_froms q_town_tos q_on q_back w_least w_town_lengths w_town_kinds w_town_figures v_town_closed v_town_size v_town_home v_town_froms v_town_tos v_on v_back) (some (.int o)) := by
  refine CT.of mk_X8_costFrom (Nat.le_of_ble_eq_true rfl) (fun g hl hD C E => ?_)
  subst hl
  subst hD
  unfold f_X8_costFrom at h
  refine j_aload_n C dX8_costFrom_0 rfl ?_
  refine j_get C 0 rfl rfl inX8 0 (by decide) kw_90 rfl rfl dX8_costFrom_1 ?_
  refine j_get C 1 rfl rfl inX7 0 (by decide) kw_37 rfl rfl dX8_costFrom_4 ?_
  refine j_iload_n C dX8_costFrom_7 rfl ?_
  refine j_iaload 2 C h rfl rfl dX8_costFrom_8 (fun h => ?_)
  refine j_iload_n C dX8_costFrom_9 rfl ?_
  refine j_icmp_ne C h 20 dX8_costFrom_10 (by decide) (fun hc h => ?_) (fun hc h => ?_)
  · refine j_aload_n C dX8_costFrom_13 rfl ?_
    refine j_get C 0 rfl rfl inX8 1 (by decide) kw_94 rfl rfl dX8_costFrom_14 ?_
    refine j_iload_n C dX8_costFrom_17 rfl ?_
    refine j_iaload 4 C h rfl rfl dX8_costFrom_18 (fun h => ?_)
    cases h
    exact j_iret C E dX8_costFrom_19
  · refine j_aload_n C dX8_costFrom_20 rfl ?_
    refine j_get C 0 rfl rfl inX8 0 (by decide) kw_90 rfl rfl dX8_costFrom_21 ?_
    refine j_get C 1 rfl rfl inX7 1 (by decide) kw_41 rfl rfl dX8_costFrom_24 ?_
    refine j_iload_n C dX8_costFrom_27 rfl ?_
    refine j_iaload 3 C h rfl rfl dX8_costFrom_28 (fun h => ?_)
    refine j_iload_n C dX8_costFrom_29 rfl ?_
    refine j_icmp_ne C h 42 dX8_costFrom_30 (by decide) (fun hc h => ?_) (fun hc h => ?_)
    · refine j_aload_n C dX8_costFrom_33 rfl ?_
      refine j_get C 0 rfl rfl inX8 2 (by decide) kw_96 rfl rfl dX8_costFrom_34 ?_
      refine j_iload_n C dX8_costFrom_37 rfl ?_
      refine j_iaload 5 C h rfl rfl dX8_costFrom_38 (fun h => ?_)
      refine j_goto C 44 dX8_costFrom_39 (by decide) ?_
      cases h
      exact j_iret C E dX8_costFrom_44
    · refine j_ldc C kw_581 dX8_costFrom_42 ?_
      cases h
      exact j_iret C E dX8_costFrom_44

def w_X8_firstOf (D : va_G) (q_this q_town q_town_froms q_town_tos q_on q_back q_least : Nat) (w_town_lengths w_town_kinds w_town_figures : Value) (v_town_closed : Int32) (v_town_size : Int32) (v_town_home : Int32) (v_town_froms : (Nat → Int32)) (v_town_tos : (Nat → Int32)) (v_on : (Nat → Int32)) (v_back : (Nat → Int32)) (v_least : (Nat → Int32)) : va_W := [(q_this, .inr (7, [.ref q_town, .ref q_on, .ref q_back, .ref q_least])), (q_town, .inr (6, [.ref q_town_froms, .ref q_town_tos, w_town_lengths, w_town_kinds, w_town_figures, .int v_town_closed, .int v_town_size, .int v_town_home])), (q_town_froms, .inl (D.1 100, 8, .inl v_town_froms)), (q_town_tos, .inl (D.1 100, 8, .inl v_town_tos)), (q_on, .inl (D.1 100, 8, .inl v_on)), (q_back, .inl (D.1 100, 8, .inl v_back)), (q_least, .inl (D.1 100, 36, .inl v_least))]
def f_X8_firstOf_b24 (v_town_size : Int32) (x4_24 : Int32) (x1 : Int32) (v_town_froms : (Nat → Int32)) (v_town_tos : (Nat → Int32)) (v_on : (Nat → Int32)) (v_back : (Nat → Int32)) (x2 : Int32) (v_least : (Nat → Int32)) (r_between_1_0 : Int32) : Option (Int32 ⊕ (Unit ⊕ Int32)) :=
  (if v_town_size ≤ x4_24 then some (.inr (.inl ())) else (f_X8_costFrom x4_24 x1 v_town_froms v_town_tos v_on v_back).bind (fun r_costFrom_2 => (if (1000000 : Int32) ≤ r_costFrom_2 then some (.inl (x4_24 + (1 : Int32))) else (f_X7_otherEnd x4_24 x1 v_town_froms v_town_tos).bind (fun r_otherEnd_3 => (f_X8_between r_otherEnd_3 x2 v_least).bind (fun r_between_4 => (if (r_costFrom_2 + r_between_4) = r_between_1_0 then some (.inr (.inr x4_24)) else some (.inl (x4_24 + (1 : Int32)))))))))
def f_X8_firstOf (N : Nat) (x1 : Int32) (x2 : Int32) (v_town_size : Int32) (v_town_froms : (Nat → Int32)) (v_town_tos : (Nat → Int32)) (v_on : (Nat → Int32)) (v_back : (Nat → Int32)) (v_least : (Nat → Int32)) : Option Int32 :=
  (f_X8_between x1 x2 v_least).bind (fun r_between_1 => (if x1 = x2 then some (-9 : Int32) else (if r_between_1 < (1000000 : Int32) then (lp (fun s_24 => f_X8_firstOf_b24 v_town_size s_24 x1 v_town_froms v_town_tos v_on v_back x2 v_least r_between_1) N ((0 : Int32))).bind (fun e_24 => match e_24 with | .inl x_24 => some (-9 : Int32) | .inr o_24 => some o_24) else some (-9 : Int32))))
set_option maxRecDepth 100000 in
set_option maxHeartbeats 4000000 in
theorem c_X8_firstOf (l : Launch) (D : va_G) (N : Nat) {q_this q_town q_town_froms q_town_tos q_on q_back q_least : Nat} {w_town_lengths w_town_kinds w_town_figures : Value} {v_town_closed : Int32} {v_town_size : Int32} {v_town_home : Int32} {v_town_froms : (Nat → Int32)} {v_town_tos : (Nat → Int32)} {v_on : (Nat → Int32)} {v_back : (Nat → Int32)} {v_least : (Nat → Int32)} {x1 : Int32} {x2 : Int32} {o : Int32} (h : f_X8_firstOf N x1 x2 v_town_size v_town_froms v_town_tos v_on v_back v_least = some o) : CT l D yX8_firstOf cX8_firstOf 6 (Option.some FieldType.int) 1 [.ref q_this, .int x1, .int x2] (w_X8_firstOf D q_this q_town q_town_froms q_town_tos q_on q_back q_least w_town_lengths w_town_kinds w_town_figures v_town_closed v_town_size v_town_home v_town_froms v_town_tos v_on v_back v_least) (w_X8_firstOf D q_this q_town q_town_froms q_town_tos q_on q_back q_least w_town_lengths w_town_kinds w_town_figures v_town_closed v_town_size v_town_home v_town_froms v_town_tos v_on v_back v_least) (some (.int o)) := by
  refine CT.of mk_X8_firstOf (Nat.le_of_ble_eq_true rfl) (fun g hl hD C E => ?_)
  subst hl
  subst hD
  unfold f_X8_firstOf at h
  refine j_aload_n C dX8_firstOf_0 rfl ?_
  refine j_iload_n C dX8_firstOf_1 rfl ?_
  refine j_iload_n C dX8_firstOf_2 rfl ?_
  obtain ⟨r_between_1, h_1, h⟩ := of_bind h
  refine j_callV1 C mk_X8_between ms_X8_between kw_586 (c_X8_between (gl g) (gD g) h_1) (by decide) 0 rfl rfl [0, 6] rfl rfl rfl rfl rfl (Nat.le_of_ble_eq_true rfl) dX8_firstOf_3 ?_
  refine j_ws (ws' := (w_X8_firstOf (gD g) q_this q_town q_town_froms q_town_tos q_on q_back q_least w_town_lengths w_town_kinds w_town_figures v_town_closed v_town_size v_town_home v_town_froms v_town_tos v_on v_back v_least)) rfl ?_
  refine j_istore_n C dX8_firstOf_6 (by decide) ?_
  refine j_iload_n C dX8_firstOf_7 rfl ?_
  refine j_iload_n C dX8_firstOf_8 rfl ?_
  refine j_icmp_eq C h 18 dX8_firstOf_9 (by decide) (fun hc h => ?_) (fun hc h => ?_)
  · refine j_bipush C (-9) dX8_firstOf_18 kb_m9 ?_
    cases h
    exact j_iret C E dX8_firstOf_20
  · refine j_iload_n C dX8_firstOf_12 rfl ?_
    refine j_ldc C kw_581 dX8_firstOf_13 ?_
    refine j_icmp_lt C h 21 dX8_firstOf_15 (by decide) (fun hc h => ?_) (fun hc h => ?_)
    · refine j_iconst C (0) dX8_firstOf_21 ki_0 ?_
      refine j_istore C dX8_firstOf_22 (by decide) ?_
      obtain ⟨e_24, hl_24, h⟩ := of_bind h
      have hR_24 : ∀ o9, Sum.inr o9 = e_24 → some o9 = some o := by
        intro o9 ho9
        rw [← ho9] at h
        exact h
      have ha_24 : ∀ x_24, Sum.inl x_24 = e_24 → J g (w_X8_firstOf (gD g) q_this q_town q_town_froms q_town_tos q_on q_back q_least w_town_lengths w_town_kinds w_town_figures v_town_closed v_town_size v_town_home v_town_froms v_town_tos v_on v_back v_least) [] 83 [] := by
        intro x_24 hx9
        rw [← hx9] at h
        dsimp only at h
        refine j_bipush C (-9) dX8_firstOf_83 kb_m9 ?_
        cases h
        exact j_iret C E dX8_firstOf_85
      refine j_lv (lv' := [(0, .ref q_this), (1, .int (x1)), (2, .int (x2)), (3, .int (r_between_1)), (4, .int ((0 : Int32)))]) rfl ?_
      refine lp_ind hl_24 (fun s_24 => J g (w_X8_firstOf (gD g) q_this q_town q_town_froms q_town_tos q_on q_back q_least w_town_lengths w_town_kinds w_town_figures v_town_closed v_town_size v_town_home v_town_froms v_town_tos v_on v_back v_least) [(0, .ref q_this), (1, .int (x1)), (2, .int (x2)), (3, .int (r_between_1)), (4, .int (s_24))] 24 []) (fun s_24 r_24 h hc_24 hx_24 => ?_)
      unfold f_X8_firstOf_b24 at h
      refine j_iload C dX8_firstOf_24 rfl ?_
      refine j_aload_n C dX8_firstOf_26 rfl ?_
      refine j_get C 0 rfl rfl inX8 0 (by decide) kw_90 rfl rfl dX8_firstOf_27 ?_
      refine j_get C 1 rfl rfl inX7 6 (by decide) kw_55 rfl rfl dX8_firstOf_30 ?_
      refine j_icmp_ge C h 83 dX8_firstOf_33 (by decide) (fun hc h => ?_) (fun hc h => ?_)
      · cases h
        have hx9 := hx_24 _ rfl
        have ha9 := ha_24 _ hx9
        exact j_lw ha9 rfl
      · refine j_aload_n C dX8_firstOf_36 rfl ?_
        refine j_iload C dX8_firstOf_37 rfl ?_
        refine j_iload_n C dX8_firstOf_39 rfl ?_
        obtain ⟨r_costFrom_2, h_2, h⟩ := of_bind h
        refine j_callV1 C mk_X8_costFrom ms_X8_costFrom kw_603 (c_X8_costFrom (gl g) (gD g) h_2) (by decide) 0 rfl rfl [0, 1, 2, 3, 4, 5] rfl rfl rfl rfl rfl (Nat.le_of_ble_eq_true rfl) dX8_firstOf_40 ?_
        refine j_ws (ws' := (w_X8_firstOf (gD g) q_this q_town q_town_froms q_town_tos q_on q_back q_least w_town_lengths w_town_kinds w_town_figures v_town_closed v_town_size v_town_home v_town_froms v_town_tos v_on v_back v_least)) rfl ?_
        refine j_istore C dX8_firstOf_43 (by decide) ?_
        refine j_iload C dX8_firstOf_45 rfl ?_
        refine j_ldc C kw_581 dX8_firstOf_47 ?_
        refine j_icmp_ge C h 77 dX8_firstOf_49 (by decide) (fun hc h => ?_) (fun hc h => ?_)
        · refine j_inc C (1) dX8_firstOf_77 rfl ki_1 (by decide) ?_
          refine j_goto C 24 dX8_firstOf_80 (by decide) ?_
          cases h
          have hc9 := hc_24 _ rfl
          exact j_lw hc9 rfl
        · refine j_iload C dX8_firstOf_52 rfl ?_
          refine j_aload_n C dX8_firstOf_54 rfl ?_
          refine j_aload_n C dX8_firstOf_55 rfl ?_
          refine j_get C 0 rfl rfl inX8 0 (by decide) kw_90 rfl rfl dX8_firstOf_56 ?_
          refine j_iload C dX8_firstOf_59 rfl ?_
          refine j_iload_n C dX8_firstOf_61 rfl ?_
          obtain ⟨r_otherEnd_3, h_3, h⟩ := of_bind h
          refine j_callV1 C mk_X7_otherEnd ms_X7_otherEnd kw_607 (c_X7_otherEnd (gl g) (gD g) h_3) (by decide) 1 rfl rfl [1, 2, 3] rfl rfl rfl rfl rfl (Nat.le_of_ble_eq_true rfl) dX8_firstOf_62 ?_
          refine j_ws (ws' := (w_X8_firstOf (gD g) q_this q_town q_town_froms q_town_tos q_on q_back q_least w_town_lengths w_town_kinds w_town_figures v_town_closed v_town_size v_town_home v_town_froms v_town_tos v_on v_back v_least)) rfl ?_
          refine j_iload_n C dX8_firstOf_65 rfl ?_
          obtain ⟨r_between_4, h_4, h⟩ := of_bind h
          refine j_callV1 C mk_X8_between ms_X8_between kw_586 (c_X8_between (gl g) (gD g) h_4) (by decide) 0 rfl rfl [0, 6] rfl rfl rfl rfl rfl (Nat.le_of_ble_eq_true rfl) dX8_firstOf_66 ?_
          refine j_ws (ws' := (w_X8_firstOf (gD g) q_this q_town q_town_froms q_town_tos q_on q_back q_least w_town_lengths w_town_kinds w_town_figures v_town_closed v_town_size v_town_home v_town_froms v_town_tos v_on v_back v_least)) rfl ?_
          refine j_iadd C dX8_firstOf_69 ?_
          refine j_iload_n C dX8_firstOf_70 rfl ?_
          refine j_icmp_ne C h 77 dX8_firstOf_71 (by decide) (fun hc h => ?_) (fun hc h => ?_)
          · refine j_iload C dX8_firstOf_74 rfl ?_
            cases h
            have h := hR_24 _ (hx_24 _ rfl)
            cases h
            exact j_iret C E dX8_firstOf_76
          · refine j_inc C (1) dX8_firstOf_77 rfl ki_1 (by decide) ?_
            refine j_goto C 24 dX8_firstOf_80 (by decide) ?_
            cases h
            have hc9 := hc_24 _ rfl
            exact j_lw hc9 rfl
    · refine j_bipush C (-9) dX8_firstOf_18 kb_m9 ?_
      cases h
      exact j_iret C E dX8_firstOf_20
