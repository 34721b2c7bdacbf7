def w_X3_pair (D : va_G) (q_this q_tried q_partners q_p1 q_p1_least : Nat) (w_p1_town w_p1_on w_p1_back : Value) (v_least : Int32) (v_tried : (Nat → Int32)) (v_partners : (Nat → Int32)) (v_p1_least : (Nat → Int32)) : va_W := [(q_this, .inr (2, [.ref q_tried, .ref q_partners, .int v_least])), (q_tried, .inl (D.1 100, 6, .inl v_tried)), (q_partners, .inl (D.1 100, 6, .inl v_partners)), (q_p1, .inr (7, [w_p1_town, w_p1_on, w_p1_back, .ref q_p1_least])), (q_p1_least, .inl (D.1 100, 36, .inl v_p1_least))]
def f_X3_pair_b37 (x4_37 : Int32) (x2 : Int32) : Option (Int32 ⊕ Int32) :=
  (if (6 : Int32) ≤ x4_37 then some (.inr x4_37) else (if ((x2 >>> (x4_37 &&& 31)) &&& (1 : Int32)) = 0 then some (.inl (x4_37 + (1 : Int32))) else some (.inr x4_37)))
def f_X3_pair_b65 (rc : Int32 → Int32 → Int32 → (Nat → Int32) → (Nat → Int32) → (Nat → Int32) → Option (Int32 × (Nat → Int32) × (Nat → Int32))) (x5_65 : Int32) (v_least_65 : Int32) (v_tried_65 : (Nat → Int32)) (v_partners_65 : (Nat → Int32)) (x2 : Int32) (e_37_0 : Int32) (v_p1_least : (Nat → Int32)) (x3 : Int32) : Option ((Int32 × Int32 × (Nat → Int32) × (Nat → Int32)) ⊕ (Int32 × (Nat → Int32) × (Nat → Int32))) :=
  (if (6 : Int32) ≤ x5_65 then some (.inr (v_least_65, v_tried_65, v_partners_65)) else (if ((x2 >>> (x5_65 &&& 31)) &&& (1 : Int32)) = 0 then some (.inl (x5_65 + (1 : Int32), v_least_65, v_tried_65, v_partners_65)) else ga e_37_0 6 (ga x5_65 6 ((f_X8_between e_37_0 x5_65 v_p1_least).bind (fun r_between_1 => (rc ((x2 &&& (((1 : Int32) <<< (e_37_0 &&& 31)) ^^^ (-1 : Int32))) &&& (((1 : Int32) <<< (x5_65 &&& 31)) ^^^ (-1 : Int32))) (x3 + r_between_1) v_least_65 (upd (upd v_tried_65 (Int32.toNatClampNeg e_37_0) x5_65) (Int32.toNatClampNeg x5_65) e_37_0) v_partners_65 v_p1_least).bind (fun r_pair_2 => some (.inl (x5_65 + (1 : Int32), r_pair_2.1, r_pair_2.2.1, r_pair_2.2.2))))))))
def f_X3_pair (N : Nat) : Nat → Int32 → Int32 → Int32 → (Nat → Int32) → (Nat → Int32) → (Nat → Int32) → Option (Int32 × (Nat → Int32) × (Nat → Int32))
  | 0, _, _, _, _, _, _ => none
  | d + 1, x2, x3, v_least, v_tried, v_partners, v_p1_least =>
  (if x3 < v_least then (if x2 = 0 then gcp (0 : Int32) (0 : Int32) (6 : Int32) 6 6 (some (x3, v_tried, va_cpy v_tried v_partners (Int32.toNatClampNeg (0 : Int32)) (Int32.toNatClampNeg (0 : Int32)) (Int32.toNatClampNeg (6 : Int32)))) else (lp (fun s_37 => f_X3_pair_b37 s_37 x2) N ((0 : Int32))).bind (fun e_37 => (lp (fun s_65 => f_X3_pair_b65 (f_X3_pair N d) s_65.1 s_65.2.1 s_65.2.2.1 s_65.2.2.2 x2 e_37 v_p1_least x3) N (e_37 + (1 : Int32), v_least, v_tried, v_partners)).bind (fun e_65 => some (e_65.1, e_65.2.1, e_65.2.2)))) else some (v_least, v_tried, v_partners))
set_option maxRecDepth 100000 in
set_option maxHeartbeats 4000000 in
theorem c_X3_pair (l : Launch) (D : va_G) (N : Nat) (d : Nat) : ∀ {q_this q_tried q_partners q_p1 q_p1_least : Nat} {w_p1_town w_p1_on w_p1_back : Value} {v_least : Int32} {v_tried : (Nat → Int32)} {v_partners : (Nat → Int32)} {v_p1_least : (Nat → Int32)} {x2 : Int32} {x3 : Int32} {o : (Int32 × (Nat → Int32) × (Nat → Int32))} (h : f_X3_pair N d x2 x3 v_least v_tried v_partners v_p1_least = some o), CT l D yX3_pair cX3_pair 6 (Option.none : Option FieldType) (1 + d) [.ref q_this, .ref q_p1, .int x2, .int x3] (w_X3_pair D q_this q_tried q_partners q_p1 q_p1_least w_p1_town w_p1_on w_p1_back v_least v_tried v_partners v_p1_least) (w_X3_pair D q_this q_tried q_partners q_p1 q_p1_least w_p1_town w_p1_on w_p1_back o.1 o.2.1 o.2.2 v_p1_least) (none) := by
  induction d with
  | zero =>
    intro q_this q_tried q_partners q_p1 q_p1_least w_p1_town w_p1_on w_p1_back v_least v_tried v_partners v_p1_least x2 x3 o h
    unfold f_X3_pair at h
    cases h
  | succ d ih =>
    intro q_this q_tried q_partners q_p1 q_p1_least w_p1_town w_p1_on w_p1_back v_least v_tried v_partners v_p1_least x2 x3 o h
    refine CT.of mk_X3_pair (Nat.le_of_ble_eq_true rfl) (fun g hl hD C E => ?_)
    subst hl
    subst hD
    unfold f_X3_pair at h
    refine j_iload_n C dX3_pair_0 rfl ?_
    refine j_aload_n C dX3_pair_1 rfl ?_
    refine j_get C 0 rfl rfl inX3 2 (by decide) kw_164 rfl rfl dX3_pair_2 ?_
    refine j_icmp_lt C h 9 dX3_pair_5 (by decide) (fun hc h => ?_) (fun hc h => ?_)
    · refine j_iload_n C dX3_pair_9 rfl ?_
      refine j_if_ne C h 34 dX3_pair_10 (by decide) (fun hc h => ?_) (fun hc h => ?_)
      · refine j_aload_n C dX3_pair_13 rfl ?_
        refine j_iload_n C dX3_pair_14 rfl ?_
        refine j_put C 0 rfl rfl inX3 tyX3_ok nmX3 2 (by decide) kw_164 rfl rfl rfl rfl (Nat.le_of_ble_eq_true rfl) dX3_pair_15 ?_
        refine j_ws (ws' := (w_X3_pair (gD g) q_this q_tried q_partners q_p1 q_p1_least w_p1_town w_p1_on w_p1_back x3 v_tried v_partners v_p1_least)) rfl ?_
        refine j_aload_n C dX3_pair_18 rfl ?_
        refine j_get C 0 rfl rfl inX3 0 (by decide) kw_162 rfl rfl dX3_pair_19 ?_
        refine j_iconst C (0) dX3_pair_22 ki_0 ?_
        refine j_aload_n C dX3_pair_23 rfl ?_
        refine j_get C 0 rfl rfl inX3 1 (by decide) kw_163 rfl rfl dX3_pair_24 ?_
        refine j_iconst C (0) dX3_pair_27 ki_0 ?_
        refine j_bipush C (6) dX3_pair_28 kb_6 ?_
        refine j_acopy 1 2 C h (by omega) kw_741 kw_411 kw_410 kw_15 rfl rfl rfl rfl (Nat.le_of_ble_eq_true rfl) dX3_pair_30 (fun h => ?_)
        refine j_ws (ws' := (w_X3_pair (gD g) q_this q_tried q_partners q_p1 q_p1_least w_p1_town w_p1_on w_p1_back x3 v_tried (va_cpy v_tried v_partners (Int32.toNatClampNeg (0 : Int32)) (Int32.toNatClampNeg (0 : Int32)) (Int32.toNatClampNeg (6 : Int32))) v_p1_least)) rfl ?_
        cases h
        exact j_vret C E dX3_pair_33
      · refine j_iconst C (0) dX3_pair_34 ki_0 ?_
        refine j_istore C dX3_pair_35 (by decide) ?_
        obtain ⟨e_37, hl_37, h⟩ := of_bind h
        have ha_37 : J g (w_X3_pair (gD g) q_this q_tried q_partners q_p1 q_p1_least w_p1_town w_p1_on w_p1_back v_least v_tried v_partners v_p1_least) [(0, .ref q_this), (1, .ref q_p1), (2, .int (x2)), (3, .int (x3)), (4, .int (e_37))] 59 [] := by
          refine j_iload C dX3_pair_59 rfl ?_
          refine j_iconst C (1) dX3_pair_61 ki_1 ?_
          refine j_iadd C dX3_pair_62 ?_
          refine j_istore C dX3_pair_63 (by decide) ?_
          obtain ⟨e_65, hl_65, h⟩ := of_bind h
          have ha_65 : J g (w_X3_pair (gD g) q_this q_tried q_partners q_p1 q_p1_least w_p1_town w_p1_on w_p1_back e_65.1 e_65.2.1 e_65.2.2 v_p1_least) [] 135 [] := by
            cases h
            exact j_vret C E dX3_pair_135
          refine j_lv (lv' := [(0, .ref q_this), (1, .ref q_p1), (2, .int (x2)), (3, .int (x3)), (4, .int (e_37)), (5, .int (e_37 + (1 : Int32)))]) rfl ?_
          refine lp_ind hl_65 (fun s_65 => J g (w_X3_pair (gD g) q_this q_tried q_partners q_p1 q_p1_least w_p1_town w_p1_on w_p1_back s_65.2.1 s_65.2.2.1 s_65.2.2.2 v_p1_least) [(0, .ref q_this), (1, .ref q_p1), (2, .int (x2)), (3, .int (x3)), (4, .int (e_37)), (5, .int (s_65.1))] 65 []) (fun s_65 r_65 h hc_65 hx_65 => ?_)
          unfold f_X3_pair_b65 at h
          refine j_iload C dX3_pair_65 rfl ?_
          refine j_bipush C (6) dX3_pair_67 kb_6 ?_
          refine j_icmp_ge C h 135 dX3_pair_69 (by decide) (fun hc h => ?_) (fun hc h => ?_)
          · cases h
            have h9 := hx_65 _ rfl
            subst h9
            exact j_lw ha_65 rfl
          · refine j_iload_n C dX3_pair_72 rfl ?_
            refine j_iload C dX3_pair_73 rfl ?_
            refine j_ishr C dX3_pair_75 ?_
            refine j_iconst C (1) dX3_pair_76 ki_1 ?_
            refine j_iand C dX3_pair_77 ?_
            refine j_if_eq C h 129 dX3_pair_78 (by decide) (fun hc h => ?_) (fun hc h => ?_)
            · refine j_inc C (1) dX3_pair_129 rfl ki_1 (by decide) ?_
              refine j_goto C 65 dX3_pair_132 (by decide) ?_
              cases h
              have hc9 := hc_65 _ rfl
              exact j_lw hc9 rfl
            · refine j_aload_n C dX3_pair_81 rfl ?_
              refine j_get C 0 rfl rfl inX3 0 (by decide) kw_162 rfl rfl dX3_pair_82 ?_
              refine j_iload C dX3_pair_85 rfl ?_
              refine j_iload C dX3_pair_87 rfl ?_
              refine j_iastore 1 C h rfl rfl dX3_pair_89 (fun h => ?_)
              refine j_ws (ws' := (w_X3_pair (gD g) q_this q_tried q_partners q_p1 q_p1_least w_p1_town w_p1_on w_p1_back s_65.2.1 (upd s_65.2.2.1 (Int32.toNatClampNeg e_37) s_65.1) s_65.2.2.2 v_p1_least)) rfl ?_
              refine j_aload_n C dX3_pair_90 rfl ?_
              refine j_get C 0 rfl rfl inX3 0 (by decide) kw_162 rfl rfl dX3_pair_91 ?_
              refine j_iload C dX3_pair_94 rfl ?_
              refine j_iload C dX3_pair_96 rfl ?_
              refine j_iastore 1 C h rfl rfl dX3_pair_98 (fun h => ?_)
              refine j_ws (ws' := (w_X3_pair (gD g) q_this q_tried q_partners q_p1 q_p1_least w_p1_town w_p1_on w_p1_back s_65.2.1 (upd (upd s_65.2.2.1 (Int32.toNatClampNeg e_37) s_65.1) (Int32.toNatClampNeg s_65.1) e_37) s_65.2.2.2 v_p1_least)) rfl ?_
              refine j_aload_n C dX3_pair_99 rfl ?_
              refine j_aload_n C dX3_pair_100 rfl ?_
              refine j_iload_n C dX3_pair_101 rfl ?_
              refine j_iconst C (1) dX3_pair_102 ki_1 ?_
              refine j_iload C dX3_pair_103 rfl ?_
              refine j_ishl C dX3_pair_105 ?_
              refine j_iconst C (-1) dX3_pair_106 ki_m1 ?_
              refine j_ixor C dX3_pair_107 ?_
              refine j_iand C dX3_pair_108 ?_
              refine j_iconst C (1) dX3_pair_109 ki_1 ?_
              refine j_iload C dX3_pair_110 rfl ?_
              refine j_ishl C dX3_pair_112 ?_
              refine j_iconst C (-1) dX3_pair_113 ki_m1 ?_
              refine j_ixor C dX3_pair_114 ?_
              refine j_iand C dX3_pair_115 ?_
              refine j_iload_n C dX3_pair_116 rfl ?_
              refine j_aload_n C dX3_pair_117 rfl ?_
              refine j_iload C dX3_pair_118 rfl ?_
              refine j_iload C dX3_pair_120 rfl ?_
              obtain ⟨r_between_1, h_1, h⟩ := of_bind h
              refine j_callV1 C mk_X8_between ms_X8_between kw_742 (c_X8_between (gl g) (gD g) h_1) (by omega) 3 rfl rfl [3, 4] rfl rfl rfl rfl rfl (Nat.le_of_ble_eq_true rfl) dX3_pair_122 ?_
              refine j_ws (ws' := (w_X3_pair (gD g) q_this q_tried q_partners q_p1 q_p1_least w_p1_town w_p1_on w_p1_back s_65.2.1 (upd (upd s_65.2.2.1 (Int32.toNatClampNeg e_37) s_65.1) (Int32.toNatClampNeg s_65.1) e_37) s_65.2.2.2 v_p1_least)) rfl ?_
              refine j_iadd C dX3_pair_125 ?_
              obtain ⟨r_pair_2, h_2, h⟩ := of_bind h
              refine j_callV0 C mk_X3_pair ms_X3_pair kw_737 (ih h_2) (by omega) 0 rfl rfl [0, 1, 2, 3, 4] rfl rfl rfl rfl rfl (Nat.le_of_ble_eq_true rfl) dX3_pair_126 ?_
              refine j_ws (ws' := (w_X3_pair (gD g) q_this q_tried q_partners q_p1 q_p1_least w_p1_town w_p1_on w_p1_back r_pair_2.1 r_pair_2.2.1 r_pair_2.2.2 v_p1_least)) rfl ?_
              refine j_inc C (1) dX3_pair_129 rfl ki_1 (by decide) ?_
              refine j_goto C 65 dX3_pair_132 (by decide) ?_
              cases h
              have hc9 := hc_65 _ rfl
              exact j_lw hc9 rfl
        refine j_lv (lv' := [(0, .ref q_this), (1, .ref q_p1), (2, .int (x2)), (3, .int (x3)), (4, .int ((0 : Int32)))]) rfl ?_
        refine lp_ind hl_37 (fun s_37 => J g (w_X3_pair (gD g) q_this q_tried q_partners q_p1 q_p1_least w_p1_town w_p1_on w_p1_back v_least v_tried v_partners v_p1_least) [(0, .ref q_this), (1, .ref q_p1), (2, .int (x2)), (3, .int (x3)), (4, .int (s_37))] 37 []) (fun s_37 r_37 h hc_37 hx_37 => ?_)
        unfold f_X3_pair_b37 at h
        refine j_iload C dX3_pair_37 rfl ?_
        refine j_bipush C (6) dX3_pair_39 kb_6 ?_
        refine j_icmp_ge C h 59 dX3_pair_41 (by decide) (fun hc h => ?_) (fun hc h => ?_)
        · cases h
          have h9 := hx_37 _ rfl
          subst h9
          exact j_lw ha_37 rfl
        · refine j_iload_n C dX3_pair_44 rfl ?_
          refine j_iload C dX3_pair_45 rfl ?_
          refine j_ishr C dX3_pair_47 ?_
          refine j_iconst C (1) dX3_pair_48 ki_1 ?_
          refine j_iand C dX3_pair_49 ?_
          refine j_if_ne C h 59 dX3_pair_50 (by decide) (fun hc h => ?_) (fun hc h => ?_)
          · refine j_inc C (1) dX3_pair_53 rfl ki_1 (by decide) ?_
            refine j_goto C 37 dX3_pair_56 (by decide) ?_
            cases h
            have hc9 := hc_37 _ rfl
            exact j_lw hc9 rfl
          · cases h
            have h9 := hx_37 _ rfl
            subst h9
            exact j_lw ha_37 rfl
    · cases h
      exact j_vret C E dX3_pair_8

def w_X3_seek (D : va_G) (q_this q_tried q_partners q_p1 q_p1_least : Nat) (w_p1_town w_p1_on w_p1_back : Value) (v_least : Int32) (v_tried : (Nat → Int32)) (v_partners : (Nat → Int32)) (v_p1_least : (Nat → Int32)) : va_W := [(q_this, .inr (2, [.ref q_tried, .ref q_partners, .int v_least])), (q_tried, .inl (D.1 100, 6, .inl v_tried)), (q_partners, .inl (D.1 100, 6, .inl v_partners)), (q_p1, .inr (7, [w_p1_town, w_p1_on, w_p1_back, .ref q_p1_least])), (q_p1_least, .inl (D.1 100, 36, .inl v_p1_least))]
def f_X3_seek_b8 (x3_8 : Int32) (v_tried_8 : (Nat → Int32)) (v_partners_8 : (Nat → Int32)) : Option ((Int32 × (Nat → Int32) × (Nat → Int32)) ⊕ ((Nat → Int32) × (Nat → Int32))) :=
  (if (6 : Int32) ≤ x3_8 then some (.inr (v_tried_8, v_partners_8)) else ga x3_8 6 (ga x3_8 6 (some (.inl (x3_8 + (1 : Int32), upd v_tried_8 (Int32.toNatClampNeg x3_8) (-9 : Int32), upd v_partners_8 (Int32.toNatClampNeg x3_8) (-9 : Int32))))))
def f_X3_seek (N : Nat) (x2 : Int32) (v_least : Int32) (v_tried : (Nat → Int32)) (v_partners : (Nat → Int32)) (v_p1_least : (Nat → Int32)) : Option (Int32 × (Nat → Int32) × (Nat → Int32)) :=
  (lp (fun s_8 => f_X3_seek_b8 s_8.1 s_8.2.1 s_8.2.2) N ((0 : Int32), v_tried, v_partners)).bind (fun e_8 => (f_X3_pair N 8 x2 (0 : Int32) (1000000 : Int32) e_8.1 e_8.2 v_p1_least).bind (fun r_pair_1 => some (r_pair_1.1, r_pair_1.2.1, r_pair_1.2.2)))
set_option maxRecDepth 100000 in
set_option maxHeartbeats 4000000 in
theorem c_X3_seek (l : Launch) (D : va_G) (N : Nat) {q_this q_tried q_partners q_p1 q_p1_least : Nat} {w_p1_town w_p1_on w_p1_back : Value} {v_least : Int32} {v_tried : (Nat → Int32)} {v_partners : (Nat → Int32)} {v_p1_least : (Nat → Int32)} {x2 : Int32} {o : (Int32 × (Nat → Int32) × (Nat → Int32))} (h : f_X3_seek N x2 v_least v_tried v_partners v_p1_least = some o) : CT l D yX3_seek cX3_seek 4 (Option.none : Option FieldType) 10 [.ref q_this, .ref q_p1, .int x2] (w_X3_seek D q_this q_tried q_partners q_p1 q_p1_least w_p1_town w_p1_on w_p1_back v_least v_tried v_partners v_p1_least) (w_X3_seek D q_this q_tried q_partners q_p1 q_p1_least w_p1_town w_p1_on w_p1_back o.1 o.2.1 o.2.2 v_p1_least) (none) := by
  refine CT.of mk_X3_seek (Nat.le_of_ble_eq_true rfl) (fun g hl hD C E => ?_)
  subst hl
  subst hD
  unfold f_X3_seek at h
  refine j_aload_n C dX3_seek_0 rfl ?_
  refine j_ldc C kw_161 dX3_seek_1 ?_
  refine j_put C 0 rfl rfl inX3 tyX3_ok nmX3 2 (by decide) kw_164 rfl rfl rfl rfl (Nat.le_of_ble_eq_true rfl) dX3_seek_3 ?_
  refine j_ws (ws' := (w_X3_seek (gD g) q_this q_tried q_partners q_p1 q_p1_least w_p1_town w_p1_on w_p1_back ((1000000 : Int32)) v_tried v_partners v_p1_least)) rfl ?_
  refine j_iconst C (0) dX3_seek_6 ki_0 ?_
  refine j_istore_n C dX3_seek_7 (by decide) ?_
  obtain ⟨e_8, hl_8, h⟩ := of_bind h
  have ha_8 : J g (w_X3_seek (gD g) q_this q_tried q_partners q_p1 q_p1_least w_p1_town w_p1_on w_p1_back ((1000000 : Int32)) e_8.1 e_8.2 v_p1_least) [(0, .ref q_this), (1, .ref q_p1), (2, .int (x2))] 36 [] := by
    refine j_aload_n C dX3_seek_36 rfl ?_
    refine j_aload_n C dX3_seek_37 rfl ?_
    refine j_iload_n C dX3_seek_38 rfl ?_
    refine j_iconst C (0) dX3_seek_39 ki_0 ?_
    obtain ⟨r_pair_1, h_1, h⟩ := of_bind h
    refine j_callV0 C mk_X3_pair ms_X3_pair kw_737 (c_X3_pair (gl g) (gD g) N 8 h_1) (by decide) 0 rfl rfl [0, 1, 2, 3, 4] rfl rfl rfl rfl rfl (Nat.le_of_ble_eq_true rfl) dX3_seek_40 ?_
    refine j_ws (ws' := (w_X3_seek (gD g) q_this q_tried q_partners q_p1 q_p1_least w_p1_town w_p1_on w_p1_back r_pair_1.1 r_pair_1.2.1 r_pair_1.2.2 v_p1_least)) rfl ?_
    cases h
    exact j_vret C E dX3_seek_43
  refine j_lv (lv' := [(0, .ref q_this), (1, .ref q_p1), (2, .int (x2)), (3, .int ((0 : Int32)))]) rfl ?_
  refine lp_ind hl_8 (fun s_8 => J g (w_X3_seek (gD g) q_this q_tried q_partners q_p1 q_p1_least w_p1_town w_p1_on w_p1_back ((1000000 : Int32)) s_8.2.1 s_8.2.2 v_p1_least) [(0, .ref q_this), (1, .ref q_p1), (2, .int (x2)), (3, .int (s_8.1))] 8 []) (fun s_8 r_8 h hc_8 hx_8 => ?_)
  unfold f_X3_seek_b8 at h
  refine j_iload_n C dX3_seek_8 rfl ?_
  refine j_bipush C (6) dX3_seek_9 kb_6 ?_
  refine j_icmp_ge C h 36 dX3_seek_11 (by decide) (fun hc h => ?_) (fun hc h => ?_)
  · cases h
    have h9 := hx_8 _ rfl
    subst h9
    exact j_lw ha_8 rfl
  · refine j_aload_n C dX3_seek_14 rfl ?_
    refine j_get C 0 rfl rfl inX3 0 (by decide) kw_162 rfl rfl dX3_seek_15 ?_
    refine j_iload_n C dX3_seek_18 rfl ?_
    refine j_bipush C (-9) dX3_seek_19 kb_m9 ?_
    refine j_iastore 1 C h rfl rfl dX3_seek_21 (fun h => ?_)
    refine j_ws (ws' := (w_X3_seek (gD g) q_this q_tried q_partners q_p1 q_p1_least w_p1_town w_p1_on w_p1_back ((1000000 : Int32)) (upd s_8.2.1 (Int32.toNatClampNeg s_8.1) (-9 : Int32)) s_8.2.2 v_p1_least)) rfl ?_
    refine j_aload_n C dX3_seek_22 rfl ?_
    refine j_get C 0 rfl rfl inX3 1 (by decide) kw_163 rfl rfl dX3_seek_23 ?_
    refine j_iload_n C dX3_seek_26 rfl ?_
    refine j_bipush C (-9) dX3_seek_27 kb_m9 ?_
    refine j_iastore 2 C h rfl rfl dX3_seek_29 (fun h => ?_)
    refine j_ws (ws' := (w_X3_seek (gD g) q_this q_tried q_partners q_p1 q_p1_least w_p1_town w_p1_on w_p1_back ((1000000 : Int32)) (upd s_8.2.1 (Int32.toNatClampNeg s_8.1) (-9 : Int32)) (upd s_8.2.2 (Int32.toNatClampNeg s_8.1) (-9 : Int32)) v_p1_least)) rfl ?_
    refine j_inc C (1) dX3_seek_30 rfl ki_1 (by decide) ?_
    refine j_goto C 8 dX3_seek_33 (by decide) ?_
    cases h
    have hc9 := hc_8 _ rfl
    exact j_lw hc9 rfl

def w_X3_partnerOf (D : va_G) (q_this q_partners : Nat) (w_tried : Value) (v_least : Int32) (v_partners : (Nat → Int32)) : va_W := [(q_this, .inr (2, [w_tried, .ref q_partners, .int v_least])), (q_partners, .inl (D.1 100, 6, .inl v_partners))]
def f_X3_partnerOf (x1 : Int32) (v_partners : (Nat → Int32)) : Option Int32 :=
  ga x1 6 (some (v_partners (Int32.toNatClampNeg x1)))
set_option maxRecDepth 100000 in
set_option maxHeartbeats 4000000 in
theorem c_X3_partnerOf (l : Launch) (D : va_G) {q_this q_partners : Nat} {w_tried : Value} {v_least : Int32} {v_partners : (Nat → Int32)} {x1 : Int32} {o : Int32} (h : f_X3_partnerOf x1 v_partners = some o) : CT l D yX3_partnerOf cX3_partnerOf 2 (Option.some FieldType.int) 0 [.ref q_this, .int x1] (w_X3_partnerOf D q_this q_partners w_tried v_least v_partners) (w_X3_partnerOf D q_this q_partners w_tried v_least v_partners) (some (.int o)) := by
  refine CT.of mk_X3_partnerOf (Nat.le_of_ble_eq_true rfl) (fun g hl hD C E => ?_)
  subst hl
  subst hD
  unfold f_X3_partnerOf at h
  refine j_aload_n C dX3_partnerOf_0 rfl ?_
  refine j_get C 0 rfl rfl inX3 1 (by decide) kw_163 rfl rfl dX3_partnerOf_1 ?_
  refine j_iload_n C dX3_partnerOf_4 rfl ?_
  refine j_iaload 1 C h rfl rfl dX3_partnerOf_5 (fun h => ?_)
  cases h
  exact j_iret C E dX3_partnerOf_6

def w_X5_leastLeft (D : va_G) (q_this q_left q_p1 q_p1_froms q_p1_tos : Nat) (w_part w_corners w_p1_lengths w_p1_kinds w_p1_figures : Value) (v_partSize : Int32) (v_size : Int32) (v_left : (Nat → Int32)) (v_p1_closed : Int32) (v_p1_size : Int32) (v_p1_home : Int32) (v_p1_froms : (Nat → Int32)) (v_p1_tos : (Nat → Int32)) : va_W := [(q_this, .inr (4, [.ref q_left, w_part, .int v_partSize, w_corners, .int v_size])), (q_left, .inl (D.1 100, 8, .inl v_left)), (q_p1, .inr (6, [.ref q_p1_froms, .ref q_p1_tos, w_p1_lengths, w_p1_kinds, w_p1_figures, .int v_p1_closed, .int v_p1_size, .int v_p1_home])), (q_p1_froms, .inl (D.1 100, 8, .inl v_p1_froms)), (q_p1_tos, .inl (D.1 100, 8, .inl v_p1_tos))]
def f_X5_leastLeft_b2 (v_p1_size : Int32) (x3_2 : Int32) (v_left : (Nat → Int32)) (x2 : Int32) (v_p1_froms : (Nat → Int32)) (v_p1_tos : (Nat → Int32)) : Option (Int32 ⊕ (Unit ⊕ Int32)) :=
  (if v_p1_size ≤ x3_2 then some (.inr (.inl ())) else ga x3_2 8 ((if (v_left (Int32.toNatClampNeg x3_2)) ≤ 0 then some (.inl (x3_2 + (1 : Int32))) else (f_X7_touches x3_2 x2 v_p1_froms v_p1_tos).bind (fun r_touches_1 => (if r_touches_1 = 0 then some (.inl (x3_2 + (1 : Int32))) else some (.inr (.inr x3_2)))))))
def f_X5_leastLeft (N : Nat) (x2 : Int32) (v_left : (Nat → Int32)) (v_p1_size : Int32) (v_p1_froms : (Nat → Int32)) (v_p1_tos : (Nat → Int32)) : Option Int32 :=
  (lp (fun s_2 => f_X5_leastLeft_b2 v_p1_size s_2 v_left x2 v_p1_froms v_p1_tos) N ((0 : Int32))).bind (fun e_2 => match e_2 with | .inl x_2 => some (-9 : Int32) | .inr o_2 => some o_2)
set_option maxRecDepth 100000 in
set_option maxHeartbeats 4000000 in
theorem c_X5_leastLeft (l : Launch) (D : va_G) (N : Nat) {q_this q_left q_p1 q_p1_froms q_p1_tos : Nat} {w_part w_corners w_p1_lengths w_p1_kinds w_p1_figures : Value} {v_partSize : Int32} {v_size : Int32} {v_left : (Nat → Int32)} {v_p1_closed : Int32} {v_p1_size : Int32} {v_p1_home : Int32} {v_p1_froms : (Nat → Int32)} {v_p1_tos : (Nat → Int32)} {x2 : Int32} {o : Int32} (h : f_X5_leastLeft N x2 v_left v_p1_size v_p1_froms v_p1_tos = some o) : CT l D yX5_leastLeft cX5_leastLeft 4 (Option.some FieldType.int) 1 [.ref q_this, .ref q_p1, .int x2] (w_X5_leastLeft D q_this q_left q_p1 q_p1_froms q_p1_tos w_part w_corners w_p1_lengths w_p1_kinds w_p1_figures v_partSize v_size v_left v_p1_closed v_p1_size v_p1_home v_p1_froms v_p1_tos) (w_X5_leastLeft D q_this q_left q_p1 q_p1_froms q_p1_tos w_part w_corners w_p1_lengths w_p1_kinds w_p1_figures v_partSize v_size v_left v_p1_closed v_p1_size v_p1_home v_p1_froms v_p1_tos) (some (.int o)) := by
  refine CT.of mk_X5_leastLeft (Nat.le_of_ble_eq_true rfl) (fun g hl hD C E => ?_)
  subst hl
  subst hD
  unfold f_X5_leastLeft at h
  refine j_iconst C (0) dX5_leastLeft_0 ki_0 ?_
  refine j_istore_n C dX5_leastLeft_1 (by decide) ?_
  obtain ⟨e_2, hl_2, h⟩ := of_bind h
  have hR_2 : ∀ o9, Sum.inr o9 = e_2 → some o9 = some o := by
    intro o9 ho9
    rw [← ho9] at h
    exact h
  have ha_2 : ∀ x_2, Sum.inl x_2 = e_2 → J g (w_X5_leastLeft (gD g) q_this q_left q_p1 q_p1_froms q_p1_tos w_part w_corners w_p1_lengths w_p1_kinds w_p1_figures v_partSize v_size v_left v_p1_closed v_p1_size v_p1_home v_p1_froms v_p1_tos) [] 36 [] := by
    intro x_2 hx9
    rw [← hx9] at h
    dsimp only at h
    refine j_bipush C (-9) dX5_leastLeft_36 kb_m9 ?_
    cases h
    exact j_iret C E dX5_leastLeft_38
  refine j_lv (lv' := [(0, .ref q_this), (1, .ref q_p1), (2, .int (x2)), (3, .int ((0 : Int32)))]) rfl ?_
  refine lp_ind hl_2 (fun s_2 => J g (w_X5_leastLeft (gD g) q_this q_left q_p1 q_p1_froms q_p1_tos w_part w_corners w_p1_lengths w_p1_kinds w_p1_figures v_partSize v_size v_left v_p1_closed v_p1_size v_p1_home v_p1_froms v_p1_tos) [(0, .ref q_this), (1, .ref q_p1), (2, .int (x2)), (3, .int (s_2))] 2 []) (fun s_2 r_2 h hc_2 hx_2 => ?_)
  unfold f_X5_leastLeft_b2 at h
  refine j_iload_n C dX5_leastLeft_2 rfl ?_
  refine j_aload_n C dX5_leastLeft_3 rfl ?_
  refine j_get C 2 rfl rfl inX7 6 (by decide) kw_56 rfl rfl dX5_leastLeft_4 ?_
  refine j_icmp_ge C h 36 dX5_leastLeft_7 (by decide) (fun hc h => ?_) (fun hc h => ?_)
  · cases h
    have hx9 := hx_2 _ rfl
    have ha9 := ha_2 _ hx9
    exact j_lw ha9 rfl
  · refine j_aload_n C dX5_leastLeft_10 rfl ?_
    refine j_get C 0 rfl rfl inX5 0 (by decide) kw_179 rfl rfl dX5_leastLeft_11 ?_
    refine j_iload_n C dX5_leastLeft_14 rfl ?_
    refine j_iaload 1 C h rfl rfl dX5_leastLeft_15 (fun h => ?_)
    refine j_if_le C h 30 dX5_leastLeft_16 (by decide) (fun hc h => ?_) (fun hc h => ?_)
    · refine j_inc C (1) dX5_leastLeft_30 rfl ki_1 (by decide) ?_
      refine j_goto C 2 dX5_leastLeft_33 (by decide) ?_
      cases h
      have hc9 := hc_2 _ rfl
      exact j_lw hc9 rfl
    · refine j_aload_n C dX5_leastLeft_19 rfl ?_
      refine j_iload_n C dX5_leastLeft_20 rfl ?_
      refine j_iload_n C dX5_leastLeft_21 rfl ?_
      obtain ⟨r_touches_1, h_1, h⟩ := of_bind h
      refine j_callV1 C mk_X7_touches ms_X7_touches kw_779 (c_X7_touches (gl g) (gD g) h_1) (by decide) 2 rfl rfl [2, 3, 4] rfl rfl rfl rfl rfl (Nat.le_of_ble_eq_true rfl) dX5_leastLeft_22 ?_
      refine j_ws (ws' := (w_X5_leastLeft (gD g) q_this q_left q_p1 q_p1_froms q_p1_tos w_part w_corners w_p1_lengths w_p1_kinds w_p1_figures v_partSize v_size v_left v_p1_closed v_p1_size v_p1_home v_p1_froms v_p1_tos)) rfl ?_
      refine j_if_eq C h 30 dX5_leastLeft_25 (by decide) (fun hc h => ?_) (fun hc h => ?_)
      · refine j_inc C (1) dX5_leastLeft_30 rfl ki_1 (by decide) ?_
        refine j_goto C 2 dX5_leastLeft_33 (by decide) ?_
        cases h
        have hc9 := hc_2 _ rfl
        exact j_lw hc9 rfl
      · refine j_iload_n C dX5_leastLeft_28 rfl ?_
        cases h
        have h := hR_2 _ (hx_2 _ rfl)
        cases h
        exact j_iret C E dX5_leastLeft_29

def w_X5_firstLeft (D : va_G) (q_this q_left q_corners q_p1 q_p1_froms q_p1_tos : Nat) (w_part w_p1_lengths w_p1_kinds w_p1_figures : Value) (v_partSize : Int32) (v_size : Int32) (v_left : (Nat → Int32)) (v_corners : (Nat → Int32)) (v_p1_closed : Int32) (v_p1_size : Int32) (v_p1_home : Int32) (v_p1_froms : (Nat → Int32)) (v_p1_tos : (Nat → Int32)) : va_W := [(q_this, .inr (4, [.ref q_left, w_part, .int v_partSize, .ref q_corners, .int v_size])), (q_left, .inl (D.1 100, 8, .inl v_left)), (q_corners, .inl (D.1 100, 32, .inl v_corners)), (q_p1, .inr (6, [.ref q_p1_froms, .ref q_p1_tos, w_p1_lengths, w_p1_kinds, w_p1_figures, .int v_p1_closed, .int v_p1_size, .int v_p1_home])), (q_p1_froms, .inl (D.1 100, 8, .inl v_p1_froms)), (q_p1_tos, .inl (D.1 100, 8, .inl v_p1_tos))]
def f_X5_firstLeft_b2 (N : Nat) (v_size : Int32) (x2_2 : Int32) (v_corners : (Nat → Int32)) (v_left : (Nat → Int32)) (v_p1_size : Int32) (v_p1_froms : (Nat → Int32)) (v_p1_tos : (Nat → Int32)) : Option (Int32 ⊕ (Unit ⊕ Int32)) :=
  (if v_size ≤ x2_2 then some (.inr (.inl ())) else ga x2_2 32 ((f_X5_leastLeft N (v_corners (Int32.toNatClampNeg x2_2)) v_left v_p1_size v_p1_froms v_p1_tos).bind (fun r_leastLeft_1 => (if r_leastLeft_1 < 0 then some (.inl (x2_2 + (1 : Int32))) else some (.inr (.inr x2_2))))))
def f_X5_firstLeft (N : Nat) (v_size : Int32) (v_left : (Nat → Int32)) (v_corners : (Nat → Int32)) (v_p1_size : Int32) (v_p1_froms : (Nat → Int32)) (v_p1_tos : (Nat → Int32)) : Option Int32 :=
  (lp (fun s_2 => f_X5_firstLeft_b2 N v_size s_2 v_corners v_left v_p1_size v_p1_froms v_p1_tos) N ((0 : Int32))).bind (fun e_2 => match e_2 with | .inl x_2 => some (-9 : Int32) | .inr o_2 => some o_2)
set_option maxRecDepth 100000 in
set_option maxHeartbeats 4000000 in
theorem c_X5_firstLeft (l : Launch) (D : va_G) (N : Nat) {q_this q_left q_corners q_p1 q_p1_froms q_p1_tos : Nat} {w_part w_p1_lengths w_p1_kinds w_p1_figures : Value} {v_partSize : Int32} {v_size : Int32} {v_left : (Nat → Int32)} {v_corners : (Nat → Int32)} {v_p1_closed : Int32} {v_p1_size : Int32} {v_p1_home : Int32} {v_p1_froms : (Nat → Int32)} {v_p1_tos : (Nat → Int32)} {o : Int32} (h : f_X5_firstLeft N v_size v_left v_corners v_p1_size v_p1_froms v_p1_tos = some o) : CT l D yX5_firstLeft cX5_firstLeft 3 (Option.some FieldType.int) 2 [.ref q_this, .ref q_p1] (w_X5_firstLeft D q_this q_left q_corners q_p1 q_p1_froms q_p1_tos w_part w_p1_lengths w_p1_kinds w_p1_figures v_partSize v_size v_left v_corners v_p1_closed v_p1_size v_p1_home v_p1_froms v_p1_tos) (w_X5_firstLeft D q_this q_left q_corners q_p1 q_p1_froms q_p1_tos w_part w_p1_lengths w_p1_kinds w_p1_figures v_partSize v_size v_left v_corners v_p1_closed v_p1_size v_p1_home v_p1_froms v_p1_tos) (some (.int o)) := by
  refine CT.of mk_X5_firstLeft (Nat.le_of_ble_eq_true rfl) (fun g hl hD C E => ?_)
  subst hl
  subst hD
  unfold f_X5_firstLeft at h
  refine j_iconst C (0) dX5_firstLeft_0 ki_0 ?_
  refine j_istore_n C dX5_firstLeft_1 (by decide) ?_
  obtain ⟨e_2, hl_2, h⟩ := of_bind h
  have hR_2 : ∀ o9, Sum.inr o9 = e_2 → some o9 = some o := by
    intro o9 ho9
    rw [← ho9] at h
    exact h
  have ha_2 : ∀ x_2, Sum.inl x_2 = e_2 → J g (w_X5_firstLeft (gD g) q_this q_left q_corners q_p1 q_p1_froms q_p1_tos w_part w_p1_lengths w_p1_kinds w_p1_figures v_partSize v_size v_left v_corners v_p1_closed v_p1_size v_p1_home v_p1_froms v_p1_tos) [] 32 [] := by
    intro x_2 hx9
    rw [← hx9] at h
    dsimp only at h
    refine j_bipush C (-9) dX5_firstLeft_32 kb_m9 ?_
    cases h
    exact j_iret C E dX5_firstLeft_34
  refine j_lv (lv' := [(0, .ref q_this), (1, .ref q_p1), (2, .int ((0 : Int32)))]) rfl ?_
  refine lp_ind hl_2 (fun s_2 => J g (w_X5_firstLeft (gD g) q_this q_left q_corners q_p1 q_p1_froms q_p1_tos w_part w_p1_lengths w_p1_kinds w_p1_figures v_partSize v_size v_left v_corners v_p1_closed v_p1_size v_p1_home v_p1_froms v_p1_tos) [(0, .ref q_this), (1, .ref q_p1), (2, .int (s_2))] 2 []) (fun s_2 r_2 h hc_2 hx_2 => ?_)
  unfold f_X5_firstLeft_b2 at h
  refine j_iload_n C dX5_firstLeft_2 rfl ?_
  refine j_aload_n C dX5_firstLeft_3 rfl ?_
  refine j_get C 0 rfl rfl inX5 4 (by decide) kw_184 rfl rfl dX5_firstLeft_4 ?_
  refine j_icmp_ge C h 32 dX5_firstLeft_7 (by decide) (fun hc h => ?_) (fun hc h => ?_)
  · cases h
    have hx9 := hx_2 _ rfl
    have ha9 := ha_2 _ hx9
    exact j_lw ha9 rfl
  · refine j_aload_n C dX5_firstLeft_10 rfl ?_
    refine j_aload_n C dX5_firstLeft_11 rfl ?_
    refine j_aload_n C dX5_firstLeft_12 rfl ?_
    refine j_get C 0 rfl rfl inX5 3 (by decide) kw_182 rfl rfl dX5_firstLeft_13 ?_
    refine j_iload_n C dX5_firstLeft_16 rfl ?_
    refine j_iaload 2 C h rfl rfl dX5_firstLeft_17 (fun h => ?_)
    obtain ⟨r_leastLeft_1, h_1, h⟩ := of_bind h
    refine j_callV1 C mk_X5_leastLeft ms_X5_leastLeft kw_775 (c_X5_leastLeft (gl g) (gD g) N h_1) (by decide) 0 rfl rfl [0, 1, 3, 4, 5] rfl rfl rfl rfl rfl (Nat.le_of_ble_eq_true rfl) dX5_firstLeft_18 ?_
    refine j_ws (ws' := (w_X5_firstLeft (gD g) q_this q_left q_corners q_p1 q_p1_froms q_p1_tos w_part w_p1_lengths w_p1_kinds w_p1_figures v_partSize v_size v_left v_corners v_p1_closed v_p1_size v_p1_home v_p1_froms v_p1_tos)) rfl ?_
    refine j_if_lt C h 26 dX5_firstLeft_21 (by decide) (fun hc h => ?_) (fun hc h => ?_)
    · refine j_inc C (1) dX5_firstLeft_26 rfl ki_1 (by decide) ?_
      refine j_goto C 2 dX5_firstLeft_29 (by decide) ?_
      cases h
      have hc9 := hc_2 _ rfl
      exact j_lw hc9 rfl
    · refine j_iload_n C dX5_firstLeft_24 rfl ?_
      cases h
      have h := hR_2 _ (hx_2 _ rfl)
      cases h
      exact j_iret C E dX5_firstLeft_25

def w_X5_putIn (D : va_G) (q_this q_part q_corners : Nat) (w_left : Value) (v_partSize : Int32) (v_size : Int32) (v_part : (Nat → Int32)) (v_corners : (Nat → Int32)) : va_W := [(q_this, .inr (4, [w_left, .ref q_part, .int v_partSize, .ref q_corners, .int v_size])), (q_part, .inl (D.1 100, 32, .inl v_part)), (q_corners, .inl (D.1 100, 32, .inl v_corners))]
def f_X5_putIn (x1 : Int32) (v_partSize : Int32) (v_size : Int32) (v_part : (Nat → Int32)) (v_corners : (Nat → Int32)) : Option (Int32 × (Nat → Int32)) :=
  (if (v_size + v_partSize) ≤ (32 : Int32) then gcp (x1 + (1 : Int32)) ((x1 + (1 : Int32)) + v_partSize) ((v_size - x1) - (1 : Int32)) 32 32 (gcp (0 : Int32) (x1 + (1 : Int32)) v_partSize 32 32 (some (v_size + v_partSize, va_cpy v_part (va_cpy v_corners v_corners (Int32.toNatClampNeg (x1 + (1 : Int32))) (Int32.toNatClampNeg ((x1 + (1 : Int32)) + v_partSize)) (Int32.toNatClampNeg ((v_size - x1) - (1 : Int32)))) (Int32.toNatClampNeg (0 : Int32)) (Int32.toNatClampNeg (x1 + (1 : Int32))) (Int32.toNatClampNeg v_partSize)))) else some (v_size, v_corners))
set_option maxRecDepth 100000 in
set_option maxHeartbeats 4000000 in
theorem c_X5_putIn (l : Launch) (D : va_G) {q_this q_part q_corners : Nat} {w_left : Value} {v_partSize : Int32} {v_size : Int32} {v_part : (Nat → Int32)} {v_corners : (Nat → Int32)} {x1 : Int32} {o : (Int32 × (Nat → Int32))} (h : f_X5_putIn x1 v_partSize v_size v_part v_corners = some o) : CT l D yX5_putIn cX5_putIn 3 (Option.none : Option FieldType) 1 [.ref q_this, .int x1] (w_X5_putIn D q_this q_part q_corners w_left v_partSize v_size v_part v_corners) (w_X5_putIn D q_this q_part q_corners w_left v_partSize o.1 v_part o.2) (none) := by
  refine CT.of mk_X5_putIn (Nat.le_of_ble_eq_true rfl) (fun g hl hD C E => ?_)
  subst hl
  subst hD
  unfold f_X5_putIn at h
  refine j_aload_n C dX5_putIn_0 rfl ?_
  refine j_get C 0 rfl rfl inX5 4 (by decide) kw_184 rfl rfl dX5_putIn_1 ?_
  refine j_aload_n C dX5_putIn_4 rfl ?_
  refine j_get C 0 rfl rfl inX5 2 (by decide) kw_181 rfl rfl dX5_putIn_5 ?_
  refine j_iadd C dX5_putIn_8 ?_
  refine j_bipush C (32) dX5_putIn_9 kb_32 ?_
  refine j_icmp_le C h 15 dX5_putIn_11 (by decide) (fun hc h => ?_) (fun hc h => ?_)
  · refine j_aload_n C dX5_putIn_15 rfl ?_
    refine j_get C 0 rfl rfl inX5 4 (by decide) kw_184 rfl rfl dX5_putIn_16 ?_
    refine j_iload_n C dX5_putIn_19 rfl ?_
    refine j_isub C dX5_putIn_20 ?_
    refine j_iconst C (1) dX5_putIn_21 ki_1 ?_
    refine j_isub C dX5_putIn_22 ?_
    refine j_istore_n C dX5_putIn_23 (by decide) ?_
    refine j_aload_n C dX5_putIn_24 rfl ?_
    refine j_get C 0 rfl rfl inX5 3 (by decide) kw_182 rfl rfl dX5_putIn_25 ?_
    refine j_iload_n C dX5_putIn_28 rfl ?_
    refine j_iconst C (1) dX5_putIn_29 ki_1 ?_
    refine j_iadd C dX5_putIn_30 ?_
    refine j_aload_n C dX5_putIn_31 rfl ?_
    refine j_get C 0 rfl rfl inX5 3 (by decide) kw_182 rfl rfl dX5_putIn_32 ?_
    refine j_iload_n C dX5_putIn_35 rfl ?_
    refine j_iconst C (1) dX5_putIn_36 ki_1 ?_
    refine j_iadd C dX5_putIn_37 ?_
    refine j_aload_n C dX5_putIn_38 rfl ?_
    refine j_get C 0 rfl rfl inX5 2 (by decide) kw_181 rfl rfl dX5_putIn_39 ?_
    refine j_iadd C dX5_putIn_42 ?_
    refine j_iload_n C dX5_putIn_43 rfl ?_
    refine j_acopy 2 2 C h (by decide) kw_784 kw_411 kw_410 kw_15 rfl rfl rfl rfl (Nat.le_of_ble_eq_true rfl) dX5_putIn_44 (fun h => ?_)
    refine j_ws (ws' := (w_X5_putIn (gD g) q_this q_part q_corners w_left v_partSize v_size v_part (va_cpy v_corners v_corners (Int32.toNatClampNeg (x1 + (1 : Int32))) (Int32.toNatClampNeg ((x1 + (1 : Int32)) + v_partSize)) (Int32.toNatClampNeg ((v_size - x1) - (1 : Int32)))))) rfl ?_
    refine j_aload_n C dX5_putIn_47 rfl ?_
    refine j_get C 0 rfl rfl inX5 1 (by decide) kw_180 rfl rfl dX5_putIn_48 ?_
    refine j_iconst C (0) dX5_putIn_51 ki_0 ?_
    refine j_aload_n C dX5_putIn_52 rfl ?_
    refine j_get C 0 rfl rfl inX5 3 (by decide) kw_182 rfl rfl dX5_putIn_53 ?_
    refine j_iload_n C dX5_putIn_56 rfl ?_
    refine j_iconst C (1) dX5_putIn_57 ki_1 ?_
    refine j_iadd C dX5_putIn_58 ?_
    refine j_aload_n C dX5_putIn_59 rfl ?_
    refine j_get C 0 rfl rfl inX5 2 (by decide) kw_181 rfl rfl dX5_putIn_60 ?_
    refine j_acopy 1 2 C h (by decide) kw_784 kw_411 kw_410 kw_15 rfl rfl rfl rfl (Nat.le_of_ble_eq_true rfl) dX5_putIn_63 (fun h => ?_)
    refine j_ws (ws' := (w_X5_putIn (gD g) q_this q_part q_corners w_left v_partSize v_size v_part (va_cpy v_part (va_cpy v_corners v_corners (Int32.toNatClampNeg (x1 + (1 : Int32))) (Int32.toNatClampNeg ((x1 + (1 : Int32)) + v_partSize)) (Int32.toNatClampNeg ((v_size - x1) - (1 : Int32)))) (Int32.toNatClampNeg (0 : Int32)) (Int32.toNatClampNeg (x1 + (1 : Int32))) (Int32.toNatClampNeg v_partSize)))) rfl ?_
    refine j_aload_n C dX5_putIn_66 rfl ?_
    refine j_dup C dX5_putIn_67 rfl ?_
    refine j_get C 0 rfl rfl inX5 4 (by decide) kw_184 rfl rfl dX5_putIn_68 ?_
    refine j_aload_n C dX5_putIn_71 rfl ?_
    refine j_get C 0 rfl rfl inX5 2 (by decide) kw_181 rfl rfl dX5_putIn_72 ?_
    refine j_iadd C dX5_putIn_75 ?_
    refine j_put C 0 rfl rfl inX5 tyX5_ok nmX5 4 (by decide) kw_184 rfl rfl rfl rfl (Nat.le_of_ble_eq_true rfl) dX5_putIn_76 ?_
    refine j_ws (ws' := (w_X5_putIn (gD g) q_this q_part q_corners w_left v_partSize (v_size + v_partSize) v_part (va_cpy v_part (va_cpy v_corners v_corners (Int32.toNatClampNeg (x1 + (1 : Int32))) (Int32.toNatClampNeg ((x1 + (1 : Int32)) + v_partSize)) (Int32.toNatClampNeg ((v_size - x1) - (1 : Int32)))) (Int32.toNatClampNeg (0 : Int32)) (Int32.toNatClampNeg (x1 + (1 : Int32))) (Int32.toNatClampNeg v_partSize)))) rfl ?_
    cases h
    exact j_vret C E dX5_putIn_79
  · cases h
    exact j_vret C E dX5_putIn_14

def w_X5_walk (D : va_G) (q_this q_left q_part q_p1 q_p1_froms q_p1_tos : Nat) (w_corners w_p1_lengths w_p1_kinds w_p1_figures : Value) (v_partSize : Int32) (v_size : Int32) (v_left : (Nat → Int32)) (v_part : (Nat → Int32)) (v_p1_closed : Int32) (v_p1_size : Int32) (v_p1_home : Int32) (v_p1_froms : (Nat → Int32)) (v_p1_tos : (Nat → Int32)) : va_W := [(q_this, .inr (4, [.ref q_left, .ref q_part, .int v_partSize, w_corners, .int v_size])), (q_left, .inl (D.1 100, 8, .inl v_left)), (q_part, .inl (D.1 100, 32, .inl v_part)), (q_p1, .inr (6, [.ref q_p1_froms, .ref q_p1_tos, w_p1_lengths, w_p1_kinds, w_p1_figures, .int v_p1_closed, .int v_p1_size, .int v_p1_home])), (q_p1_froms, .inl (D.1 100, 8, .inl v_p1_froms)), (q_p1_tos, .inl (D.1 100, 8, .inl v_p1_tos))]
def f_X5_walk_b15 (N : Nat) (x4_15 : Int32) (v_partSize_15 : Int32) (v_left_15 : (Nat → Int32)) (v_part_15 : (Nat → Int32)) (x3_15 : Int32) (v_p1_froms : (Nat → Int32)) (v_p1_tos : (Nat → Int32)) (v_p1_size : Int32) : Option ((Int32 × Int32 × Int32 × (Nat → Int32) × (Nat → Int32)) ⊕ (Int32 × (Nat → Int32) × (Nat → Int32))) :=
  (if x4_15 < 0 then some (.inr (v_partSize_15, v_left_15, v_part_15)) else (if (32 : Int32) ≤ v_partSize_15 then some (.inr (v_partSize_15, v_left_15, v_part_15)) else ga x4_15 8 (ga x4_15 8 ((f_X7_otherEnd x4_15 x3_15 v_p1_froms v_p1_tos).bind (fun r_otherEnd_2 => ga v_partSize_15 32 ((f_X5_leastLeft N r_otherEnd_2 (upd v_left_15 (Int32.toNatClampNeg x4_15) ((v_left_15 (Int32.toNatClampNeg x4_15)) - (1 : Int32))) v_p1_size v_p1_froms v_p1_tos).bind (fun r_leastLeft_3 => some (.inl (r_otherEnd_2, r_leastLeft_3, v_partSize_15 + (1 : Int32), upd v_left_15 (Int32.toNatClampNeg x4_15) ((v_left_15 (Int32.toNatClampNeg x4_15)) - (1 : Int32)), upd v_part_15 (Int32.toNatClampNeg v_partSize_15) r_otherEnd_2)))))))))
def f_X5_walk (N : Nat) (x2 : Int32) (v_partSize : Int32) (v_left : (Nat → Int32)) (v_part : (Nat → Int32)) (v_p1_size : Int32) (v_p1_froms : (Nat → Int32)) (v_p1_tos : (Nat → Int32)) : Option (Int32 × (Nat → Int32) × (Nat → Int32)) :=
  (f_X5_leastLeft N x2 v_left v_p1_size v_p1_froms v_p1_tos).bind (fun r_leastLeft_1 => (lp (fun s_15 => f_X5_walk_b15 N s_15.2.1 s_15.2.2.1 s_15.2.2.2.1 s_15.2.2.2.2 s_15.1 v_p1_froms v_p1_tos v_p1_size) N (x2, r_leastLeft_1, (0 : Int32), v_left, v_part)).bind (fun e_15 => some (e_15.1, e_15.2.1, e_15.2.2)))
set_option maxRecDepth 100000 in
set_option maxHeartbeats 4000000 in
theorem c_X5_walk (l : Launch) (D : va_G) (N : Nat) {q_this q_left q_part q_p1 q_p1_froms q_p1_tos : Nat} {w_corners w_p1_lengths w_p1_kinds w_p1_figures : Value} {v_partSize : Int32} {v_size : Int32} {v_left : (Nat → Int32)} {v_part : (Nat → Int32)} {v_p1_closed : Int32} {v_p1_size : Int32} {v_p1_home : Int32} {v_p1_froms : (Nat → Int32)} {v_p1_tos : (Nat → Int32)} {x2 : Int32} {o : (Int32 × (Nat → Int32) × (Nat → Int32))} (h : f_X5_walk N x2 v_partSize v_left v_part v_p1_size v_p1_froms v_p1_tos = some o) : CT l D yX5_walk cX5_walk 5 (Option.none : Option FieldType) 2 [.ref q_this, .ref q_p1, .int x2] (w_X5_walk D q_this q_left q_part q_p1 q_p1_froms q_p1_tos w_corners w_p1_lengths w_p1_kinds w_p1_figures v_partSize v_size v_left v_part v_p1_closed v_p1_size v_p1_home v_p1_froms v_p1_tos) (w_X5_walk D q_this q_left q_part q_p1 q_p1_froms q_p1_tos w_corners w_p1_lengths w_p1_kinds w_p1_figures o.1 v_size o.2.1 o.2.2 v_p1_closed v_p1_size v_p1_home v_p1_froms v_p1_tos) (none) := by
  refine CT.of mk_X5_walk (Nat.le_of_ble_eq_true rfl) (fun g hl hD C E => ?_)
  subst hl
  subst hD
  unfold f_X5_walk at h
  refine j_iload_n C dX5_walk_0 rfl ?_
  refine j_istore_n C dX5_walk_1 (by decide) ?_
  refine j_aload_n C dX5_walk_2 rfl ?_
  refine j_aload_n C dX5_walk_3 rfl ?_
  refine j_iload_n C dX5_walk_4 rfl ?_
  obtain ⟨r_leastLeft_1, h_1, h⟩ := of_bind h
  refine j_callV1 C mk_X5_leastLeft ms_X5_leastLeft kw_775 (c_X5_leastLeft (gl g) (gD g) N h_1) (by decide) 0 rfl rfl [0, 1, 3, 4, 5] rfl rfl rfl rfl rfl (Nat.le_of_ble_eq_true rfl) dX5_walk_5 ?_
  refine j_ws (ws' := (w_X5_walk (gD g) q_this q_left q_part q_p1 q_p1_froms q_p1_tos w_corners w_p1_lengths w_p1_kinds w_p1_figures v_partSize v_size v_left v_part v_p1_closed v_p1_size v_p1_home v_p1_froms v_p1_tos)) rfl ?_
  refine j_istore C dX5_walk_8 (by decide) ?_
  refine j_aload_n C dX5_walk_10 rfl ?_
  refine j_iconst C (0) dX5_walk_11 ki_0 ?_
  refine j_put C 0 rfl rfl inX5 tyX5_ok nmX5 2 (by decide) kw_181 rfl rfl rfl rfl (Nat.le_of_ble_eq_true rfl) dX5_walk_12 ?_
  refine j_ws (ws' := (w_X5_walk (gD g) q_this q_left q_part q_p1 q_p1_froms q_p1_tos w_corners w_p1_lengths w_p1_kinds w_p1_figures ((0 : Int32)) v_size v_left v_part v_p1_closed v_p1_size v_p1_home v_p1_froms v_p1_tos)) rfl ?_
  obtain ⟨e_15, hl_15, h⟩ := of_bind h
  have ha_15 : J g (w_X5_walk (gD g) q_this q_left q_part q_p1 q_p1_froms q_p1_tos w_corners w_p1_lengths w_p1_kinds w_p1_figures e_15.1 v_size e_15.2.1 e_15.2.2 v_p1_closed v_p1_size v_p1_home v_p1_froms v_p1_tos) [] 79 [] := by
    cases h
    exact j_vret C E dX5_walk_79
  refine j_lv (lv' := [(0, .ref q_this), (1, .ref q_p1), (3, .int (x2)), (4, .int (r_leastLeft_1))]) rfl ?_
  refine lp_ind hl_15 (fun s_15 => J g (w_X5_walk (gD g) q_this q_left q_part q_p1 q_p1_froms q_p1_tos w_corners w_p1_lengths w_p1_kinds w_p1_figures s_15.2.2.1 v_size s_15.2.2.2.1 s_15.2.2.2.2 v_p1_closed v_p1_size v_p1_home v_p1_froms v_p1_tos) [(0, .ref q_this), (1, .ref q_p1), (3, .int (s_15.1)), (4, .int (s_15.2.1))] 15 []) (fun s_15 r_15 h hc_15 hx_15 => ?_)
  unfold f_X5_walk_b15 at h
  refine j_iload C dX5_walk_15 rfl ?_
  refine j_if_lt C h 79 dX5_walk_17 (by decide) (fun hc h => ?_) (fun hc h => ?_)
  · cases h
    have h9 := hx_15 _ rfl
    subst h9
    exact j_lw ha_15 rfl
  · refine j_aload_n C dX5_walk_20 rfl ?_
    refine j_get C 0 rfl rfl inX5 2 (by decide) kw_181 rfl rfl dX5_walk_21 ?_
    refine j_bipush C (32) dX5_walk_24 kb_32 ?_
    refine j_icmp_ge C h 79 dX5_walk_26 (by decide) (fun hc h => ?_) (fun hc h => ?_)
    · cases h
      have h9 := hx_15 _ rfl
      subst h9
      exact j_lw ha_15 rfl
    · refine j_aload_n C dX5_walk_29 rfl ?_
      refine j_get C 0 rfl rfl inX5 0 (by decide) kw_179 rfl rfl dX5_walk_30 ?_
      refine j_iload C dX5_walk_33 rfl ?_
      refine j_dup2 C dX5_walk_35 rfl rfl ?_
      refine j_iaload 1 C h rfl rfl dX5_walk_36 (fun h => ?_)
      refine j_iconst C (1) dX5_walk_37 ki_1 ?_
      refine j_isub C dX5_walk_38 ?_
      refine j_iastore 1 C h rfl rfl dX5_walk_39 (fun h => ?_)
      refine j_ws (ws' := (w_X5_walk (gD g) q_this q_left q_part q_p1 q_p1_froms q_p1_tos w_corners w_p1_lengths w_p1_kinds w_p1_figures s_15.2.2.1 v_size (upd s_15.2.2.2.1 (Int32.toNatClampNeg s_15.2.1) ((s_15.2.2.2.1 (Int32.toNatClampNeg s_15.2.1)) - (1 : Int32))) s_15.2.2.2.2 v_p1_closed v_p1_size v_p1_home v_p1_froms v_p1_tos)) rfl ?_
      refine j_aload_n C dX5_walk_40 rfl ?_
      refine j_iload C dX5_walk_41 rfl ?_
      refine j_iload_n C dX5_walk_43 rfl ?_
      obtain ⟨r_otherEnd_2, h_2, h⟩ := of_bind h
      refine j_callV1 C mk_X7_otherEnd ms_X7_otherEnd kw_770 (c_X7_otherEnd (gl g) (gD g) h_2) (by decide) 3 rfl rfl [3, 4, 5] rfl rfl rfl rfl rfl (Nat.le_of_ble_eq_true rfl) dX5_walk_44 ?_
      refine j_ws (ws' := (w_X5_walk (gD g) q_this q_left q_part q_p1 q_p1_froms q_p1_tos w_corners w_p1_lengths w_p1_kinds w_p1_figures s_15.2.2.1 v_size (upd s_15.2.2.2.1 (Int32.toNatClampNeg s_15.2.1) ((s_15.2.2.2.1 (Int32.toNatClampNeg s_15.2.1)) - (1 : Int32))) s_15.2.2.2.2 v_p1_closed v_p1_size v_p1_home v_p1_froms v_p1_tos)) rfl ?_
      refine j_istore_n C dX5_walk_47 (by decide) ?_
      refine j_aload_n C dX5_walk_48 rfl ?_
      refine j_get C 0 rfl rfl inX5 1 (by decide) kw_180 rfl rfl dX5_walk_49 ?_
      refine j_aload_n C dX5_walk_52 rfl ?_
      refine j_get C 0 rfl rfl inX5 2 (by decide) kw_181 rfl rfl dX5_walk_53 ?_
      refine j_iload_n C dX5_walk_56 rfl ?_
      refine j_iastore 2 C h rfl rfl dX5_walk_57 (fun h => ?_)
      refine j_ws (ws' := (w_X5_walk (gD g) q_this q_left q_part q_p1 q_p1_froms q_p1_tos w_corners w_p1_lengths w_p1_kinds w_p1_figures s_15.2.2.1 v_size (upd s_15.2.2.2.1 (Int32.toNatClampNeg s_15.2.1) ((s_15.2.2.2.1 (Int32.toNatClampNeg s_15.2.1)) - (1 : Int32))) (upd s_15.2.2.2.2 (Int32.toNatClampNeg s_15.2.2.1) r_otherEnd_2) v_p1_closed v_p1_size v_p1_home v_p1_froms v_p1_tos)) rfl ?_
      refine j_aload_n C dX5_walk_58 rfl ?_
      refine j_dup C dX5_walk_59 rfl ?_
      refine j_get C 0 rfl rfl inX5 2 (by decide) kw_181 rfl rfl dX5_walk_60 ?_
      refine j_iconst C (1) dX5_walk_63 ki_1 ?_
      refine j_iadd C dX5_walk_64 ?_
      refine j_put C 0 rfl rfl inX5 tyX5_ok nmX5 2 (by decide) kw_181 rfl rfl rfl rfl (Nat.le_of_ble_eq_true rfl) dX5_walk_65 ?_
      refine j_ws (ws' := (w_X5_walk (gD g) q_this q_left q_part q_p1 q_p1_froms q_p1_tos w_corners w_p1_lengths w_p1_kinds w_p1_figures (s_15.2.2.1 + (1 : Int32)) v_size (upd s_15.2.2.2.1 (Int32.toNatClampNeg s_15.2.1) ((s_15.2.2.2.1 (Int32.toNatClampNeg s_15.2.1)) - (1 : Int32))) (upd s_15.2.2.2.2 (Int32.toNatClampNeg s_15.2.2.1) r_otherEnd_2) v_p1_closed v_p1_size v_p1_home v_p1_froms v_p1_tos)) rfl ?_
      refine j_aload_n C dX5_walk_68 rfl ?_
      refine j_aload_n C dX5_walk_69 rfl ?_
      refine j_iload_n C dX5_walk_70 rfl ?_
      obtain ⟨r_leastLeft_3, h_3, h⟩ := of_bind h
      refine j_callV1 C mk_X5_leastLeft ms_X5_leastLeft kw_775 (c_X5_leastLeft (gl g) (gD g) N h_3) (by decide) 0 rfl rfl [0, 1, 3, 4, 5] rfl rfl rfl rfl rfl (Nat.le_of_ble_eq_true rfl) dX5_walk_71 ?_
      refine j_ws (ws' := (w_X5_walk (gD g) q_this q_left q_part q_p1 q_p1_froms q_p1_tos w_corners w_p1_lengths w_p1_kinds w_p1_figures (s_15.2.2.1 + (1 : Int32)) v_size (upd s_15.2.2.2.1 (Int32.toNatClampNeg s_15.2.1) ((s_15.2.2.2.1 (Int32.toNatClampNeg s_15.2.1)) - (1 : Int32))) (upd s_15.2.2.2.2 (Int32.toNatClampNeg s_15.2.2.1) r_otherEnd_2) v_p1_closed v_p1_size v_p1_home v_p1_froms v_p1_tos)) rfl ?_
      refine j_istore C dX5_walk_74 (by decide) ?_
      refine j_goto C 15 dX5_walk_76 (by decide) ?_
      cases h
      have hc9 := hc_15 _ rfl
      exact j_lw hc9 rfl

def w_X5_layWay (D : va_G) (q_this q_left q_p1 q_p1_town q_p1_town_froms q_p1_town_tos q_p1_on q_p1_back q_p1_least : Nat) (w_part w_corners w_p1_town_lengths w_p1_town_kinds w_p1_town_figures : Value) (v_partSize : Int32) (v_size : Int32) (v_left : (Nat → Int32)) (v_p1_town_closed : Int32) (v_p1_town_size : Int32) (v_p1_town_home : Int32) (v_p1_town_froms : (Nat → Int32)) (v_p1_town_tos : (Nat → Int32)) (v_p1_on : (Nat → Int32)) (v_p1_back : (Nat → Int32)) (v_p1_least : (Nat → Int32)) : va_W := [(q_this, .inr (4, [.ref q_left, w_part, .int v_partSize, w_corners, .int v_size])), (q_left, .inl (D.1 100, 8, .inl v_left)), (q_p1, .inr (7, [.ref q_p1_town, .ref q_p1_on, .ref q_p1_back, .ref q_p1_least])), (q_p1_town, .inr (6, [.ref q_p1_town_froms, .ref q_p1_town_tos, w_p1_town_lengths, w_p1_town_kinds, w_p1_town_figures, .int v_p1_town_closed, .int v_p1_town_size, .int v_p1_town_home])), (q_p1_town_froms, .inl (D.1 100, 8, .inl v_p1_town_froms)), (q_p1_town_tos, .inl (D.1 100, 8, .inl v_p1_town_tos)), (q_p1_on, .inl (D.1 100, 8, .inl v_p1_on)), (q_p1_back, .inl (D.1 100, 8, .inl v_p1_back)), (q_p1_least, .inl (D.1 100, 36, .inl v_p1_least))]
def f_X5_layWay_b6 (N : Nat) (x5_6 : Int32) (v_left_6 : (Nat → Int32)) (x4_6 : Int32) (x3 : Int32) (v_p1_town_size : Int32) (v_p1_town_froms : (Nat → Int32)) (v_p1_town_tos : (Nat → Int32)) (v_p1_on : (Nat → Int32)) (v_p1_back : (Nat → Int32)) (v_p1_least : (Nat → Int32)) : Option ((Int32 × Int32 × (Nat → Int32)) ⊕ ((Nat → Int32) ⊕ (Nat → Int32))) :=
  (if (6 : Int32) ≤ x5_6 then some (.inr (.inl v_left_6)) else (if x4_6 = x3 then some (.inr (.inl v_left_6)) else (f_X8_firstOf N x4_6 x3 v_p1_town_size v_p1_town_froms v_p1_town_tos v_p1_on v_p1_back v_p1_least).bind (fun r_firstOf_1 => (if 0 ≤ r_firstOf_1 then ga r_firstOf_1 8 (ga r_firstOf_1 8 ((f_X7_otherEnd r_firstOf_1 x4_6 v_p1_town_froms v_p1_town_tos).bind (fun r_otherEnd_2 => some (.inl (r_otherEnd_2, x5_6 + (1 : Int32), upd v_left_6 (Int32.toNatClampNeg r_firstOf_1) ((v_left_6 (Int32.toNatClampNeg r_firstOf_1)) + (1 : Int32))))))) else some (.inr (.inr v_left_6))))))
def f_X5_layWay (N : Nat) (x2 : Int32) (x3 : Int32) (v_left : (Nat → Int32)) (v_p1_town_size : Int32) (v_p1_town_froms : (Nat → Int32)) (v_p1_town_tos : (Nat → Int32)) (v_p1_on : (Nat → Int32)) (v_p1_back : (Nat → Int32)) (v_p1_least : (Nat → Int32)) : Option (Nat → Int32) :=
  (lp (fun s_6 => f_X5_layWay_b6 N s_6.2.1 s_6.2.2 s_6.1 x3 v_p1_town_size v_p1_town_froms v_p1_town_tos v_p1_on v_p1_back v_p1_least) N (x2, (0 : Int32), v_left)).bind (fun e_6 => match e_6 with | .inl x_6 => some x_6 | .inr o_6 => some o_6)
set_option maxRecDepth 100000 in
set_option maxHeartbeats 4000000 in
theorem c_X5_layWay (l : Launch) (D : va_G) (N : Nat) {q_this q_left q_p1 q_p1_town q_p1_town_froms q_p1_town_tos q_p1_on q_p1_back q_p1_least : Nat} {w_part w_corners w_p1_town_lengths w_p1_town_kinds w_p1_town_figures : Value} {v_partSize : Int32} {v_size : Int32} {v_left : (Nat → Int32)} {v_p1_town_closed : Int32} {v_p1_town_size : Int32} {v_p1_town_home : Int32} {v_p1_town_froms : (Nat → Int32)} {v_p1_town_tos : (Nat → Int32)} {v_p1_on : (Nat → Int32)} {v_p1_back : (Nat → Int32)} {v_p1_least : (Nat → Int32)} {x2 : Int32} {x3 : Int32} {o : (Nat → Int32)} (h : f_X5_layWay N x2 x3 v_left v_p1_town_size v_p1_town_froms v_p1_town_tos v_p1_on v_p1_back v_p1_least = some o) : CT l D yX5_layWay cX5_layWay 7 (Option.none : Option FieldType) 2 [.ref q_this, .ref q_p1, .int x2, .int x3] (w_X5_layWay D q_this q_left q_p1 q_p1_town q_p1_town_froms q_p1_town_tos q_p1_on q_p1_back q_p1_least w_part w_corners w_p1_town_lengths w_p1_town_kinds w_p1_town_figures v_partSize v_size v_left v_p1_town_closed v_p1_town_size v_p1_town_home v_p1_town_froms v_p1_town_tos v_p1_on v_p1_back v_p1_least) (w_X5_layWay D q_this q_left q_p1 q_p1_town q_p1_town_froms q_p1_town_tos q_p1_on q_p1_back q_p1_least w_part w_corners w_p1_town_lengths w_p1_town_kinds w_p1_town_figures v_partSize v_size o v_p1_town_closed v_p1_town_size v_p1_town_home v_p1_town_froms v_p1_town_tos v_p1_on v_p1_back v_p1_least) (none) := by
  refine CT.of mk_X5_layWay (Nat.le_of_ble_eq_true rfl) (fun g hl hD C E => ?_)
  subst hl
  subst hD
  unfold f_X5_layWay at h
  refine j_iload_n C dX5_layWay_0 rfl ?_
  refine j_istore C dX5_layWay_1 (by decide) ?_
  refine j_iconst C (0) dX5_layWay_3 ki_0 ?_
  refine j_istore C dX5_layWay_4 (by decide) ?_
  obtain ⟨e_6, hl_6, h⟩ := of_bind h
  have hR_6 : ∀ o9, Sum.inr o9 = e_6 → some o9 = some o := by
    intro o9 ho9
    rw [← ho9] at h
    exact h
  have ha_6 : ∀ x_6, Sum.inl x_6 = e_6 → J g (w_X5_layWay (gD g) q_this q_left q_p1 q_p1_town q_p1_town_froms q_p1_town_tos q_p1_on q_p1_back q_p1_least w_part w_corners w_p1_town_lengths w_p1_town_kinds w_p1_town_figures v_partSize v_size x_6 v_p1_town_closed v_p1_town_size v_p1_town_home v_p1_town_froms v_p1_town_tos v_p1_on v_p1_back v_p1_least) [] 64 [] := by
    intro x_6 hx9
    rw [← hx9] at h
    dsimp only at h
    cases h
    exact j_vret C E dX5_layWay_64
  refine j_lv (lv' := [(0, .ref q_this), (1, .ref q_p1), (3, .int (x3)), (4, .int (x2)), (5, .int ((0 : Int32)))]) rfl ?_
  refine lp_ind hl_6 (fun s_6 => J g (w_X5_layWay (gD g) q_this q_left q_p1 q_p1_town q_p1_town_froms q_p1_town_tos q_p1_on q_p1_back q_p1_least w_part w_corners w_p1_town_lengths w_p1_town_kinds w_p1_town_figures v_partSize v_size s_6.2.2 v_p1_town_closed v_p1_town_size v_p1_town_home v_p1_town_froms v_p1_town_tos v_p1_on v_p1_back v_p1_least) [(0, .ref q_this), (1, .ref q_p1), (3, .int (x3)), (4, .int (s_6.1)), (5, .int (s_6.2.1))] 6 []) (fun s_6 r_6 h hc_6 hx_6 => ?_)
  unfold f_X5_layWay_b6 at h
  refine j_iload C dX5_layWay_6 rfl ?_
  refine j_bipush C (6) dX5_layWay_8 kb_6 ?_
  refine j_icmp_ge C h 64 dX5_layWay_10 (by decide) (fun hc h => ?_) (fun hc h => ?_)
  · cases h
    have hx9 := hx_6 _ rfl
    have ha9 := ha_6 _ hx9
    exact j_lw ha9 rfl
  · refine j_iload C dX5_layWay_13 rfl ?_
    refine j_iload_n C dX5_layWay_15 rfl ?_
    refine j_icmp_eq C h 64 dX5_layWay_16 (by decide) (fun hc h => ?_) (fun hc h => ?_)
    · cases h
      have hx9 := hx_6 _ rfl
      have ha9 := ha_6 _ hx9
      exact j_lw ha9 rfl
    · refine j_aload_n C dX5_layWay_19 rfl ?_
      refine j_iload C dX5_layWay_20 rfl ?_
      refine j_iload_n C dX5_layWay_22 rfl ?_
      obtain ⟨r_firstOf_1, h_1, h⟩ := of_bind h
      refine j_callV1 C mk_X8_firstOf ms_X8_firstOf kw_769 (c_X8_firstOf (gl g) (gD g) N h_1) (by decide) 2 rfl rfl [2, 3, 4, 5, 6, 7, 8] rfl rfl rfl rfl rfl (Nat.le_of_ble_eq_true rfl) dX5_layWay_23 ?_
      refine j_ws (ws' := (w_X5_layWay (gD g) q_this q_left q_p1 q_p1_town q_p1_town_froms q_p1_town_tos q_p1_on q_p1_back q_p1_least w_part w_corners w_p1_town_lengths w_p1_town_kinds w_p1_town_figures v_partSize v_size s_6.2.2 v_p1_town_closed v_p1_town_size v_p1_town_home v_p1_town_froms v_p1_town_tos v_p1_on v_p1_back v_p1_least)) rfl ?_
      refine j_istore C dX5_layWay_26 (by decide) ?_
      refine j_iload C dX5_layWay_28 rfl ?_
      refine j_if_ge C h 34 dX5_layWay_30 (by decide) (fun hc h => ?_) (fun hc h => ?_)
      · refine j_aload_n C dX5_layWay_34 rfl ?_
        refine j_get C 0 rfl rfl inX5 0 (by decide) kw_179 rfl rfl dX5_layWay_35 ?_
        refine j_iload C dX5_layWay_38 rfl ?_
        refine j_dup2 C dX5_layWay_40 rfl rfl ?_
        refine j_iaload 1 C h rfl rfl dX5_layWay_41 (fun h => ?_)
        refine j_iconst C (1) dX5_layWay_42 ki_1 ?_
        refine j_iadd C dX5_layWay_43 ?_
        refine j_iastore 1 C h rfl rfl dX5_layWay_44 (fun h => ?_)
        refine j_ws (ws' := (w_X5_layWay (gD g) q_this q_left q_p1 q_p1_town q_p1_town_froms q_p1_town_tos q_p1_on q_p1_back q_p1_least w_part w_corners w_p1_town_lengths w_p1_town_kinds w_p1_town_figures v_partSize v_size (upd s_6.2.2 (Int32.toNatClampNeg r_firstOf_1) ((s_6.2.2 (Int32.toNatClampNeg r_firstOf_1)) + (1 : Int32))) v_p1_town_closed v_p1_town_size v_p1_town_home v_p1_town_froms v_p1_town_tos v_p1_on v_p1_back v_p1_least)) rfl ?_
        refine j_aload_n C dX5_layWay_45 rfl ?_
        refine j_get C 2 rfl rfl inX8 0 (by decide) kw_93 rfl rfl dX5_layWay_46 ?_
        refine j_iload C dX5_layWay_49 rfl ?_
        refine j_iload C dX5_layWay_51 rfl ?_
        obtain ⟨r_otherEnd_2, h_2, h⟩ := of_bind h
        refine j_callV1 C mk_X7_otherEnd ms_X7_otherEnd kw_770 (c_X7_otherEnd (gl g) (gD g) h_2) (by decide) 3 rfl rfl [3, 4, 5] rfl rfl rfl rfl rfl (Nat.le_of_ble_eq_true rfl) dX5_layWay_53 ?_
        refine j_ws (ws' := (w_X5_layWay (gD g) q_this q_left q_p1 q_p1_town q_p1_town_froms q_p1_town_tos q_p1_on q_p1_back q_p1_least w_part w_corners w_p1_town_lengths w_p1_town_kinds w_p1_town_figures v_partSize v_size (upd s_6.2.2 (Int32.toNatClampNeg r_firstOf_1) ((s_6.2.2 (Int32.toNatClampNeg r_firstOf_1)) + (1 : Int32))) v_p1_town_closed v_p1_town_size v_p1_town_home v_p1_town_froms v_p1_town_tos v_p1_on v_p1_back v_p1_least)) rfl ?_
        refine j_istore C dX5_layWay_56 (by decide) ?_
        refine j_inc C (1) dX5_layWay_58 rfl ki_1 (by decide) ?_
        refine j_goto C 6 dX5_layWay_61 (by decide) ?_
        cases h
        have hc9 := hc_6 _ rfl
        exact j_lw hc9 rfl
      · cases h
        have h := hR_6 _ (hx_6 _ rfl)
        cases h
        exact j_vret C E dX5_layWay_33

def w_X5_lay (D : va_G) (q_this q_left q_p1 q_p1_town q_p1_town_froms q_p1_town_tos q_p1_town_kinds q_p1_on q_p1_back q_p1_least q_p2 q_p2_partners : Nat) (w_part w_corners w_p1_town_lengths w_p1_town_figures w_p2_tried : Value) (v_partSize : Int32) (v_size : Int32) (v_left : (Nat → Int32)) (v_p1_town_closed : Int32) (v_p1_town_size : Int32) (v_p1_town_home : Int32) (v_p1_town_froms : (Nat → Int32)) (v_p1_town_tos : (Nat → Int32)) (v_p1_town_kinds : (Nat → Int32)) (v_p1_on : (Nat → Int32)) (v_p1_back : (Nat → Int32)) (v_p1_least : (Nat → Int32)) (v_p2_least : Int32) (v_p2_partners : (Nat → Int32)) : va_W := [(q_this, .inr (4, [.ref q_left, w_part, .int v_partSize, w_corners, .int v_size])), (q_left, .inl (D.1 100, 8, .inl v_left)), (q_p1, .inr (7, [.ref q_p1_town, .ref q_p1_on, .ref q_p1_back, .ref q_p1_least])), (q_p1_town, .inr (6, [.ref q_p1_town_froms, .ref q_p1_town_tos, w_p1_town_lengths, .ref q_p1_town_kinds, w_p1_town_figures, .int v_p1_town_closed, .int v_p1_town_size, .int v_p1_town_home])), (q_p1_town_froms, .inl (D.1 100, 8, .inl v_p1_town_froms)), (q_p1_town_tos, .inl (D.1 100, 8, .inl v_p1_town_tos)), (q_p1_town_kinds, .inl (D.1 100, 8, .inl v_p1_town_kinds)), (q_p1_on, .inl (D.1 100, 8, .inl v_p1_on)), (q_p1_back, .inl (D.1 100, 8, .inl v_p1_back)), (q_p1_least, .inl (D.1 100, 36, .inl v_p1_least)), (q_p2, .inr (2, [w_p2_tried, .ref q_p2_partners, .int v_p2_least])), (q_p2_partners, .inl (D.1 100, 6, .inl v_p2_partners))]
def f_X5_lay_b2 (x3_2 : Int32) (v_left_2 : (Nat → Int32)) (v_p1_town_size : Int32) (v_p1_town_closed : Int32) (v_p1_town_kinds : (Nat → Int32)) : Option ((Int32 × (Nat → Int32)) ⊕ (Nat → Int32)) :=
  (if (8 : Int32) ≤ x3_2 then some (.inr v_left_2) else (if v_p1_town_size ≤ x3_2 then ga x3_2 8 (some (.inl (x3_2 + (1 : Int32), upd v_left_2 (Int32.toNatClampNeg x3_2) (0 : Int32)))) else (f_X7_isDue x3_2 v_p1_town_closed v_p1_town_kinds).bind (fun r_isDue_1 => ga x3_2 8 (some (.inl (x3_2 + (1 : Int32), upd v_left_2 (Int32.toNatClampNeg x3_2) (if r_isDue_1 = 0 then (0 : Int32) else (1 : Int32))))))))
def f_X5_lay_b49 (N : Nat) (x3_49 : Int32) (v_left_49 : (Nat → Int32)) (v_p2_partners : (Nat → Int32)) (v_p1_town_size : Int32) (v_p1_town_froms : (Nat → Int32)) (v_p1_town_tos : (Nat → Int32)) (v_p1_on : (Nat → Int32)) (v_p1_back : (Nat → Int32)) (v_p1_least : (Nat → Int32)) : Option ((Int32 × (Nat → Int32)) ⊕ (Nat → Int32)) :=
  (if (6 : Int32) ≤ x3_49 then some (.inr v_left_49) else (f_X3_partnerOf x3_49 v_p2_partners).bind (fun r_partnerOf_3 => (if r_partnerOf_3 ≤ x3_49 then some (.inl (x3_49 + (1 : Int32), v_left_49)) else (f_X3_partnerOf x3_49 v_p2_partners).bind (fun r_partnerOf_4 => (f_X5_layWay N x3_49 r_partnerOf_4 v_left_49 v_p1_town_size v_p1_town_froms v_p1_town_tos v_p1_on v_p1_back v_p1_least).bind (fun r_layWay_5 => some (.inl (x3_49 + (1 : Int32), r_layWay_5)))))))
def f_X5_lay (N : Nat) (v_left : (Nat → Int32)) (v_p1_town_closed : Int32) (v_p1_town_size : Int32) (v_p1_town_froms : (Nat → Int32)) (v_p1_town_tos : (Nat → Int32)) (v_p1_town_kinds : (Nat → Int32)) (v_p1_on : (Nat → Int32)) (v_p1_back : (Nat → Int32)) (v_p1_least : (Nat → Int32)) (v_p2_partners : (Nat → Int32)) : Option (Nat → Int32) :=
  (lp (fun s_2 => f_X5_lay_b2 s_2.1 s_2.2 v_p1_town_size v_p1_town_closed v_p1_town_kinds) N ((0 : Int32), v_left)).bind (fun e_2 => (lp (fun s_49 => f_X5_lay_b49 N s_49.1 s_49.2 v_p2_partners v_p1_town_size v_p1_town_froms v_p1_town_tos v_p1_on v_p1_back v_p1_least) N ((0 : Int32), e_2)).bind (fun e_49 => some e_49))
set_option maxRecDepth 100000 in
set_option maxHeartbeats 4000000 in
theorem c_X5_lay (l : Launch) (D : va_G) (N : Nat) {q_this q_left q_p1 q_p1_town q_p1_town_froms q_p1_town_tos q_p1_town_kinds q_p1_on q_p1_back q_p1_least q_p2 q_p2_partners : Nat} {w_part w_corners w_p1_town_lengths w_p1_town_figures w_p2_tried : Value} {v_partSize : Int32} {v_size : Int32} {v_left : (Nat → Int32)} {v_p1_town_closed : Int32} {v_p1_town_size : Int32} {v_p1_town_home : Int32} {v_p1_town_froms : (Nat → Int32)} {v_p1_town_tos : (Nat → Int32)} {v_p1_town_kinds : (Nat → Int32)} {v_p1_on : (Nat → Int32)} {v_p1_back : (Nat → Int32)} {v_p1_least : (Nat → Int32)} {v_p2_least : Int32} {v_p2_partners : (Nat → Int32)} {o : (Nat → Int32)} (h : f_X5_lay N v_left v_p1_town_closed v_p1_town_size v_p1_town_froms v_p1_town_tos v_p1_town_kinds v_p1_on v_p1_back v_p1_least v_p2_partners = some o) : CT l D yX5_lay cX5_lay 4 (Option.none : Option FieldType) 3 [.ref q_this, .ref q_p1, .ref q_p2] (w_X5_lay D q_this q_left q_p1 q_p1_town q_p1_town_froms q_p1_town_tos q_p1_town_kinds q_p1_on q_p1_back q_p1_least q_p2 q_p2_partners w_part w_corners w_p1_town_lengths w_p1_town_figures w_p2_tried v_partSize v_size v_left v_p1_town_closed v_p1_town_size v_p1_town_home v_p1_town_froms v_p1_town_tos v_p1_town_kinds v_p1_on v_p1_back v_p1_least v_p2_least v_p2_partners) (w_X5_lay D q_this q_left q_p1 q_p1_town q_p1_town_froms q_p1_town_tos q_p1_town_kinds q_p1_on q_p1_back q_p1_least q_p2 q_p2_partners w_part w_corners w_p1_town_lengths w_p1_town_figures w_p2_tried v_partSize v_size o v_p1_town_closed v_p1_town_size v_p1_town_home v_p1_town_froms v_p1_town_tos v_p1_town_kinds v_p1_on v_p1_back v_p1_least v_p2_least v_p2_partners) (none) := by
  refine CT.of mk_X5_lay (Nat.le_of_ble_eq_true rfl) (fun g hl hD C E => ?_)
  subst hl
  subst hD
  unfold f_X5_lay at h
  refine j_iconst C (0) dX5_lay_0 ki_0 ?_
  refine j_istore_n C dX5_lay_1 (by decide) ?_
  obtain ⟨e_2, hl_2, h⟩ := of_bind h
  have ha_2 : J g (w_X5_lay (gD g) q_this q_left q_p1 q_p1_town q_p1_town_froms q_p1_town_tos q_p1_town_kinds q_p1_on q_p1_back q_p1_least q_p2 q_p2_partners w_part w_corners w_p1_town_lengths w_p1_town_figures w_p2_tried v_partSize v_size e_2 v_p1_town_closed v_p1_town_size v_p1_town_home v_p1_town_froms v_p1_town_tos v_p1_town_kinds v_p1_on v_p1_back v_p1_least v_p2_least v_p2_partners) [(0, .ref q_this), (1, .ref q_p1), (2, .ref q_p2)] 47 [] := by
    refine j_iconst C (0) dX5_lay_47 ki_0 ?_
    refine j_istore_n C dX5_lay_48 (by decide) ?_
    obtain ⟨e_49, hl_49, h⟩ := of_bind h
    have ha_49 : J g (w_X5_lay (gD g) q_this q_left q_p1 q_p1_town q_p1_town_froms q_p1_town_tos q_p1_town_kinds q_p1_on q_p1_back q_p1_least q_p2 q_p2_partners w_part w_corners w_p1_town_lengths w_p1_town_figures w_p2_tried v_partSize v_size e_49 v_p1_town_closed v_p1_town_size v_p1_town_home v_p1_town_froms v_p1_town_tos v_p1_town_kinds v_p1_on v_p1_back v_p1_least v_p2_least v_p2_partners) [] 81 [] := by
      cases h
      exact j_vret C E dX5_lay_81
    refine j_lv (lv' := [(0, .ref q_this), (1, .ref q_p1), (2, .ref q_p2), (3, .int ((0 : Int32)))]) rfl ?_
    refine lp_ind hl_49 (fun s_49 => J g (w_X5_lay (gD g) q_this q_left q_p1 q_p1_town q_p1_town_froms q_p1_town_tos q_p1_town_kinds q_p1_on q_p1_back q_p1_least q_p2 q_p2_partners w_part w_corners w_p1_town_lengths w_p1_town_figures w_p2_tried v_partSize v_size s_49.2 v_p1_town_closed v_p1_town_size v_p1_town_home v_p1_town_froms v_p1_town_tos v_p1_town_kinds v_p1_on v_p1_back v_p1_least v_p2_least v_p2_partners) [(0, .ref q_this), (1, .ref q_p1), (2, .ref q_p2), (3, .int (s_49.1))] 49 []) (fun s_49 r_49 h hc_49 hx_49 => ?_)
    unfold f_X5_lay_b49 at h
    refine j_iload_n C dX5_lay_49 rfl ?_
    refine j_bipush C (6) dX5_lay_50 kb_6 ?_
    refine j_icmp_ge C h 81 dX5_lay_52 (by decide) (fun hc h => ?_) (fun hc h => ?_)
    · cases h
      have h9 := hx_49 _ rfl
      subst h9
      exact j_lw ha_49 rfl
    · refine j_aload_n C dX5_lay_55 rfl ?_
      refine j_iload_n C dX5_lay_56 rfl ?_
      obtain ⟨r_partnerOf_3, h_3, h⟩ := of_bind h
      refine j_callV1 C mk_X3_partnerOf ms_X3_partnerOf kw_764 (c_X3_partnerOf (gl g) (gD g) h_3) (by decide) 10 rfl rfl [10, 11] rfl rfl rfl rfl rfl (Nat.le_of_ble_eq_true rfl) dX5_lay_57 ?_
      refine j_ws (ws' := (w_X5_lay (gD g) q_this q_left q_p1 q_p1_town q_p1_town_froms q_p1_town_tos q_p1_town_kinds q_p1_on q_p1_back q_p1_least q_p2 q_p2_partners w_part w_corners w_p1_town_lengths w_p1_town_figures w_p2_tried v_partSize v_size s_49.2 v_p1_town_closed v_p1_town_size v_p1_town_home v_p1_town_froms v_p1_town_tos v_p1_town_kinds v_p1_on v_p1_back v_p1_least v_p2_least v_p2_partners)) rfl ?_
      refine j_iload_n C dX5_lay_60 rfl ?_
      refine j_icmp_le C h 75 dX5_lay_61 (by decide) (fun hc h => ?_) (fun hc h => ?_)
      · refine j_inc C (1) dX5_lay_75 rfl ki_1 (by decide) ?_
        refine j_goto C 49 dX5_lay_78 (by decide) ?_
        cases h
        have hc9 := hc_49 _ rfl
        exact j_lw hc9 rfl
      · refine j_aload_n C dX5_lay_64 rfl ?_
        refine j_aload_n C dX5_lay_65 rfl ?_
        refine j_iload_n C dX5_lay_66 rfl ?_
        refine j_aload_n C dX5_lay_67 rfl ?_
        refine j_iload_n C dX5_lay_68 rfl ?_
        obtain ⟨r_partnerOf_4, h_4, h⟩ := of_bind h
        refine j_callV1 C mk_X3_partnerOf ms_X3_partnerOf kw_764 (c_X3_partnerOf (gl g) (gD g) h_4) (by decide) 10 rfl rfl [10, 11] rfl rfl rfl rfl rfl (Nat.le_of_ble_eq_true rfl) dX5_lay_69 ?_
        refine j_ws (ws' := (w_X5_lay (gD g) q_this q_left q_p1 q_p1_town q_p1_town_froms q_p1_town_tos q_p1_town_kinds q_p1_on q_p1_back q_p1_least q_p2 q_p2_partners w_part w_corners w_p1_town_lengths w_p1_town_figures w_p2_tried v_partSize v_size s_49.2 v_p1_town_closed v_p1_town_size v_p1_town_home v_p1_town_froms v_p1_town_tos v_p1_town_kinds v_p1_on v_p1_back v_p1_least v_p2_least v_p2_partners)) rfl ?_
        obtain ⟨r_layWay_5, h_5, h⟩ := of_bind h
        refine j_callV0 C mk_X5_layWay ms_X5_layWay kw_765 (c_X5_layWay (gl g) (gD g) N h_5) (by decide) 0 rfl rfl [0, 1, 2, 3, 4, 5, 7, 8, 9] rfl rfl rfl rfl rfl (Nat.le_of_ble_eq_true rfl) dX5_lay_72 ?_
        refine j_ws (ws' := (w_X5_lay (gD g) q_this q_left q_p1 q_p1_town q_p1_town_froms q_p1_town_tos q_p1_town_kinds q_p1_on q_p1_back q_p1_least q_p2 q_p2_partners w_part w_corners w_p1_town_lengths w_p1_town_figures w_p2_tried v_partSize v_size r_layWay_5 v_p1_town_closed v_p1_town_size v_p1_town_home v_p1_town_froms v_p1_town_tos v_p1_town_kinds v_p1_on v_p1_back v_p1_least v_p2_least v_p2_partners)) rfl ?_
        refine j_inc C (1) dX5_lay_75 rfl ki_1 (by decide) ?_
        refine j_goto C 49 dX5_lay_78 (by decide) ?_
        cases h
        have hc9 := hc_49 _ rfl
        exact j_lw hc9 rfl
  refine j_lv (lv' := [(0, .ref q_this), (1, .ref q_p1), (2, .ref q_p2), (3, .int ((0 : Int32)))]) rfl ?_
  refine lp_ind hl_2 (fun s_2 => J g (w_X5_lay (gD g) q_this q_left q_p1 q_p1_town q_p1_town_froms q_p1_town_tos q_p1_town_kinds q_p1_on q_p1_back q_p1_least q_p2 q_p2_partners w_part w_corners w_p1_town_lengths w_p1_town_figures w_p2_tried v_partSize v_size s_2.2 v_p1_town_closed v_p1_town_size v_p1_town_home v_p1_town_froms v_p1_town_tos v_p1_town_kinds v_p1_on v_p1_back v_p1_least v_p2_least v_p2_partners) [(0, .ref q_this), (1, .ref q_p1), (2, .ref q_p2), (3, .int (s_2.1))] 2 []) (fun s_2 r_2 h hc_2 hx_2 => ?_)
  unfold f_X5_lay_b2 at h
  refine j_iload_n C dX5_lay_2 rfl ?_
  refine j_bipush C (8) dX5_lay_3 kb_8 ?_
  refine j_icmp_ge C h 47 dX5_lay_5 (by decide) (fun hc h => ?_) (fun hc h => ?_)
  · cases h
    have h9 := hx_2 _ rfl
    subst h9
    exact j_lw ha_2 rfl
  · refine j_aload_n C dX5_lay_8 rfl ?_
    refine j_get C 0 rfl rfl inX5 0 (by decide) kw_179 rfl rfl dX5_lay_9 ?_
    refine j_iload_n C dX5_lay_12 rfl ?_
    refine j_iload_n C dX5_lay_13 rfl ?_
    refine j_aload_n C dX5_lay_14 rfl ?_
    refine j_get C 2 rfl rfl inX8 0 (by decide) kw_93 rfl rfl dX5_lay_15 ?_
    refine j_get C 3 rfl rfl inX7 6 (by decide) kw_56 rfl rfl dX5_lay_18 ?_
    refine j_icmp_ge C h 39 dX5_lay_21 (by decide) (fun hc h => ?_) (fun hc h => ?_)
    · refine j_iconst C (0) dX5_lay_39 ki_0 ?_
      refine j_iastore 1 C h rfl rfl dX5_lay_40 (fun h => ?_)
      refine j_ws (ws' := (w_X5_lay (gD g) q_this q_left q_p1 q_p1_town q_p1_town_froms q_p1_town_tos q_p1_town_kinds q_p1_on q_p1_back q_p1_least q_p2 q_p2_partners w_part w_corners w_p1_town_lengths w_p1_town_figures w_p2_tried v_partSize v_size (upd s_2.2 (Int32.toNatClampNeg s_2.1) (0 : Int32)) v_p1_town_closed v_p1_town_size v_p1_town_home v_p1_town_froms v_p1_town_tos v_p1_town_kinds v_p1_on v_p1_back v_p1_least v_p2_least v_p2_partners)) rfl ?_
      refine j_inc C (1) dX5_lay_41 rfl ki_1 (by decide) ?_
      refine j_goto C 2 dX5_lay_44 (by decide) ?_
      cases h
      have hc9 := hc_2 _ rfl
      exact j_lw hc9 rfl
    · refine j_aload_n C dX5_lay_24 rfl ?_
      refine j_get C 2 rfl rfl inX8 0 (by decide) kw_93 rfl rfl dX5_lay_25 ?_
      refine j_iload_n C dX5_lay_28 rfl ?_
      obtain ⟨r_isDue_1, h_1, h⟩ := of_bind h
      refine j_callV1 C mk_X7_isDue ms_X7_isDue kw_763 (c_X7_isDue (gl g) (gD g) h_1) (by decide) 3 rfl rfl [3, 6] rfl rfl rfl rfl rfl (Nat.le_of_ble_eq_true rfl) dX5_lay_29 ?_
      refine j_ws (ws' := (w_X5_lay (gD g) q_this q_left q_p1 q_p1_town q_p1_town_froms q_p1_town_tos q_p1_town_kinds q_p1_on q_p1_back q_p1_least q_p2 q_p2_partners w_part w_corners w_p1_town_lengths w_p1_town_figures w_p2_tried v_partSize v_size s_2.2 v_p1_town_closed v_p1_town_size v_p1_town_home v_p1_town_froms v_p1_town_tos v_p1_town_kinds v_p1_on v_p1_back v_p1_least v_p2_least v_p2_partners)) rfl ?_
      have hj_2 : J g (w_X5_lay (gD g) q_this q_left q_p1 q_p1_town q_p1_town_froms q_p1_town_tos q_p1_town_kinds q_p1_on q_p1_back q_p1_least q_p2 q_p2_partners w_part w_corners w_p1_town_lengths w_p1_town_figures w_p2_tried v_partSize v_size s_2.2 v_p1_town_closed v_p1_town_size v_p1_town_home v_p1_town_froms v_p1_town_tos v_p1_town_kinds v_p1_on v_p1_back v_p1_least v_p2_least v_p2_partners) [(0, .ref q_this), (1, .ref q_p1), (2, .ref q_p2), (3, .int (s_2.1))] 40 [.int (if r_isDue_1 = 0 then (0 : Int32) else (1 : Int32)), .int (s_2.1), .ref q_left] := by
        refine j_iastore 1 C h rfl rfl dX5_lay_40 (fun h => ?_)
        refine j_ws (ws' := (w_X5_lay (gD g) q_this q_left q_p1 q_p1_town q_p1_town_froms q_p1_town_tos q_p1_town_kinds q_p1_on q_p1_back q_p1_least q_p2 q_p2_partners w_part w_corners w_p1_town_lengths w_p1_town_figures w_p2_tried v_partSize v_size (upd s_2.2 (Int32.toNatClampNeg s_2.1) (if r_isDue_1 = 0 then (0 : Int32) else (1 : Int32))) v_p1_town_closed v_p1_town_size v_p1_town_home v_p1_town_froms v_p1_town_tos v_p1_town_kinds v_p1_on v_p1_back v_p1_least v_p2_least v_p2_partners)) rfl ?_
        refine j_inc C (1) dX5_lay_41 rfl ki_1 (by decide) ?_
        refine j_goto C 2 dX5_lay_44 (by decide) ?_
        cases h
        have hc9 := hc_2 _ rfl
        exact j_lw hc9 rfl
      refine jv_if_eq C 39 dX5_lay_32 (by decide) (fun hc => ?_) (fun hc => ?_)
      · try simp only [if_pos hc] at hj_2
        refine j_iconst C (0) dX5_lay_39 ki_0 ?_
        exact j_lw hj_2 rfl
      · try simp only [if_neg hc] at hj_2
        refine j_iconst C (1) dX5_lay_35 ki_1 ?_
        refine j_goto C 40 dX5_lay_36 (by decide) ?_
        exact j_lw hj_2 rfl

def w_X5_seek (D : va_G) (q_this q_left q_part q_corners q_p1 q_p1_town q_p1_town_froms q_p1_town_tos q_p1_town_kinds q_p1_on q_p1_back q_p1_least q_p2 q_p2_partners : Nat) (w_p1_town_lengths w_p1_town_figures w_p2_tried : Value) (v_partSize : Int32) (v_size : Int32) (v_left : (Nat → Int32)) (v_part : (Nat → Int32)) (v_corners : (Nat → Int32)) (v_p1_town_closed : Int32) (v_p1_town_size : Int32) (v_p1_town_home : Int32) (v_p1_town_froms : (Nat → Int32)) (v_p1_town_tos : (Nat → Int32)) (v_p1_town_kinds : (Nat → Int32)) (v_p1_on : (Nat → Int32)) (v_p1_back : (Nat → Int32)) (v_p1_least : (Nat → Int32)) (v_p2_least : Int32) (v_p2_partners : (Nat → Int32)) : va_W := [(q_this, .inr (4, [.ref q_left, .ref q_part, .int v_partSize, .ref q_corners, .int v_size])), (q_left, .inl (D.1 100, 8, .inl v_left)), (q_part, .inl (D.1 100, 32, .inl v_part)), (q_corners, .inl (D.1 100, 32, .inl v_corners)), (q_p1, .inr (7, [.ref q_p1_town, .ref q_p1_on, .ref q_p1_back, .ref q_p1_least])), (q_p1_town, .inr (6, [.ref q_p1_town_froms, .ref q_p1_town_tos, w_p1_town_lengths, .ref q_p1_town_kinds, w_p1_town_figures, .int v_p1_town_closed, .int v_p1_town_size, .int v_p1_town_home])), (q_p1_town_froms, .inl (D.1 100, 8, .inl v_p1_town_froms)), (q_p1_town_tos, .inl (D.1 100, 8, .inl v_p1_town_tos)), (q_p1_town_kinds, .inl (D.1 100, 8, .inl v_p1_town_kinds)), (q_p1_on, .inl (D.1 100, 8, .inl v_p1_on)), (q_p1_back, .inl (D.1 100, 8, .inl v_p1_back)), (q_p1_least, .inl (D.1 100, 36, .inl v_p1_least)), (q_p2, .inr (2, [w_p2_tried, .ref q_p2_partners, .int v_p2_least])), (q_p2_partners, .inl (D.1 100, 6, .inl v_p2_partners))]
def f_X5_seek_b29 (N : Nat) (x4_29 : Int32) (v_partSize_29 : Int32) (v_size_29 : Int32) (v_left_29 : (Nat → Int32)) (v_part_29 : (Nat → Int32)) (v_corners_29 : (Nat → Int32)) (x3_29 : Int32) (v_p1_town_size : Int32) (v_p1_town_froms : (Nat → Int32)) (v_p1_town_tos : (Nat → Int32)) : Option ((Int32 × Int32 × Int32 × Int32 × (Nat → Int32) × (Nat → Int32) × (Nat → Int32)) ⊕ (Int32 × Int32 × (Nat → Int32) × (Nat → Int32) × (Nat → Int32))) :=
  (if (32 : Int32) ≤ x4_29 then some (.inr (v_partSize_29, v_size_29, v_left_29, v_part_29, v_corners_29)) else (if x3_29 < 0 then some (.inr (v_partSize_29, v_size_29, v_left_29, v_part_29, v_corners_29)) else ga x3_29 32 ((f_X5_walk N (v_corners_29 (Int32.toNatClampNeg x3_29)) v_partSize_29 v_left_29 v_part_29 v_p1_town_size v_p1_town_froms v_p1_town_tos).bind (fun r_walk_2 => (f_X5_putIn x3_29 r_walk_2.1 v_size_29 r_walk_2.2.2 v_corners_29).bind (fun r_putIn_3 => (f_X5_firstLeft N r_putIn_3.1 r_walk_2.2.1 r_putIn_3.2 v_p1_town_size v_p1_town_froms v_p1_town_tos).bind (fun r_firstLeft_4 => some (.inl (r_firstLeft_4, x4_29 + (1 : Int32), r_walk_2.1, r_putIn_3.1, r_walk_2.2.1, r_walk_2.2.2, r_putIn_3.2))))))))
def f_X5_seek (N : Nat) (v_partSize : Int32) (v_size : Int32) (v_left : (Nat → Int32)) (v_part : (Nat → Int32)) (v_corners : (Nat → Int32)) (v_p1_town_closed : Int32) (v_p1_town_size : Int32) (v_p1_town_home : Int32) (v_p1_town_froms : (Nat → Int32)) (v_p1_town_tos : (Nat → Int32)) (v_p1_town_kinds : (Nat → Int32)) (v_p1_on : (Nat → Int32)) (v_p1_back : (Nat → Int32)) (v_p1_least : (Nat → Int32)) (v_p2_partners : (Nat → Int32)) : Option (Int32 × Int32 × (Nat → Int32) × (Nat → Int32) × (Nat → Int32)) :=
  (f_X5_lay N v_left v_p1_town_closed v_p1_town_size v_p1_town_froms v_p1_town_tos v_p1_town_kinds v_p1_on v_p1_back v_p1_least v_p2_partners).bind (fun r_lay_1 => ga (0 : Int32) 32 ((lp (fun s_29 => f_X5_seek_b29 N s_29.2.1 s_29.2.2.1 s_29.2.2.2.1 s_29.2.2.2.2.1 s_29.2.2.2.2.2.1 s_29.2.2.2.2.2.2 s_29.1 v_p1_town_size v_p1_town_froms v_p1_town_tos) N ((0 : Int32), (0 : Int32), v_partSize, (1 : Int32), r_lay_1, v_part, upd v_corners (Int32.toNatClampNeg (0 : Int32)) v_p1_town_home)).bind (fun e_29 => some (e_29.1, e_29.2.1, e_29.2.2.1, e_29.2.2.2.1, e_29.2.2.2.2))))
set_option maxRecDepth 100000 in
set_option maxHeartbeats 4000000 in
theorem c_X5_seek (l : Launch) (D : va_G) (N : Nat) {q_this q_left q_part q_corners q_p1 q_p1_town q_p1_town_froms q_p1_town_tos q_p1_town_kinds q_p1_on q_p1_back q_p1_least q_p2 q_p2_partners : Nat} {w_p1_town_lengths w_p1_town_figures w_p2_tried : Value} {v_partSize : Int32} {v_size : Int32} {v_left : (Nat → Int32)} {v_part : (Nat → Int32)} {v_corners : (Nat → Int32)} {v_p1_town_closed : Int32} {v_p1_town_size : Int32} {v_p1_town_home : Int32} {v_p1_town_froms : (Nat → Int32)} {v_p1_town_tos : (Nat → Int32)} {v_p1_town_kinds : (Nat → Int32)} {v_p1_on : (Nat → Int32)} {v_p1_back : (Nat → Int32)} {v_p1_least : (Nat → Int32)} {v_p2_least : Int32} {v_p2_partners : (Nat → Int32)} {o : (Int32 × Int32 × (Nat → Int32) × (Nat → Int32) × (Nat → Int32))} (h : f_X5_seek N v_partSize v_size v_left v_part v_corners v_p1_town_closed v_p1_town_size v_p1_town_home v_p1_town_froms v_p1_town_tos v_p1_town_kinds v_p1_on v_p1_back v_p1_least v_p2_partners = some o) : CT l D yX5_seek cX5_seek 5 (Option.none : Option FieldType) 4 [.ref q_this, .ref q_p1, .ref q_p2] (w_X5_seek D q_this q_left q_part q_corners q_p1 q_p1_town q_p1_town_froms q_p1_town_tos q_p1_town_kinds q_p1_on q_p1_back q_p1_least q_p2 q_p2_partners w_p1_town_lengths w_p1_town_figures w_p2_tried v_partSize v_size v_left v_part v_corners v_p1_town_closed v_p1_town_size v_p1_town_home v_p1_town_froms v_p1_town_tos v_p1_town_kinds v_p1_on v_p1_back v_p1_least v_p2_least v_p2_partners) (w_X5_seek D q_this q_left q_part q_corners q_p1 q_p1_town q_p1_town_froms q_p1_town_tos q_p1_town_kinds q_p1_on q_p1_back q_p1_least q_p2 q_p2_partners w_p1_town_lengths w_p1_town_figures w_p2_tried o.1 o.2.1 o.2.2.1 o.2.2.2.1 o.2.2.2.2 v_p1_town_closed v_p1_town_size v_p1_town_home v_p1_town_froms v_p1_town_tos v_p1_town_kinds v_p1_on v_p1_back v_p1_least v_p2_least v_p2_partners) (none) := by
  refine CT.of mk_X5_seek (Nat.le_of_ble_eq_true rfl) (fun g hl hD C E => ?_)
  subst hl
  subst hD
  unfold f_X5_seek at h
  refine j_aload_n C dX5_seek_0 rfl ?_
  refine j_aload_n C dX5_seek_1 rfl ?_
  refine j_aload_n C dX5_seek_2 rfl ?_
  obtain ⟨r_lay_1, h_1, h⟩ := of_bind h
  refine j_callV0 C mk_X5_lay ms_X5_lay kw_759 (c_X5_lay (gl g) (gD g) N h_1) (by decide) 0 rfl rfl [0, 1, 4, 5, 6, 7, 8, 9, 10, 11, 12, 13] rfl rfl rfl rfl rfl (Nat.le_of_ble_eq_true rfl) dX5_seek_3 ?_
  refine j_ws (ws' := (w_X5_seek (gD g) q_this q_left q_part q_corners q_p1 q_p1_town q_p1_town_froms q_p1_town_tos q_p1_town_kinds q_p1_on q_p1_back q_p1_least q_p2 q_p2_partners w_p1_town_lengths w_p1_town_figures w_p2_tried v_partSize v_size r_lay_1 v_part v_corners v_p1_town_closed v_p1_town_size v_p1_town_home v_p1_town_froms v_p1_town_tos v_p1_town_kinds v_p1_on v_p1_back v_p1_least v_p2_least v_p2_partners)) rfl ?_
  refine j_aload_n C dX5_seek_6 rfl ?_
  refine j_iconst C (1) dX5_seek_7 ki_1 ?_
  refine j_put C 0 rfl rfl inX5 tyX5_ok nmX5 4 (by decide) kw_184 rfl rfl rfl rfl (Nat.le_of_ble_eq_true rfl) dX5_seek_8 ?_
  refine j_ws (ws' := (w_X5_seek (gD g) q_this q_left q_part q_corners q_p1 q_p1_town q_p1_town_froms q_p1_town_tos q_p1_town_kinds q_p1_on q_p1_back q_p1_least q_p2 q_p2_partners w_p1_town_lengths w_p1_town_figures w_p2_tried v_partSize ((1 : Int32)) r_lay_1 v_part v_corners v_p1_town_closed v_p1_town_size v_p1_town_home v_p1_town_froms v_p1_town_tos v_p1_town_kinds v_p1_on v_p1_back v_p1_least v_p2_least v_p2_partners)) rfl ?_
  refine j_aload_n C dX5_seek_11 rfl ?_
  refine j_get C 0 rfl rfl inX5 3 (by decide) kw_182 rfl rfl dX5_seek_12 ?_
  refine j_iconst C (0) dX5_seek_15 ki_0 ?_
  refine j_aload_n C dX5_seek_16 rfl ?_
  refine j_get C 4 rfl rfl inX8 0 (by decide) kw_93 rfl rfl dX5_seek_17 ?_
  refine j_get C 5 rfl rfl inX7 7 (by decide) kw_60 rfl rfl dX5_seek_20 ?_
  refine j_iastore 3 C h rfl rfl dX5_seek_23 (fun h => ?_)
  refine j_ws (ws' := (w_X5_seek (gD g) q_this q_left q_part q_corners q_p1 q_p1_town q_p1_town_froms q_p1_town_tos q_p1_town_kinds q_p1_on q_p1_back q_p1_least q_p2 q_p2_partners w_p1_town_lengths w_p1_town_figures w_p2_tried v_partSize ((1 : Int32)) r_lay_1 v_part (upd v_corners (Int32.toNatClampNeg (0 : Int32)) v_p1_town_home) v_p1_town_closed v_p1_town_size v_p1_town_home v_p1_town_froms v_p1_town_tos v_p1_town_kinds v_p1_on v_p1_back v_p1_least v_p2_least v_p2_partners)) rfl ?_
  refine j_iconst C (0) dX5_seek_24 ki_0 ?_
  refine j_istore_n C dX5_seek_25 (by decide) ?_
  refine j_iconst C (0) dX5_seek_26 ki_0 ?_
  refine j_istore C dX5_seek_27 (by decide) ?_
  obtain ⟨e_29, hl_29, h⟩ := of_bind h
  have ha_29 : J g (w_X5_seek (gD g) q_this q_left q_part q_corners q_p1 q_p1_town q_p1_town_froms q_p1_town_tos q_p1_town_kinds q_p1_on q_p1_back q_p1_least q_p2 q_p2_partners w_p1_town_lengths w_p1_town_figures w_p2_tried e_29.1 e_29.2.1 e_29.2.2.1 e_29.2.2.2.1 e_29.2.2.2.2 v_p1_town_closed v_p1_town_size v_p1_town_home v_p1_town_froms v_p1_town_tos v_p1_town_kinds v_p1_on v_p1_back v_p1_least v_p2_least v_p2_partners) [] 74 [] := by
    cases h
    exact j_vret C E dX5_seek_74
  refine j_lv (lv' := [(0, .ref q_this), (1, .ref q_p1), (3, .int ((0 : Int32))), (4, .int ((0 : Int32)))]) rfl ?_
  refine lp_ind hl_29 (fun s_29 => J g (w_X5_seek (gD g) q_this q_left q_part q_corners q_p1 q_p1_town q_p1_town_froms q_p1_town_tos q_p1_town_kinds q_p1_on q_p1_back q_p1_least q_p2 q_p2_partners w_p1_town_lengths w_p1_town_figures w_p2_tried s_29.2.2.1 s_29.2.2.2.1 s_29.2.2.2.2.1 s_29.2.2.2.2.2.1 s_29.2.2.2.2.2.2 v_p1_town_closed v_p1_town_size v_p1_town_home v_p1_town_froms v_p1_town_tos v_p1_town_kinds v_p1_on v_p1_back v_p1_least v_p2_least v_p2_partners) [(0, .ref q_this), (1, .ref q_p1), (3, .int (s_29.1)), (4, .int (s_29.2.1))] 29 []) (fun s_29 r_29 h hc_29 hx_29 => ?_)
  unfold f_X5_seek_b29 at h
  refine j_iload C dX5_seek_29 rfl ?_
  refine j_bipush C (32) dX5_seek_31 kb_32 ?_
  refine j_icmp_ge C h 74 dX5_seek_33 (by decide) (fun hc h => ?_) (fun hc h => ?_)
  · cases h
    have h9 := hx_29 _ rfl
    subst h9
    exact j_lw ha_29 rfl
  · refine j_iload_n C dX5_seek_36 rfl ?_
    refine j_if_lt C h 74 dX5_seek_37 (by decide) (fun hc h => ?_) (fun hc h => ?_)
    · cases h
      have h9 := hx_29 _ rfl
      subst h9
      exact j_lw ha_29 rfl
    · refine j_aload_n C dX5_seek_40 rfl ?_
      refine j_aload_n C dX5_seek_41 rfl ?_
      refine j_get C 4 rfl rfl inX8 0 (by decide) kw_93 rfl rfl dX5_seek_42 ?_
      refine j_aload_n C dX5_seek_45 rfl ?_
      refine j_get C 0 rfl rfl inX5 3 (by decide) kw_182 rfl rfl dX5_seek_46 ?_
      refine j_iload_n C dX5_seek_49 rfl ?_
      refine j_iaload 3 C h rfl rfl dX5_seek_50 (fun h => ?_)
      obtain ⟨r_walk_2, h_2, h⟩ := of_bind h
      refine j_callV0 C mk_X5_walk ms_X5_walk kw_771 (c_X5_walk (gl g) (gD g) N h_2) (by decide) 0 rfl rfl [0, 1, 2, 5, 6, 7] rfl rfl rfl rfl rfl (Nat.le_of_ble_eq_true rfl) dX5_seek_51 ?_
      refine j_ws (ws' := (w_X5_seek (gD g) q_this q_left q_part q_corners q_p1 q_p1_town q_p1_town_froms q_p1_town_tos q_p1_town_kinds q_p1_on q_p1_back q_p1_least q_p2 q_p2_partners w_p1_town_lengths w_p1_town_figures w_p2_tried r_walk_2.1 s_29.2.2.2.1 r_walk_2.2.1 r_walk_2.2.2 s_29.2.2.2.2.2.2 v_p1_town_closed v_p1_town_size v_p1_town_home v_p1_town_froms v_p1_town_tos v_p1_town_kinds v_p1_on v_p1_back v_p1_least v_p2_least v_p2_partners)) rfl ?_
      refine j_aload_n C dX5_seek_54 rfl ?_
      refine j_iload_n C dX5_seek_55 rfl ?_
      obtain ⟨r_putIn_3, h_3, h⟩ := of_bind h
      refine j_callV0 C mk_X5_putIn ms_X5_putIn kw_780 (c_X5_putIn (gl g) (gD g) h_3) (by decide) 0 rfl rfl [0, 2, 3] rfl rfl rfl rfl rfl (Nat.le_of_ble_eq_true rfl) dX5_seek_56 ?_
      refine j_ws (ws' := (w_X5_seek (gD g) q_this q_left q_part q_corners q_p1 q_p1_town q_p1_town_froms q_p1_town_tos q_p1_town_kinds q_p1_on q_p1_back q_p1_least q_p2 q_p2_partners w_p1_town_lengths w_p1_town_figures w_p2_tried r_walk_2.1 r_putIn_3.1 r_walk_2.2.1 r_walk_2.2.2 r_putIn_3.2 v_p1_town_closed v_p1_town_size v_p1_town_home v_p1_town_froms v_p1_town_tos v_p1_town_kinds v_p1_on v_p1_back v_p1_least v_p2_least v_p2_partners)) rfl ?_
      refine j_aload_n C dX5_seek_59 rfl ?_
      refine j_aload_n C dX5_seek_60 rfl ?_
      refine j_get C 4 rfl rfl inX8 0 (by decide) kw_93 rfl rfl dX5_seek_61 ?_
      obtain ⟨r_firstLeft_4, h_4, h⟩ := of_bind h
      refine j_callV1 C mk_X5_firstLeft ms_X5_firstLeft kw_785 (c_X5_firstLeft (gl g) (gD g) N h_4) (by decide) 0 rfl rfl [0, 1, 3, 5, 6, 7] rfl rfl rfl rfl rfl (Nat.le_of_ble_eq_true rfl) dX5_seek_64 ?_
      refine j_ws (ws' := (w_X5_seek (gD g) q_this q_left q_part q_corners q_p1 q_p1_town q_p1_town_froms q_p1_town_tos q_p1_town_kinds q_p1_on q_p1_back q_p1_least q_p2 q_p2_partners w_p1_town_lengths w_p1_town_figures w_p2_tried r_walk_2.1 r_putIn_3.1 r_walk_2.2.1 r_walk_2.2.2 r_putIn_3.2 v_p1_town_closed v_p1_town_size v_p1_town_home v_p1_town_froms v_p1_town_tos v_p1_town_kinds v_p1_on v_p1_back v_p1_least v_p2_least v_p2_partners)) rfl ?_
      refine j_istore_n C dX5_seek_67 (by decide) ?_
      refine j_inc C (1) dX5_seek_68 rfl ki_1 (by decide) ?_
      refine j_goto C 29 dX5_seek_71 (by decide) ?_
      cases h
      have hc9 := hc_29 _ rfl
      exact j_lw hc9 rfl

def w_X1_list (D : va_G) (q_p1 q_p1_froms q_p1_tos q_p1_kinds q_p2 : Nat) (w_p1_lengths w_p1_figures : Value) (v_p1_closed : Int32) (v_p1_size : Int32) (v_p1_home : Int32) (v_p1_froms : (Nat → Int32)) (v_p1_tos : (Nat → Int32)) (v_p1_kinds : (Nat → Int32)) (v_p2 : (Nat → Int32)) : va_W := [(q_p1, .inr (6, [.ref q_p1_froms, .ref q_p1_tos, w_p1_lengths, .ref q_p1_kinds, w_p1_figures, .int v_p1_closed, .int v_p1_size, .int v_p1_home])), (q_p1_froms, .inl (D.1 100, 8, .inl v_p1_froms)), (q_p1_tos, .inl (D.1 100, 8, .inl v_p1_tos)), (q_p1_kinds, .inl (D.1 100, 8, .inl v_p1_kinds)), (q_p2, .inl (D.1 100, 8, .inl v_p2))]
def f_X1_list_b25 (x2 : Int32) (r_balanceOf_1_0 : Int32) (x6_25 : Int32) (x3_25 : Int32) (v_p2_25 : (Nat → Int32)) (x4_5 : Int32) : Option ((Int32 × Int32 × (Nat → Int32)) ⊕ (Int32 × (Nat → Int32))) :=
  (if (x2 * r_balanceOf_1_0) ≤ x6_25 then some (.inr (x3_25, v_p2_25)) else (if (8 : Int32) ≤ x3_25 then some (.inr (x3_25, v_p2_25)) else ga x3_25 8 (some (.inl (x3_25 + (1 : Int32), x6_25 + (1 : Int32), upd v_p2_25 (Int32.toNatClampNeg x3_25) x4_5)))))
def f_X1_list_b5 (N : Nat) (x4_5 : Int32) (x3_5 : Int32) (v_p2_5 : (Nat → Int32)) (v_p1_closed : Int32) (v_p1_size : Int32) (v_p1_froms : (Nat → Int32)) (v_p1_tos : (Nat → Int32)) (v_p1_kinds : (Nat → Int32)) (x2 : Int32) : Option ((Int32 × Int32 × (Nat → Int32)) ⊕ (Int32 × (Nat → Int32))) :=
  (if (6 : Int32) ≤ x4_5 then some (.inr (x3_5, v_p2_5)) else (f_X7_balanceOf N x4_5 v_p1_closed v_p1_size v_p1_froms v_p1_tos v_p1_kinds).bind (fun r_balanceOf_1 => (lp (fun s_25 => f_X1_list_b25 x2 r_balanceOf_1 s_25.2.1 s_25.1 s_25.2.2 x4_5) N (x3_5, (0 : Int32), v_p2_5)).bind (fun e_25 => some (.inl (e_25.1, x4_5 + (1 : Int32), e_25.2)))))
def f_X1_list (N : Nat) (x2 : Int32) (v_p1_closed : Int32) (v_p1_size : Int32) (v_p1_froms : (Nat → Int32)) (v_p1_tos : (Nat → Int32)) (v_p1_kinds : (Nat → Int32)) (v_p2 : (Nat → Int32)) : Option (Int32 × (Nat → Int32)) :=
  (lp (fun s_5 => f_X1_list_b5 N s_5.2.1 s_5.1 s_5.2.2 v_p1_closed v_p1_size v_p1_froms v_p1_tos v_p1_kinds x2) N ((0 : Int32), (0 : Int32), v_p2)).bind (fun e_5 => some (e_5.1, e_5.2))
set_option maxRecDepth 100000 in
set_option maxHeartbeats 4000000 in
theorem c_X1_list (l : Launch) (D : va_G) (N : Nat) {q_p1 q_p1_froms q_p1_tos q_p1_kinds q_p2 : Nat} {w_p1_lengths w_p1_figures : Value} {v_p1_closed : Int32} {v_p1_size : Int32} {v_p1_home : Int32} {v_p1_froms : (Nat → Int32)} {v_p1_tos : (Nat → Int32)} {v_p1_kinds : (Nat → Int32)} {v_p2 : (Nat → Int32)} {x2 : Int32} {o : (Int32 × (Nat → Int32))} (h : f_X1_list N x2 v_p1_closed v_p1_size v_p1_froms v_p1_tos v_p1_kinds v_p2 = some o) : CT l D yX1_list cX1_list 7 (Option.some FieldType.int) 3 [.ref q_p1, .ref q_p2, .int x2] (w_X1_list D q_p1 q_p1_froms q_p1_tos q_p1_kinds q_p2 w_p1_lengths w_p1_figures v_p1_closed v_p1_size v_p1_home v_p1_froms v_p1_tos v_p1_kinds v_p2) (w_X1_list D q_p1 q_p1_froms q_p1_tos q_p1_kinds q_p2 w_p1_lengths w_p1_figures v_p1_closed v_p1_size v_p1_home v_p1_froms v_p1_tos v_p1_kinds o.2) (some (.int o.1)) := by
  refine CT.of mk_X1_list (Nat.le_of_ble_eq_true rfl) (fun g hl hD C E => ?_)
  subst hl
  subst hD
  unfold f_X1_list at h
  refine j_iconst C (0) dX1_list_0 ki_0 ?_
  refine j_istore_n C dX1_list_1 (by decide) ?_
  refine j_iconst C (0) dX1_list_2 ki_0 ?_
  refine j_istore C dX1_list_3 (by decide) ?_
  obtain ⟨e_5, hl_5, h⟩ := of_bind h
  have ha_5 : J g (w_X1_list (gD g) q_p1 q_p1_froms q_p1_tos q_p1_kinds q_p2 w_p1_lengths w_p1_figures v_p1_closed v_p1_size v_p1_home v_p1_froms v_p1_tos v_p1_kinds e_5.2) [(3, .int (e_5.1))] 58 [] := by
    refine j_iload_n C dX1_list_58 rfl ?_
    cases h
    exact j_iret C E dX1_list_59
  refine j_lv (lv' := [(0, .ref q_p1), (1, .ref q_p2), (2, .int (x2)), (3, .int ((0 : Int32))), (4, .int ((0 : Int32)))]) rfl ?_
  refine lp_ind hl_5 (fun s_5 => J g (w_X1_list (gD g) q_p1 q_p1_froms q_p1_tos q_p1_kinds q_p2 w_p1_lengths w_p1_figures v_p1_closed v_p1_size v_p1_home v_p1_froms v_p1_tos v_p1_kinds s_5.2.2) [(0, .ref q_p1), (1, .ref q_p2), (2, .int (x2)), (3, .int (s_5.1)), (4, .int (s_5.2.1))] 5 []) (fun s_5 r_5 h hc_5 hx_5 => ?_)
  unfold f_X1_list_b5 at h
  refine j_iload C dX1_list_5 rfl ?_
  refine j_bipush C (6) dX1_list_7 kb_6 ?_
  refine j_icmp_ge C h 58 dX1_list_9 (by decide) (fun hc h => ?_) (fun hc h => ?_)
  · cases h
    have h9 := hx_5 _ rfl
    subst h9
    exact j_lw ha_5 rfl
  · refine j_iload_n C dX1_list_12 rfl ?_
    refine j_aload_n C dX1_list_13 rfl ?_
    refine j_iload C dX1_list_14 rfl ?_
    obtain ⟨r_balanceOf_1, h_1, h⟩ := of_bind h
    refine j_callV1 C mk_X7_balanceOf ms_X7_balanceOf kw_808 (c_X7_balanceOf (gl g) (gD g) N h_1) (by decide) 0 rfl rfl [0, 1, 2, 3] rfl rfl rfl rfl rfl (Nat.le_of_ble_eq_true rfl) dX1_list_16 ?_
    refine j_ws (ws' := (w_X1_list (gD g) q_p1 q_p1_froms q_p1_tos q_p1_kinds q_p2 w_p1_lengths w_p1_figures v_p1_closed v_p1_size v_p1_home v_p1_froms v_p1_tos v_p1_kinds s_5.2.2)) rfl ?_
    refine j_imul C dX1_list_19 ?_
    refine j_istore C dX1_list_20 (by decide) ?_
    refine j_iconst C (0) dX1_list_22 ki_0 ?_
    refine j_istore C dX1_list_23 (by decide) ?_
    obtain ⟨e_25, hl_25, h⟩ := of_bind h
    have ha_25 : J g (w_X1_list (gD g) q_p1 q_p1_froms q_p1_tos q_p1_kinds q_p2 w_p1_lengths w_p1_figures v_p1_closed v_p1_size v_p1_home v_p1_froms v_p1_tos v_p1_kinds e_25.2) [(0, .ref q_p1), (1, .ref q_p2), (2, .int (x2)), (3, .int (e_25.1)), (4, .int (s_5.2.1))] 52 [] := by
      refine j_inc C (1) dX1_list_52 rfl ki_1 (by decide) ?_
      refine j_goto C 5 dX1_list_55 (by decide) ?_
      cases h
      have hc9 := hc_5 _ rfl
      exact j_lw hc9 rfl
    refine j_lv (lv' := [(0, .ref q_p1), (1, .ref q_p2), (2, .int (x2)), (3, .int (s_5.1)), (4, .int (s_5.2.1)), (5, .int (x2 * r_balanceOf_1)), (6, .int ((0 : Int32)))]) rfl ?_
    refine lp_ind hl_25 (fun s_25 => J g (w_X1_list (gD g) q_p1 q_p1_froms q_p1_tos q_p1_kinds q_p2 w_p1_lengths w_p1_figures v_p1_closed v_p1_size v_p1_home v_p1_froms v_p1_tos v_p1_kinds s_25.2.2) [(0, .ref q_p1), (1, .ref q_p2), (2, .int (x2)), (3, .int (s_25.1)), (4, .int (s_5.2.1)), (5, .int (x2 * r_balanceOf_1)), (6, .int (s_25.2.1))] 25 []) (fun s_25 r_25 h hc_25 hx_25 => ?_)
    unfold f_X1_list_b25 at h
    refine j_iload C dX1_list_25 rfl ?_
    refine j_iload C dX1_list_27 rfl ?_
    refine j_icmp_ge C h 52 dX1_list_29 (by decide) (fun hc h => ?_) (fun hc h => ?_)
    · cases h
      have h9 := hx_25 _ rfl
      subst h9
      exact j_lw ha_25 rfl
    · refine j_iload_n C dX1_list_32 rfl ?_
      refine j_aload_n C dX1_list_33 rfl ?_
      refine j_alen C 8 4 rfl rfl (by decide) dX1_list_34 ?_
      refine j_icmp_ge C h 52 dX1_list_35 (by decide) (fun hc h => ?_) (fun hc h => ?_)
      · cases h
        have h9 := hx_25 _ rfl
        subst h9
        exact j_lw ha_25 rfl
      · refine j_aload_n C dX1_list_38 rfl ?_
        refine j_iload_n C dX1_list_39 rfl ?_
        refine j_iload C dX1_list_40 rfl ?_
        refine j_iastore 4 C h rfl rfl dX1_list_42 (fun h => ?_)
        refine j_ws (ws' := (w_X1_list (gD g) q_p1 q_p1_froms q_p1_tos q_p1_kinds q_p2 w_p1_lengths w_p1_figures v_p1_closed v_p1_size v_p1_home v_p1_froms v_p1_tos v_p1_kinds (upd s_25.2.2 (Int32.toNatClampNeg s_25.1) s_5.2.1))) rfl ?_
        refine j_inc C (1) dX1_list_43 rfl ki_1 (by decide) ?_
        refine j_inc C (1) dX1_list_46 rfl ki_1 (by decide) ?_
        refine j_goto C 25 dX1_list_49 (by decide) ?_
        cases h
        have hc9 := hc_25 _ rfl
        exact j_lw hc9 rfl

def w_X1_leastOf (D : va_G) (q_this q_givers q_takers q_least q_p1 q_p1_least : Nat) (w_p1_town w_p1_on w_p1_back : Value) (v_givers : (Nat → Int32)) (v_takers : (Nat → Int32)) (v_least : (Nat → Int32)) (v_p1_least : (Nat → Int32)) : va_W := [(q_this, .inr (1, [.ref q_givers, .ref q_takers, .ref q_least])), (q_givers, .inl (D.1 100, 8, .inl v_givers)), (q_takers, .inl (D.1 100, 8, .inl v_takers)), (q_least, .inl (D.1 100, 256, .inl v_least)), (q_p1, .inr (7, [w_p1_town, w_p1_on, w_p1_back, .ref q_p1_least])), (q_p1_least, .inl (D.1 100, 36, .inl v_p1_least))]
def f_X1_leastOf_b19 (x5_19 : Int32) (x4_19 : Int32) (x2 : Int32) (v_givers : (Nat → Int32)) (r_bitCount_1_0 : Int32) (v_takers : (Nat → Int32)) (v_p1_least : (Nat → Int32)) (v_least : (Nat → Int32)) : Option ((Int32 × Int32) ⊕ Int32) :=
  (if (8 : Int32) ≤ x5_19 then some (.inr x4_19) else (if ((x2 >>> (x5_19 &&& 31)) &&& (1 : Int32)) = 0 then some (.inl (x4_19, x5_19 + (1 : Int32))) else ga (x2 &&& (((1 : Int32) <<< (x5_19 &&& 31)) ^^^ (-1 : Int32))) 256 (ga x5_19 8 ((f_X8_between (v_givers (Int32.toNatClampNeg (r_bitCount_1_0 - (1 : Int32)))) (v_takers (Int32.toNatClampNeg x5_19)) v_p1_least).bind (fun r_between_2 => some (.inl (if ((v_least (Int32.toNatClampNeg (x2 &&& (((1 : Int32) <<< (x5_19 &&& 31)) ^^^ (-1 : Int32))))) + r_between_2) < x4_19 then ((v_least (Int32.toNatClampNeg (x2 &&& (((1 : Int32) <<< (x5_19 &&& 31)) ^^^ (-1 : Int32))))) + r_between_2) else x4_19, x5_19 + (1 : Int32))))))))
def f_X1_leastOf (N : Nat) (x2 : Int32) (v_givers : (Nat → Int32)) (v_takers : (Nat → Int32)) (v_least : (Nat → Int32)) (v_p1_least : (Nat → Int32)) : Option Int32 :=
  (f_J6_bitCount_0f7a4 x2).bind (fun r_bitCount_1 => ga (r_bitCount_1 - (1 : Int32)) 8 ((lp (fun s_19 => f_X1_leastOf_b19 s_19.2 s_19.1 x2 v_givers r_bitCount_1 v_takers v_p1_least v_least) N ((1000000 : Int32), (0 : Int32))).bind (fun e_19 => some e_19)))
set_option maxRecDepth 100000 in
set_option maxHeartbeats 4000000 in
theorem c_X1_leastOf (l : Launch) (D : va_G) (N : Nat) {q_this q_givers q_takers q_least q_p1 q_p1_least : Nat} {w_p1_town w_p1_on w_p1_back : Value} {v_givers : (Nat → Int32)} {v_takers : (Nat → Int32)} {v_least : (Nat → Int32)} {v_p1_least : (Nat → Int32)} {x2 : Int32} {o : Int32} (h : f_X1_leastOf N x2 v_givers v_takers v_least v_p1_least = some o) : CT l D yX1_leastOf cX1_leastOf 6 (Option.some FieldType.int) 1 [.ref q_this, .ref q_p1, .int x2] (w_X1_leastOf D q_this q_givers q_takers q_least q_p1 q_p1_least w_p1_town w_p1_on w_p1_back v_givers v_takers v_least v_p1_least) (w_X1_leastOf D q_this q_givers q_takers q_least q_p1 q_p1_least w_p1_town w_p1_on w_p1_back v_givers v_takers v_least v_p1_least) (some (.int o)) := by
  refine CT.of mk_X1_leastOf (Nat.le_of_ble_eq_true rfl) (fun g hl hD C E => ?_)
  subst hl
  subst hD
  unfold f_X1_leastOf at h
  refine j_aload_n C dX1_leastOf_0 rfl ?_
  refine j_get C 0 rfl rfl inX1 0 (by decide) kw_203 rfl rfl dX1_leastOf_1 ?_
  refine j_iload_n C dX1_leastOf_4 rfl ?_
  obtain ⟨r_bitCount_1, h_1, h⟩ := of_bind h
  refine j_callS1 C mk_J6_bitCount_0f7a4 ms_J6_bitCount_0f7a4 kw_813 (c_J6_bitCount_0f7a4 (gl g) (gD g) h_1) (by decide) [] rfl rfl rfl rfl rfl (Nat.le_of_ble_eq_true rfl) dX1_leastOf_5 ?_
  refine j_ws (ws' := (w_X1_leastOf (gD g) q_this q_givers q_takers q_least q_p1 q_p1_least w_p1_town w_p1_on w_p1_back v_givers v_takers v_least v_p1_least)) rfl ?_
  refine j_iconst C (1) dX1_leastOf_8 ki_1 ?_
  refine j_isub C dX1_leastOf_9 ?_
  refine j_iaload 1 C h rfl rfl dX1_leastOf_10 (fun h => ?_)
  refine j_istore_n C dX1_leastOf_11 (by decide) ?_
  refine j_ldc C kw_814 dX1_leastOf_12 ?_
  refine j_istore C dX1_leastOf_14 (by decide) ?_
  refine j_iconst C (0) dX1_leastOf_16 ki_0 ?_
  refine j_istore C dX1_leastOf_17 (by decide) ?_
  obtain ⟨e_19, hl_19, h⟩ := of_bind h
  have ha_19 : J g (w_X1_leastOf (gD g) q_this q_givers q_takers q_least q_p1 q_p1_least w_p1_town w_p1_on w_p1_back v_givers v_takers v_least v_p1_least) [(4, .int (e_19))] 74 [] := by
    refine j_iload C dX1_leastOf_74 rfl ?_
    cases h
    exact j_iret C E dX1_leastOf_76
  refine j_lv (lv' := [(0, .ref q_this), (1, .ref q_p1), (2, .int (x2)), (3, .int (v_givers (Int32.toNatClampNeg (r_bitCount_1 - (1 : Int32))))), (4, .int ((1000000 : Int32))), (5, .int ((0 : Int32)))]) rfl ?_
  refine lp_ind hl_19 (fun s_19 => J g (w_X1_leastOf (gD g) q_this q_givers q_takers q_least q_p1 q_p1_least w_p1_town w_p1_on w_p1_back v_givers v_takers v_least v_p1_least) [(0, .ref q_this), (1, .ref q_p1), (2, .int (x2)), (3, .int (v_givers (Int32.toNatClampNeg (r_bitCount_1 - (1 : Int32))))), (4, .int (s_19.1)), (5, .int (s_19.2))] 19 []) (fun s_19 r_19 h hc_19 hx_19 => ?_)
  unfold f_X1_leastOf_b19 at h
  refine j_iload C dX1_leastOf_19 rfl ?_
  refine j_bipush C (8) dX1_leastOf_21 kb_8 ?_
  refine j_icmp_ge C h 74 dX1_leastOf_23 (by decide) (fun hc h => ?_) (fun hc h => ?_)
  · cases h
    have h9 := hx_19 _ rfl
    subst h9
    exact j_lw ha_19 rfl
  · refine j_iload_n C dX1_leastOf_26 rfl ?_
    refine j_iload C dX1_leastOf_27 rfl ?_
    refine j_ishr C dX1_leastOf_29 ?_
    refine j_iconst C (1) dX1_leastOf_30 ki_1 ?_
    refine j_iand C dX1_leastOf_31 ?_
    refine j_if_eq C h 68 dX1_leastOf_32 (by decide) (fun hc h => ?_) (fun hc h => ?_)
    · refine j_inc C (1) dX1_leastOf_68 rfl ki_1 (by decide) ?_
      refine j_goto C 19 dX1_leastOf_71 (by decide) ?_
      cases h
      have hc9 := hc_19 _ rfl
      exact j_lw hc9 rfl
    · refine j_iload C dX1_leastOf_35 rfl ?_
      refine j_aload_n C dX1_leastOf_37 rfl ?_
      refine j_get C 0 rfl rfl inX1 2 (by decide) kw_205 rfl rfl dX1_leastOf_38 ?_
      refine j_iload_n C dX1_leastOf_41 rfl ?_
      refine j_iconst C (1) dX1_leastOf_42 ki_1 ?_
      refine j_iload C dX1_leastOf_43 rfl ?_
      refine j_ishl C dX1_leastOf_45 ?_
      refine j_iconst C (-1) dX1_leastOf_46 ki_m1 ?_
      refine j_ixor C dX1_leastOf_47 ?_
      refine j_iand C dX1_leastOf_48 ?_
      refine j_iaload 3 C h rfl rfl dX1_leastOf_49 (fun h => ?_)
      refine j_aload_n C dX1_leastOf_50 rfl ?_
      refine j_iload_n C dX1_leastOf_51 rfl ?_
      refine j_aload_n C dX1_leastOf_52 rfl ?_
      refine j_get C 0 rfl rfl inX1 1 (by decide) kw_204 rfl rfl dX1_leastOf_53 ?_
      refine j_iload C dX1_leastOf_56 rfl ?_
      refine j_iaload 2 C h rfl rfl dX1_leastOf_58 (fun h => ?_)
      obtain ⟨r_between_2, h_2, h⟩ := of_bind h
      refine j_callV1 C mk_X8_between ms_X8_between kw_815 (c_X8_between (gl g) (gD g) h_2) (by decide) 4 rfl rfl [4, 5] rfl rfl rfl rfl rfl (Nat.le_of_ble_eq_true rfl) dX1_leastOf_59 ?_
      refine j_ws (ws' := (w_X1_leastOf (gD g) q_this q_givers q_takers q_least q_p1 q_p1_least w_p1_town w_p1_on w_p1_back v_givers v_takers v_least v_p1_least)) rfl ?_
      refine j_iadd C dX1_leastOf_62 ?_
      refine j_mmin C (by decide) kw_816 kw_636 kw_19 kw_637 (Nat.le_of_ble_eq_true rfl) dX1_leastOf_63 ?_
      refine j_istore C dX1_leastOf_66 (by decide) ?_
      refine j_inc C (1) dX1_leastOf_68 rfl ki_1 (by decide) ?_
      refine j_goto C 19 dX1_leastOf_71 (by decide) ?_
      cases h
      have hc9 := hc_19 _ rfl
      exact j_lw hc9 rfl

def w_X1_seek (D : va_G) (q_this q_givers q_takers q_least q_p1 q_p1_town q_p1_town_froms q_p1_town_tos q_p1_town_kinds q_p1_least : Nat) (w_p1_on w_p1_back w_p1_town_lengths w_p1_town_figures : Value) (v_givers : (Nat → Int32)) (v_takers : (Nat → Int32)) (v_least : (Nat → Int32)) (v_p1_town_closed : Int32) (v_p1_town_size : Int32) (v_p1_town_home : Int32) (v_p1_town_froms : (Nat → Int32)) (v_p1_town_tos : (Nat → Int32)) (v_p1_town_kinds : (Nat → Int32)) (v_p1_least : (Nat → Int32)) : va_W := [(q_this, .inr (1, [.ref q_givers, .ref q_takers, .ref q_least])), (q_givers, .inl (D.1 100, 8, .inl v_givers)), (q_takers, .inl (D.1 100, 8, .inl v_takers)), (q_least, .inl (D.1 100, 256, .inl v_least)), (q_p1, .inr (7, [.ref q_p1_town, w_p1_on, w_p1_back, .ref q_p1_least])), (q_p1_town, .inr (6, [.ref q_p1_town_froms, .ref q_p1_town_tos, w_p1_town_lengths, .ref q_p1_town_kinds, w_p1_town_figures, .int v_p1_town_closed, .int v_p1_town_size, .int v_p1_town_home])), (q_p1_town_froms, .inl (D.1 100, 8, .inl v_p1_town_froms)), (q_p1_town_tos, .inl (D.1 100, 8, .inl v_p1_town_tos)), (q_p1_town_kinds, .inl (D.1 100, 8, .inl v_p1_town_kinds)), (q_p1_least, .inl (D.1 100, 36, .inl v_p1_least))]
def f_X1_seek_b28 (N : Nat) (r_list_1_0 : Int32) (x3_28 : Int32) (v_least_28 : (Nat → Int32)) (r_list_1_1 : (Nat → Int32)) (r_list_2_1 : (Nat → Int32)) (v_p1_least : (Nat → Int32)) : Option ((Int32 × (Nat → Int32)) ⊕ (Nat → Int32)) :=
  (if ((1 : Int32) <<< (r_list_1_0 &&& 31)) ≤ x3_28 then some (.inr v_least_28) else (f_X1_leastOf N x3_28 r_list_1_1 r_list_2_1 v_least_28 v_p1_least).bind (fun r_leastOf_3 => ga x3_28 256 (some (.inl (x3_28 + (1 : Int32), upd v_least_28 (Int32.toNatClampNeg x3_28) r_leastOf_3)))))
def f_X1_seek (N : Nat) (v_givers : (Nat → Int32)) (v_takers : (Nat → Int32)) (v_least : (Nat → Int32)) (v_p1_town_closed : Int32) (v_p1_town_size : Int32) (v_p1_town_froms : (Nat → Int32)) (v_p1_town_tos : (Nat → Int32)) (v_p1_town_kinds : (Nat → Int32)) (v_p1_least : (Nat → Int32)) : Option (Int32 × (Nat → Int32) × (Nat → Int32) × (Nat → Int32)) :=
  (f_X1_list N (-1 : Int32) v_p1_town_closed v_p1_town_size v_p1_town_froms v_p1_town_tos v_p1_town_kinds v_givers).bind (fun r_list_1 => (f_X1_list N (1 : Int32) v_p1_town_closed v_p1_town_size v_p1_town_froms v_p1_town_tos v_p1_town_kinds v_takers).bind (fun r_list_2 => (lp (fun s_28 => f_X1_seek_b28 N r_list_1.1 s_28.1 s_28.2 r_list_1.2 r_list_2.2 v_p1_least) N ((1 : Int32), v_least)).bind (fun e_28 => ga (((1 : Int32) <<< (r_list_1.1 &&& 31)) - (1 : Int32)) 256 (some (e_28 (Int32.toNatClampNeg (((1 : Int32) <<< (r_list_1.1 &&& 31)) - (1 : Int32))), r_list_1.2, r_list_2.2, e_28)))))
set_option maxRecDepth 100000 in
set_option maxHeartbeats 4000000 in
theorem c_X1_seek (l : Launch) (D : va_G) (N : Nat) {q_this q_givers q_takers q_least q_p1 q_p1_town q_p1_town_froms q_p1_town_tos q_p1_town_kinds q_p1_least : Nat} {w_p1_on w_p1_back w_p1_town_lengths w_p1_town_figures : Value} {v_givers : (Nat → Int32)} {v_takers : (Nat → Int32)} {v_least : (Nat → Int32)} {v_p1_town_closed : Int32} {v_p1_town_size : Int32} {v_p1_town_home : Int32} {v_p1_town_froms : (Nat → Int32)} {v_p1_town_tos : (Nat → Int32)} {v_p1_town_kinds : (Nat → Int32)} {v_p1_least : (Nat → Int32)} {o : (Int32 × (Nat → Int32) × (Nat → Int32) × (Nat → Int32))} (h : f_X1_seek N v_givers v_takers v_least v_p1_town_closed v_p1_town_size v_p1_town_froms v_p1_town_tos v_p1_town_kinds v_p1_least = some o) : CT l D yX1_seek cX1_seek 4 (Option.some FieldType.int) 4 [.ref q_this, .ref q_p1] (w_X1_seek D q_this q_givers q_takers q_least q_p1 q_p1_town q_p1_town_froms q_p1_town_tos q_p1_town_kinds q_p1_least w_p1_on w_p1_back w_p1_town_lengths w_p1_town_figures v_givers v_takers v_least v_p1_town_closed v_p1_town_size v_p1_town_home v_p1_town_froms v_p1_town_tos v_p1_town_kinds v_p1_least) (w_X1_seek D q_this q_givers q_takers q_least q_p1 q_p1_town q_p1_town_froms q_p1_town_tos q_p1_town_kinds q_p1_least w_p1_on w_p1_back w_p1_town_lengths w_p1_town_figures o.2.1 o.2.2.1 o.2.2.2 v_p1_town_closed v_p1_town_size v_p1_town_home v_p1_town_froms v_p1_town_tos v_p1_town_kinds v_p1_least) (some (.int o.1)) := by
  refine CT.of mk_X1_seek (Nat.le_of_ble_eq_true rfl) (fun g hl hD C E => ?_)
  subst hl
  subst hD
  unfold f_X1_seek at h
  refine j_aload_n C dX1_seek_0 rfl ?_
  refine j_get C 4 rfl rfl inX8 0 (by decide) kw_91 rfl rfl dX1_seek_1 ?_
  refine j_aload_n C dX1_seek_4 rfl ?_
  refine j_get C 0 rfl rfl inX1 0 (by decide) kw_203 rfl rfl dX1_seek_5 ?_
  refine j_iconst C (-1) dX1_seek_8 ki_m1 ?_
  obtain ⟨r_list_1, h_1, h⟩ := of_bind h
  refine j_callS1 C mk_X1_list ms_X1_list kw_805 (c_X1_list (gl g) (gD g) N h_1) (by decide) [5, 6, 7, 8, 1] rfl rfl rfl rfl rfl (Nat.le_of_ble_eq_true rfl) dX1_seek_9 ?_
  refine j_ws (ws' := (w_X1_seek (gD g) q_this q_givers q_takers q_least q_p1 q_p1_town q_p1_town_froms q_p1_town_tos q_p1_town_kinds q_p1_least w_p1_on w_p1_back w_p1_town_lengths w_p1_town_figures r_list_1.2 v_takers v_least v_p1_town_closed v_p1_town_size v_p1_town_home v_p1_town_froms v_p1_town_tos v_p1_town_kinds v_p1_least)) rfl ?_
  refine j_istore_n C dX1_seek_12 (by decide) ?_
  refine j_aload_n C dX1_seek_13 rfl ?_
  refine j_get C 4 rfl rfl inX8 0 (by decide) kw_91 rfl rfl dX1_seek_14 ?_
  refine j_aload_n C dX1_seek_17 rfl ?_
  refine j_get C 0 rfl rfl inX1 1 (by decide) kw_204 rfl rfl dX1_seek_18 ?_
  refine j_iconst C (1) dX1_seek_21 ki_1 ?_
  obtain ⟨r_list_2, h_2, h⟩ := of_bind h
  refine j_callS1 C mk_X1_list ms_X1_list kw_805 (c_X1_list (gl g) (gD g) N h_2) (by decide) [5, 6, 7, 8, 2] rfl rfl rfl rfl rfl (Nat.le_of_ble_eq_true rfl) dX1_seek_22 ?_
  refine j_ws (ws' := (w_X1_seek (gD g) q_this q_givers q_takers q_least q_p1 q_p1_town q_p1_town_froms q_p1_town_tos q_p1_town_kinds q_p1_least w_p1_on w_p1_back w_p1_town_lengths w_p1_town_figures r_list_1.2 r_list_2.2 v_least v_p1_town_closed v_p1_town_size v_p1_town_home v_p1_town_froms v_p1_town_tos v_p1_town_kinds v_p1_least)) rfl ?_
  refine j_pop C dX1_seek_25 rfl ?_
  refine j_iconst C (1) dX1_seek_26 ki_1 ?_
  refine j_istore_n C dX1_seek_27 (by decide) ?_
  obtain ⟨e_28, hl_28, h⟩ := of_bind h
  have ha_28 : J g (w_X1_seek (gD g) q_this q_givers q_takers q_least q_p1 q_p1_town q_p1_town_froms q_p1_town_tos q_p1_town_kinds q_p1_least w_p1_on w_p1_back w_p1_town_lengths w_p1_town_figures r_list_1.2 r_list_2.2 e_28 v_p1_town_closed v_p1_town_size v_p1_town_home v_p1_town_froms v_p1_town_tos v_p1_town_kinds v_p1_least) [(0, .ref q_this), (2, .int (r_list_1.1))] 53 [] := by
    refine j_aload_n C dX1_seek_53 rfl ?_
    refine j_get C 0 rfl rfl inX1 2 (by decide) kw_205 rfl rfl dX1_seek_54 ?_
    refine j_iconst C (1) dX1_seek_57 ki_1 ?_
    refine j_iload_n C dX1_seek_58 rfl ?_
    refine j_ishl C dX1_seek_59 ?_
    refine j_iconst C (1) dX1_seek_60 ki_1 ?_
    refine j_isub C dX1_seek_61 ?_
    refine j_iaload 3 C h rfl rfl dX1_seek_62 (fun h => ?_)
    cases h
    exact j_iret C E dX1_seek_63
  refine j_lv (lv' := [(0, .ref q_this), (1, .ref q_p1), (2, .int (r_list_1.1)), (3, .int ((1 : Int32)))]) rfl ?_
  refine lp_ind hl_28 (fun s_28 => J g (w_X1_seek (gD g) q_this q_givers q_takers q_least q_p1 q_p1_town q_p1_town_froms q_p1_town_tos q_p1_town_kinds q_p1_least w_p1_on w_p1_back w_p1_town_lengths w_p1_town_figures r_list_1.2 r_list_2.2 s_28.2 v_p1_town_closed v_p1_town_size v_p1_town_home v_p1_town_froms v_p1_town_tos v_p1_town_kinds v_p1_least) [(0, .ref q_this), (1, .ref q_p1), (2, .int (r_list_1.1)), (3, .int (s_28.1))] 28 []) (fun s_28 r_28 h hc_28 hx_28 => ?_)
  unfold f_X1_seek_b28 at h
  refine j_iload_n C dX1_seek_28 rfl ?_
  refine j_iconst C (1) dX1_seek_29 ki_1 ?_
  refine j_iload_n C dX1_seek_30 rfl ?_
  refine j_ishl C dX1_seek_31 ?_
  refine j_icmp_ge C h 53 dX1_seek_32 (by decide) (fun hc h => ?_) (fun hc h => ?_)
  · cases h
    have h9 := hx_28 _ rfl
    subst h9
    exact j_lw ha_28 rfl
  · refine j_aload_n C dX1_seek_35 rfl ?_
    refine j_get C 0 rfl rfl inX1 2 (by decide) kw_205 rfl rfl dX1_seek_36 ?_
    refine j_iload_n C dX1_seek_39 rfl ?_
    refine j_aload_n C dX1_seek_40 rfl ?_
    refine j_aload_n C dX1_seek_41 rfl ?_
    refine j_iload_n C dX1_seek_42 rfl ?_
    obtain ⟨r_leastOf_3, h_3, h⟩ := of_bind h
    refine j_callV1 C mk_X1_leastOf ms_X1_leastOf kw_809 (c_X1_leastOf (gl g) (gD g) N h_3) (by decide) 0 rfl rfl [0, 1, 2, 3, 4, 9] rfl rfl rfl rfl rfl (Nat.le_of_ble_eq_true rfl) dX1_seek_43 ?_
    refine j_ws (ws' := (w_X1_seek (gD g) q_this q_givers q_takers q_least q_p1 q_p1_town q_p1_town_froms q_p1_town_tos q_p1_town_kinds q_p1_least w_p1_on w_p1_back w_p1_town_lengths w_p1_town_figures r_list_1.2 r_list_2.2 s_28.2 v_p1_town_closed v_p1_town_size v_p1_town_home v_p1_town_froms v_p1_town_tos v_p1_town_kinds v_p1_least)) rfl ?_
    refine j_iastore 3 C h rfl rfl dX1_seek_46 (fun h => ?_)
    refine j_ws (ws' := (w_X1_seek (gD g) q_this q_givers q_takers q_least q_p1 q_p1_town q_p1_town_froms q_p1_town_tos q_p1_town_kinds q_p1_least w_p1_on w_p1_back w_p1_town_lengths w_p1_town_figures r_list_1.2 r_list_2.2 (upd s_28.2 (Int32.toNatClampNeg s_28.1) r_leastOf_3) v_p1_town_closed v_p1_town_size v_p1_town_home v_p1_town_froms v_p1_town_tos v_p1_town_kinds v_p1_least)) rfl ?_
    refine j_inc C (1) dX1_seek_47 rfl ki_1 (by decide) ?_
    refine j_goto C 28 dX1_seek_50 (by decide) ?_
    cases h
    have hc9 := hc_28 _ rfl
    exact j_lw hc9 rfl

def w_X0_mostOf (D : va_G) (q_this q_sets q_p1 q_p1_ways q_p1_ways_town q_p1_costLeft : Nat) (w_tried w_best w_p1_costFirst w_p1_streets w_p1_corners w_p1_costs w_p1_again w_p1_ways_on w_p1_ways_back w_p1_ways_least w_p1_ways_town_froms w_p1_ways_town_tos w_p1_ways_town_lengths w_p1_ways_town_kinds w_p1_ways_town_figures : Value) (v_postmen : Int32) (v_isFound : Int32) (v_greatest : Int32) (v_together : Int32) (v_busy : Int32) (v_sets : (Nat → Int32)) (v_p1_isSought : Int32) (v_p1_due : Int32) (v_p1_size : Int32) (v_p1_ways_town_closed : Int32) (v_p1_ways_town_size : Int32) (v_p1_ways_town_home : Int32) (v_p1_costLeft : (Nat → Int32)) : va_W := [(q_this, .inr (0, [.ref q_sets, w_tried, .int v_postmen, w_best, .int v_isFound, .int v_greatest, .int v_together, .int v_busy])), (q_sets, .inl (D.1 100, 3, .inl v_sets)), (q_p1, .inr (5, [.ref q_p1_ways, .ref q_p1_costLeft, w_p1_costFirst, .int v_p1_isSought, .int v_p1_due, .int v_p1_size, w_p1_streets, w_p1_corners, w_p1_costs, w_p1_again])), (q_p1_ways, .inr (7, [.ref q_p1_ways_town, w_p1_ways_on, w_p1_ways_back, w_p1_ways_least])), (q_p1_ways_town, .inr (6, [w_p1_ways_town_froms, w_p1_ways_town_tos, w_p1_ways_town_lengths, w_p1_ways_town_kinds, w_p1_ways_town_figures, .int v_p1_ways_town_closed, .int v_p1_ways_town_size, .int v_p1_ways_town_home])), (q_p1_costLeft, .inl (D.1 100, 1536, .inl v_p1_costLeft))]
def f_X0_mostOf_b4 (v_postmen : Int32) (x3_4 : Int32) (x2_4 : Int32) (v_sets : (Nat → Int32)) (v_p1_ways_town_home : Int32) (v_p1_costLeft : (Nat → Int32)) : Option ((Int32 × Int32) ⊕ Int32) :=
  (if v_postmen ≤ x3_4 then some (.inr x2_4) else ga x3_4 3 ((f_X6_costOfSet (v_sets (Int32.toNatClampNeg x3_4)) v_p1_ways_town_home v_p1_costLeft).bind (fun r_costOfSet_1 => some (.inl (if x2_4 < r_costOfSet_1 then r_costOfSet_1 else x2_4, x3_4 + (1 : Int32))))))
def f_X0_mostOf (N : Nat) (v_postmen : Int32) (v_sets : (Nat → Int32)) (v_p1_ways_town_home : Int32) (v_p1_costLeft : (Nat → Int32)) : Option Int32 :=
  (lp (fun s_4 => f_X0_mostOf_b4 v_postmen s_4.2 s_4.1 v_sets v_p1_ways_town_home v_p1_costLeft) N ((0 : Int32), (0 : Int32))).bind (fun e_4 => some e_4)
set_option maxRecDepth 100000 in
set_option maxHeartbeats 4000000 in
theorem c_X0_mostOf (l : Launch) (D : va_G) (N : Nat) {q_this q_sets q_p1 q_p1_ways q_p1_ways_town q_p1_costLeft : Nat} {w_tried w_best w_p1_costFirst w_p1_streets w_p1_corners w_p1_costs w_p1_again w_p1_ways_on w_p1_ways_back w_p1_ways_least w_p1_ways_town_froms w_p1_ways_town_tos w_p1_ways_town_lengths w_p1_ways_town_kinds w_p1_ways_town_figures : Value} {v_postmen : Int32} {v_isFound : Int32} {v_greatest : Int32} {v_together : Int32} {v_busy : Int32} {v_sets : (Nat → Int32)} {v_p1_isSought : Int32} {v_p1_due : Int32} {v_p1_size : Int32} {v_p1_ways_town_closed : Int32} {v_p1_ways_town_size : Int32} {v_p1_ways_town_home : Int32} {v_p1_costLeft : (Nat → Int32)} {o : Int32} (h : f_X0_mostOf N v_postmen v_sets v_p1_ways_town_home v_p1_costLeft = some o) : CT l D yX0_mostOf cX0_mostOf 4 (Option.some FieldType.int) 1 [.ref q_this, .ref q_p1] (w_X0_mostOf D q_this q_sets q_p1 q_p1_ways q_p1_ways_town q_p1_costLeft w_tried w_best w_p1_costFirst w_p1_streets w_p1_corners w_p1_costs w_p1_again w_p1_ways_on w_p1_ways_back w_p1_ways_least w_p1_ways_town_froms w_p1_ways_town_tos w_p1_ways_town_lengths w_p1_ways_town_kinds w_p1_ways_town_figures v_postmen v_isFound v_greatest v_together v_busy v_sets v_p1_isSought v_p1_due v_p1_size v_p1_ways_town_closed v_p1_ways_town_size v_p1_ways_town_home v_p1_costLeft) (w_X0_mostOf D q_this q_sets q_p1 q_p1_ways q_p1_ways_town q_p1_costLeft w_tried w_best w_p1_costFirst w_p1_streets w_p1_corners w_p1_costs w_p1_again w_p1_ways_on w_p1_ways_back w_p1_ways_least w_p1_ways_town_froms w_p1_ways_town_tos w_p1_ways_town_lengths w_p1_ways_town_kinds w_p1_ways_town_figures v_postmen v_isFound v_greatest v_together v_busy v_sets v_p1_isSought v_p1_due v_p1_size v_p1_ways_town_closed v_p1_ways_town_size v_p1_ways_town_home v_p1_costLeft) (some (.int o)) := by
  refine CT.of mk_X0_mostOf (Nat.le_of_ble_eq_true rfl) (fun g hl hD C E => ?_)
  subst hl
  subst hD
  unfold f_X0_mostOf at h
  refine j_iconst C (0) dX0_mostOf_0 ki_0 ?_
  refine j_istore_n C dX0_mostOf_1 (by decide) ?_
  refine j_iconst C (0) dX0_mostOf_2 ki_0 ?_
  refine j_istore_n C dX0_mostOf_3 (by decide) ?_
  obtain ⟨e_4, hl_4, h⟩ := of_bind h
  have ha_4 : J g (w_X0_mostOf (gD g) q_this q_sets q_p1 q_p1_ways q_p1_ways_town q_p1_costLeft w_tried w_best w_p1_costFirst w_p1_streets w_p1_corners w_p1_costs w_p1_again w_p1_ways_on w_p1_ways_back w_p1_ways_least w_p1_ways_town_froms w_p1_ways_town_tos w_p1_ways_town_lengths w_p1_ways_town_kinds w_p1_ways_town_figures v_postmen v_isFound v_greatest v_together v_busy v_sets v_p1_isSought v_p1_due v_p1_size v_p1_ways_town_closed v_p1_ways_town_size v_p1_ways_town_home v_p1_costLeft) [(2, .int (e_4))] 33 [] := by
    refine j_iload_n C dX0_mostOf_33 rfl ?_
    cases h
    exact j_iret C E dX0_mostOf_34
  refine j_lv (lv' := [(0, .ref q_this), (1, .ref q_p1), (2, .int ((0 : Int32))), (3, .int ((0 : Int32)))]) rfl ?_
  refine lp_ind hl_4 (fun s_4 => J g (w_X0_mostOf (gD g) q_this q_sets q_p1 q_p1_ways q_p1_ways_town q_p1_costLeft w_tried w_best w_p1_costFirst w_p1_streets w_p1_corners w_p1_costs w_p1_again w_p1_ways_on w_p1_ways_back w_p1_ways_least w_p1_ways_town_froms w_p1_ways_town_tos w_p1_ways_town_lengths w_p1_ways_town_kinds w_p1_ways_town_figures v_postmen v_isFound v_greatest v_together v_busy v_sets v_p1_isSought v_p1_due v_p1_size v_p1_ways_town_closed v_p1_ways_town_size v_p1_ways_town_home v_p1_costLeft) [(0, .ref q_this), (1, .ref q_p1), (2, .int (s_4.1)), (3, .int (s_4.2))] 4 []) (fun s_4 r_4 h hc_4 hx_4 => ?_)
  unfold f_X0_mostOf_b4 at h
  refine j_iload_n C dX0_mostOf_4 rfl ?_
  refine j_aload_n C dX0_mostOf_5 rfl ?_
  refine j_get C 0 rfl rfl inX0 2 (by decide) kw_221 rfl rfl dX0_mostOf_6 ?_
  refine j_icmp_ge C h 33 dX0_mostOf_9 (by decide) (fun hc h => ?_) (fun hc h => ?_)
  · cases h
    have h9 := hx_4 _ rfl
    subst h9
    exact j_lw ha_4 rfl
  · refine j_iload_n C dX0_mostOf_12 rfl ?_
    refine j_aload_n C dX0_mostOf_13 rfl ?_
    refine j_aload_n C dX0_mostOf_14 rfl ?_
    refine j_get C 0 rfl rfl inX0 0 (by decide) kw_219 rfl rfl dX0_mostOf_15 ?_
    refine j_iload_n C dX0_mostOf_18 rfl ?_
    refine j_iaload 1 C h rfl rfl dX0_mostOf_19 (fun h => ?_)
    obtain ⟨r_costOfSet_1, h_1, h⟩ := of_bind h
    refine j_callV1 C mk_X6_costOfSet ms_X6_costOfSet kw_879 (c_X6_costOfSet (gl g) (gD g) h_1) (by decide) 2 rfl rfl [2, 3, 4, 5] rfl rfl rfl rfl rfl (Nat.le_of_ble_eq_true rfl) dX0_mostOf_20 ?_
    refine j_ws (ws' := (w_X0_mostOf (gD g) q_this q_sets q_p1 q_p1_ways q_p1_ways_town q_p1_costLeft w_tried w_best w_p1_costFirst w_p1_streets w_p1_corners w_p1_costs w_p1_again w_p1_ways_on w_p1_ways_back w_p1_ways_least w_p1_ways_town_froms w_p1_ways_town_tos w_p1_ways_town_lengths w_p1_ways_town_kinds w_p1_ways_town_figures v_postmen v_isFound v_greatest v_together v_busy v_sets v_p1_isSought v_p1_due v_p1_size v_p1_ways_town_closed v_p1_ways_town_size v_p1_ways_town_home v_p1_costLeft)) rfl ?_
    refine j_mmax C (by decide) kw_883 kw_884 kw_19 kw_885 (Nat.le_of_ble_eq_true rfl) dX0_mostOf_23 ?_
    refine j_istore_n C dX0_mostOf_26 (by decide) ?_
    refine j_inc C (1) dX0_mostOf_27 rfl ki_1 (by decide) ?_
    refine j_goto C 4 dX0_mostOf_30 (by decide) ?_
    cases h
    have hc9 := hc_4 _ rfl
    exact j_lw hc9 rfl

def w_X0_sumOf (D : va_G) (q_this q_sets q_p1 q_p1_ways q_p1_ways_town q_p1_costLeft : Nat) (w_tried w_best w_p1_costFirst w_p1_streets w_p1_corners w_p1_costs w_p1_again w_p1_ways_on w_p1_ways_back w_p1_ways_least w_p1_ways_town_froms w_p1_ways_town_tos w_p1_ways_town_lengths w_p1_ways_town_kinds w_p1_ways_town_figures : Value) (v_postmen : Int32) (v_isFound : Int32) (v_greatest : Int32) (v_together : Int32) (v_busy : Int32) (v_sets : (Nat → Int32)) (v_p1_isSought : Int32) (v_p1_due : Int32) (v_p1_size : Int32) (v_p1_ways_town_closed : Int32) (v_p1_ways_town_size : Int32) (v_p1_ways_town_home : Int32) (v_p1_costLeft : (Nat → Int32)) : va_W := [(q_this, .inr (0, [.ref q_sets, w_tried, .int v_postmen, w_best, .int v_isFound, .int v_greatest, .int v_together, .int v_busy])), (q_sets, .inl (D.1 100, 3, .inl v_sets)), (q_p1, .inr (5, [.ref q_p1_ways, .ref q_p1_costLeft, w_p1_costFirst, .int v_p1_isSought, .int v_p1_due, .int v_p1_size, w_p1_streets, w_p1_corners, w_p1_costs, w_p1_again])), (q_p1_ways, .inr (7, [.ref q_p1_ways_town, w_p1_ways_on, w_p1_ways_back, w_p1_ways_least])), (q_p1_ways_town, .inr (6, [w_p1_ways_town_froms, w_p1_ways_town_tos, w_p1_ways_town_lengths, w_p1_ways_town_kinds, w_p1_ways_town_figures, .int v_p1_ways_town_closed, .int v_p1_ways_town_size, .int v_p1_ways_town_home])), (q_p1_costLeft, .inl (D.1 100, 1536, .inl v_p1_costLeft))]
def f_X0_sumOf_b4 (v_postmen : Int32) (x3_4 : Int32) (x2_4 : Int32) (v_sets : (Nat → Int32)) (v_p1_ways_town_home : Int32) (v_p1_costLeft : (Nat → Int32)) : Option ((Int32 × Int32) ⊕ Int32) :=
  (if v_postmen ≤ x3_4 then some (.inr x2_4) else ga x3_4 3 ((f_X6_costOfSet (v_sets (Int32.toNatClampNeg x3_4)) v_p1_ways_town_home v_p1_costLeft).bind (fun r_costOfSet_1 => some (.inl (x2_4 + r_costOfSet_1, x3_4 + (1 : Int32))))))
def f_X0_sumOf (N : Nat) (v_postmen : Int32) (v_sets : (Nat → Int32)) (v_p1_ways_town_home : Int32) (v_p1_costLeft : (Nat → Int32)) : Option Int32 :=
  (lp (fun s_4 => f_X0_sumOf_b4 v_postmen s_4.2 s_4.1 v_sets v_p1_ways_town_home v_p1_costLeft) N ((0 : Int32), (0 : Int32))).bind (fun e_4 => some e_4)
set_option maxRecDepth 100000 in
set_option maxHeartbeats 4000000 in
theorem c_X0_sumOf (l : Launch) (D : va_G) (N : Nat) {q_this q_sets q_p1 q_p1_ways q_p1_ways_town q_p1_costLeft : Nat} {w_tried w_best w_p1_costFirst w_p1_streets w_p1_corners w_p1_costs w_p1_again w_p1_ways_on w_p1_ways_back w_p1_ways_least w_p1_ways_town_froms w_p1_ways_town_tos w_p1_ways_town_lengths w_p1_ways_town_kinds w_p1_ways_town_figures : Value} {v_postmen : Int32} {v_isFound : Int32} {v_greatest : Int32} {v_together : Int32} {v_busy : Int32} {v_sets : (Nat → Int32)} {v_p1_isSought : Int32} {v_p1_due : Int32} {v_p1_size : Int32} {v_p1_ways_town_closed : Int32} {v_p1_ways_town_size : Int32} {v_p1_ways_town_home : Int32} {v_p1_costLeft : (Nat → Int32)} {o : Int32} (h : f_X0_sumOf N v_postmen v_sets v_p1_ways_town_home v_p1_costLeft = some o) : CT l D yX0_sumOf cX0_sumOf 4 (Option.some FieldType.int) 1 [.ref q_this, .ref q_p1] (w_X0_sumOf D q_this q_sets q_p1 q_p1_ways q_p1_ways_town q_p1_costLeft w_tried w_best w_p1_costFirst w_p1_streets w_p1_corners w_p1_costs w_p1_again w_p1_ways_on w_p1_ways_back w_p1_ways_least w_p1_ways_town_froms w_p1_ways_town_tos w_p1_ways_town_lengths w_p1_ways_town_kinds w_p1_ways_town_figures v_postmen v_isFound v_greatest v_together v_busy v_sets v_p1_isSought v_p1_due v_p1_size v_p1_ways_town_closed v_p1_ways_town_size v_p1_ways_town_home v_p1_costLeft) (w_X0_sumOf D q_this q_sets q_p1 q_p1_ways q_p1_ways_town q_p1_costLeft w_tried w_best w_p1_costFirst w_p1_streets w_p1_corners w_p1_costs w_p1_again w_p1_ways_on w_p1_ways_back w_p1_ways_least w_p1_ways_town_froms w_p1_ways_town_tos w_p1_ways_town_lengths w_p1_ways_town_kinds w_p1_ways_town_figures v_postmen v_isFound v_greatest v_together v_busy v_sets v_p1_isSought v_p1_due v_p1_size v_p1_ways_town_closed v_p1_ways_town_size v_p1_ways_town_home v_p1_costLeft) (some (.int o)) := by
  refine CT.of mk_X0_sumOf (Nat.le_of_ble_eq_true rfl) (fun g hl hD C E => ?_)
  subst hl
  subst hD
  unfold f_X0_sumOf at h
  refine j_iconst C (0) dX0_sumOf_0 ki_0 ?_
  refine j_istore_n C dX0_sumOf_1 (by decide) ?_
  refine j_iconst C (0) dX0_sumOf_2 ki_0 ?_
  refine j_istore_n C dX0_sumOf_3 (by decide) ?_
  obtain ⟨e_4, hl_4, h⟩ := of_bind h
  have ha_4 : J g (w_X0_sumOf (gD g) q_this q_sets q_p1 q_p1_ways q_p1_ways_town q_p1_costLeft w_tried w_best w_p1_costFirst w_p1_streets w_p1_corners w_p1_costs w_p1_again w_p1_ways_on w_p1_ways_back w_p1_ways_least w_p1_ways_town_froms w_p1_ways_town_tos w_p1_ways_town_lengths w_p1_ways_town_kinds w_p1_ways_town_figures v_postmen v_isFound v_greatest v_together v_busy v_sets v_p1_isSought v_p1_due v_p1_size v_p1_ways_town_closed v_p1_ways_town_size v_p1_ways_town_home v_p1_costLeft) [(2, .int (e_4))] 31 [] := by
    refine j_iload_n C dX0_sumOf_31 rfl ?_
    cases h
    exact j_iret C E dX0_sumOf_32
  refine j_lv (lv' := [(0, .ref q_this), (1, .ref q_p1), (2, .int ((0 : Int32))), (3, .int ((0 : Int32)))]) rfl ?_
  refine lp_ind hl_4 (fun s_4 => J g (w_X0_sumOf (gD g) q_this q_sets q_p1 q_p1_ways q_p1_ways_town q_p1_costLeft w_tried w_best w_p1_costFirst w_p1_streets w_p1_corners w_p1_costs w_p1_again w_p1_ways_on w_p1_ways_back w_p1_ways_least w_p1_ways_town_froms w_p1_ways_town_tos w_p1_ways_town_lengths w_p1_ways_town_kinds w_p1_ways_town_figures v_postmen v_isFound v_greatest v_together v_busy v_sets v_p1_isSought v_p1_due v_p1_size v_p1_ways_town_closed v_p1_ways_town_size v_p1_ways_town_home v_p1_costLeft) [(0, .ref q_this), (1, .ref q_p1), (2, .int (s_4.1)), (3, .int (s_4.2))] 4 []) (fun s_4 r_4 h hc_4 hx_4 => ?_)
  unfold f_X0_sumOf_b4 at h
  refine j_iload_n C dX0_sumOf_4 rfl ?_
  refine j_aload_n C dX0_sumOf_5 rfl ?_
  refine j_get C 0 rfl rfl inX0 2 (by decide) kw_221 rfl rfl dX0_sumOf_6 ?_
  refine j_icmp_ge C h 31 dX0_sumOf_9 (by decide) (fun hc h => ?_) (fun hc h => ?_)
  · cases h
    have h9 := hx_4 _ rfl
    subst h9
    exact j_lw ha_4 rfl
  · refine j_iload_n C dX0_sumOf_12 rfl ?_
    refine j_aload_n C dX0_sumOf_13 rfl ?_
    refine j_aload_n C dX0_sumOf_14 rfl ?_
    refine j_get C 0 rfl rfl inX0 0 (by decide) kw_219 rfl rfl dX0_sumOf_15 ?_
    refine j_iload_n C dX0_sumOf_18 rfl ?_
    refine j_iaload 1 C h rfl rfl dX0_sumOf_19 (fun h => ?_)
    obtain ⟨r_costOfSet_1, h_1, h⟩ := of_bind h
    refine j_callV1 C mk_X6_costOfSet ms_X6_costOfSet kw_879 (c_X6_costOfSet (gl g) (gD g) h_1) (by decide) 2 rfl rfl [2, 3, 4, 5] rfl rfl rfl rfl rfl (Nat.le_of_ble_eq_true rfl) dX0_sumOf_20 ?_
    refine j_ws (ws' := (w_X0_sumOf (gD g) q_this q_sets q_p1 q_p1_ways q_p1_ways_town q_p1_costLeft w_tried w_best w_p1_costFirst w_p1_streets w_p1_corners w_p1_costs w_p1_again w_p1_ways_on w_p1_ways_back w_p1_ways_least w_p1_ways_town_froms w_p1_ways_town_tos w_p1_ways_town_lengths w_p1_ways_town_kinds w_p1_ways_town_figures v_postmen v_isFound v_greatest v_together v_busy v_sets v_p1_isSought v_p1_due v_p1_size v_p1_ways_town_closed v_p1_ways_town_size v_p1_ways_town_home v_p1_costLeft)) rfl ?_
    refine j_iadd C dX0_sumOf_23 ?_
    refine j_istore_n C dX0_sumOf_24 (by decide) ?_
    refine j_inc C (1) dX0_sumOf_25 rfl ki_1 (by decide) ?_
    refine j_goto C 4 dX0_sumOf_28 (by decide) ?_
    cases h
    have hc9 := hc_4 _ rfl
    exact j_lw hc9 rfl

def w_X0_isBetter (D : va_G) (q_this q_sets q_p1 q_p1_ways q_p1_ways_town q_p1_costLeft : Nat) (w_tried w_best w_p1_costFirst w_p1_streets w_p1_corners w_p1_costs w_p1_again w_p1_ways_on w_p1_ways_back w_p1_ways_least w_p1_ways_town_froms w_p1_ways_town_tos w_p1_ways_town_lengths w_p1_ways_town_kinds w_p1_ways_town_figures : Value) (v_postmen : Int32) (v_isFound : Int32) (v_greatest : Int32) (v_together : Int32) (v_busy : Int32) (v_sets : (Nat → Int32)) (v_p1_isSought : Int32) (v_p1_due : Int32) (v_p1_size : Int32) (v_p1_ways_town_closed : Int32) (v_p1_ways_town_size : Int32) (v_p1_ways_town_home : Int32) (v_p1_costLeft : (Nat → Int32)) : va_W := [(q_this, .inr (0, [.ref q_sets, w_tried, .int v_postmen, w_best, .int v_isFound, .int v_greatest, .int v_together, .int v_busy])), (q_sets, .inl (D.1 100, 3, .inl v_sets)), (q_p1, .inr (5, [.ref q_p1_ways, .ref q_p1_costLeft, w_p1_costFirst, .int v_p1_isSought, .int v_p1_due, .int v_p1_size, w_p1_streets, w_p1_corners, w_p1_costs, w_p1_again])), (q_p1_ways, .inr (7, [.ref q_p1_ways_town, w_p1_ways_on, w_p1_ways_back, w_p1_ways_least])), (q_p1_ways_town, .inr (6, [w_p1_ways_town_froms, w_p1_ways_town_tos, w_p1_ways_town_lengths, w_p1_ways_town_kinds, w_p1_ways_town_figures, .int v_p1_ways_town_closed, .int v_p1_ways_town_size, .int v_p1_ways_town_home])), (q_p1_costLeft, .inl (D.1 100, 1536, .inl v_p1_costLeft))]
def f_X0_isBetter (N : Nat) (v_postmen : Int32) (v_isFound : Int32) (v_greatest : Int32) (v_together : Int32) (v_sets : (Nat → Int32)) (v_p1_ways_town_home : Int32) (v_p1_costLeft : (Nat → Int32)) : Option Int32 :=
  (f_X0_mostOf N v_postmen v_sets v_p1_ways_town_home v_p1_costLeft).bind (fun r_mostOf_1 => (if r_mostOf_1 < (1000000 : Int32) then (if v_isFound = 0 then some (1 : Int32) else (if r_mostOf_1 < v_greatest then some (1 : Int32) else (if r_mostOf_1 = v_greatest then (f_X0_sumOf N v_postmen v_sets v_p1_ways_town_home v_p1_costLeft).bind (fun r_sumOf_2 => gb (if v_together ≤ r_sumOf_2 then (0 : Int32) else (1 : Int32)) (some (if v_together ≤ r_sumOf_2 then (0 : Int32) else (1 : Int32)))) else some (0 : Int32)))) else some (0 : Int32)))
set_option maxRecDepth 100000 in
set_option maxHeartbeats 4000000 in
theorem c_X0_isBetter (l : Launch) (D : va_G) (N : Nat) {q_this q_sets q_p1 q_p1_ways q_p1_ways_town q_p1_costLeft : Nat} {w_tried w_best w_p1_costFirst w_p1_streets w_p1_corners w_p1_costs w_p1_again w_p1_ways_on w_p1_ways_back w_p1_ways_least w_p1_ways_town_froms w_p1_ways_town_tos w_p1_ways_town_lengths w_p1_ways_town_kinds w_p1_ways_town_figures : Value} {v_postmen : Int32} {v_isFound : Int32} {v_greatest : Int32} {v_together : Int32} {v_busy : Int32} {v_sets : (Nat → Int32)} {v_p1_isSought : Int32} {v_p1_due : Int32} {v_p1_size : Int32} {v_p1_ways_town_closed : Int32} {v_p1_ways_town_size : Int32} {v_p1_ways_town_home : Int32} {v_p1_costLeft : (Nat → Int32)} {o : Int32} (h : f_X0_isBetter N v_postmen v_isFound v_greatest v_together v_sets v_p1_ways_town_home v_p1_costLeft = some o) : CT l D yX0_isBetter cX0_isBetter 3 (Option.some FieldType.boolean) 2 [.ref q_this, .ref q_p1] (w_X0_isBetter D q_this q_sets q_p1 q_p1_ways q_p1_ways_town q_p1_costLeft w_tried w_best w_p1_costFirst w_p1_streets w_p1_corners w_p1_costs w_p1_again w_p1_ways_on w_p1_ways_back w_p1_ways_least w_p1_ways_town_froms w_p1_ways_town_tos w_p1_ways_town_lengths w_p1_ways_town_kinds w_p1_ways_town_figures v_postmen v_isFound v_greatest v_together v_busy v_sets v_p1_isSought v_p1_due v_p1_size v_p1_ways_town_closed v_p1_ways_town_size v_p1_ways_town_home v_p1_costLeft) (w_X0_isBetter D q_this q_sets q_p1 q_p1_ways q_p1_ways_town q_p1_costLeft w_tried w_best w_p1_costFirst w_p1_streets w_p1_corners w_p1_costs w_p1_again w_p1_ways_on w_p1_ways_back w_p1_ways_least w_p1_ways_town_froms w_p1_ways_town_tos w_p1_ways_town_lengths w_p1_ways_town_kinds w_p1_ways_town_figures v_postmen v_isFound v_greatest v_together v_busy v_sets v_p1_isSought v_p1_due v_p1_size v_p1_ways_town_closed v_p1_ways_town_size v_p1_ways_town_home v_p1_costLeft) (some (.int o)) := by
  refine CT.of mk_X0_isBetter (Nat.le_of_ble_eq_true rfl) (fun g hl hD C E => ?_)
  subst hl
  subst hD
  unfold f_X0_isBetter at h
  refine j_aload_n C dX0_isBetter_0 rfl ?_
  refine j_aload_n C dX0_isBetter_1 rfl ?_
  obtain ⟨r_mostOf_1, h_1, h⟩ := of_bind h
  refine j_callV1 C mk_X0_mostOf ms_X0_mostOf kw_875 (c_X0_mostOf (gl g) (gD g) N h_1) (by decide) 0 rfl rfl [0, 1, 2, 3, 4, 5] rfl rfl rfl rfl rfl (Nat.le_of_ble_eq_true rfl) dX0_isBetter_2 ?_
  refine j_ws (ws' := (w_X0_isBetter (gD g) q_this q_sets q_p1 q_p1_ways q_p1_ways_town q_p1_costLeft w_tried w_best w_p1_costFirst w_p1_streets w_p1_corners w_p1_costs w_p1_again w_p1_ways_on w_p1_ways_back w_p1_ways_least w_p1_ways_town_froms w_p1_ways_town_tos w_p1_ways_town_lengths w_p1_ways_town_kinds w_p1_ways_town_figures v_postmen v_isFound v_greatest v_together v_busy v_sets v_p1_isSought v_p1_due v_p1_size v_p1_ways_town_closed v_p1_ways_town_size v_p1_ways_town_home v_p1_costLeft)) rfl ?_
  refine j_istore_n C dX0_isBetter_5 (by decide) ?_
  refine j_iload_n C dX0_isBetter_6 rfl ?_
  refine j_ldc C kw_886 dX0_isBetter_7 ?_
  refine j_icmp_lt C h 14 dX0_isBetter_9 (by decide) (fun hc h => ?_) (fun hc h => ?_)
  · refine j_aload_n C dX0_isBetter_14 rfl ?_
    refine j_get C 0 rfl rfl inX0 4 (by decide) kw_224 rfl rfl dX0_isBetter_15 ?_
    refine j_if_eq C h 49 dX0_isBetter_18 (by decide) (fun hc h => ?_) (fun hc h => ?_)
    · refine j_iconst C (1) dX0_isBetter_49 ki_1 ?_
      refine j_goto C 54 dX0_isBetter_50 (by decide) ?_
      cases h
      exact j_zret C E rfl dX0_isBetter_54
    · refine j_iload_n C dX0_isBetter_21 rfl ?_
      refine j_aload_n C dX0_isBetter_22 rfl ?_
      refine j_get C 0 rfl rfl inX0 5 (by decide) kw_226 rfl rfl dX0_isBetter_23 ?_
      refine j_icmp_lt C h 49 dX0_isBetter_26 (by decide) (fun hc h => ?_) (fun hc h => ?_)
      · refine j_iconst C (1) dX0_isBetter_49 ki_1 ?_
        refine j_goto C 54 dX0_isBetter_50 (by decide) ?_
        cases h
        exact j_zret C E rfl dX0_isBetter_54
      · refine j_iload_n C dX0_isBetter_29 rfl ?_
        refine j_aload_n C dX0_isBetter_30 rfl ?_
        refine j_get C 0 rfl rfl inX0 5 (by decide) kw_226 rfl rfl dX0_isBetter_31 ?_
        refine j_icmp_ne C h 53 dX0_isBetter_34 (by decide) (fun hc h => ?_) (fun hc h => ?_)
        · refine j_aload_n C dX0_isBetter_37 rfl ?_
          refine j_aload_n C dX0_isBetter_38 rfl ?_
          obtain ⟨r_sumOf_2, h_2, h⟩ := of_bind h
          refine j_callV1 C mk_X0_sumOf ms_X0_sumOf kw_887 (c_X0_sumOf (gl g) (gD g) N h_2) (by decide) 0 rfl rfl [0, 1, 2, 3, 4, 5] rfl rfl rfl rfl rfl (Nat.le_of_ble_eq_true rfl) dX0_isBetter_39 ?_
          refine j_ws (ws' := (w_X0_isBetter (gD g) q_this q_sets q_p1 q_p1_ways q_p1_ways_town q_p1_costLeft w_tried w_best w_p1_costFirst w_p1_streets w_p1_corners w_p1_costs w_p1_again w_p1_ways_on w_p1_ways_back w_p1_ways_least w_p1_ways_town_froms w_p1_ways_town_tos w_p1_ways_town_lengths w_p1_ways_town_kinds w_p1_ways_town_figures v_postmen v_isFound v_greatest v_together v_busy v_sets v_p1_isSought v_p1_due v_p1_size v_p1_ways_town_closed v_p1_ways_town_size v_p1_ways_town_home v_p1_costLeft)) rfl ?_
          refine j_aload_n C dX0_isBetter_42 rfl ?_
          refine j_get C 0 rfl rfl inX0 6 (by decide) kw_228 rfl rfl dX0_isBetter_43 ?_
          have hj_3 : J g (w_X0_isBetter (gD g) q_this q_sets q_p1 q_p1_ways q_p1_ways_town q_p1_costLeft w_tried w_best w_p1_costFirst w_p1_streets w_p1_corners w_p1_costs w_p1_again w_p1_ways_on w_p1_ways_back w_p1_ways_least w_p1_ways_town_froms w_p1_ways_town_tos w_p1_ways_town_lengths w_p1_ways_town_kinds w_p1_ways_town_figures v_postmen v_isFound v_greatest v_together v_busy v_sets v_p1_isSought v_p1_due v_p1_size v_p1_ways_town_closed v_p1_ways_town_size v_p1_ways_town_home v_p1_costLeft) [] 54 [.int (if v_together ≤ r_sumOf_2 then (0 : Int32) else (1 : Int32))] := by
            obtain ⟨hz, h⟩ := of_gb h
            cases h
            exact j_zret C E hz.1 dX0_isBetter_54
          refine jv_icmp_ge C 53 dX0_isBetter_46 (by decide) (fun hc => ?_) (fun hc => ?_)
          · try simp only [if_pos hc] at hj_3
            refine j_iconst C (0) dX0_isBetter_53 ki_0 ?_
            exact j_lw hj_3 rfl
          · try simp only [if_neg hc] at hj_3
            refine j_iconst C (1) dX0_isBetter_49 ki_1 ?_
            refine j_goto C 54 dX0_isBetter_50 (by decide) ?_
            exact j_lw hj_3 rfl
        · refine j_iconst C (0) dX0_isBetter_53 ki_0 ?_
          cases h
          exact j_zret C E rfl dX0_isBetter_54
  · refine j_iconst C (0) dX0_isBetter_12 ki_0 ?_
    cases h
    exact j_zret C E rfl dX0_isBetter_13

def w_X0_keep (D : va_G) (q_this q_sets q_tried q_best q_p1 q_p1_ways q_p1_ways_town q_p1_costLeft : Nat) (w_p1_costFirst w_p1_streets w_p1_corners w_p1_costs w_p1_again w_p1_ways_on w_p1_ways_back w_p1_ways_least w_p1_ways_town_froms w_p1_ways_town_tos w_p1_ways_town_lengths w_p1_ways_town_kinds w_p1_ways_town_figures : Value) (v_postmen : Int32) (v_isFound : Int32) (v_greatest : Int32) (v_together : Int32) (v_busy : Int32) (v_sets : (Nat → Int32)) (v_tried : (Nat → Int32)) (v_best : (Nat → Int32)) (v_p1_isSought : Int32) (v_p1_due : Int32) (v_p1_size : Int32) (v_p1_ways_town_closed : Int32) (v_p1_ways_town_size : Int32) (v_p1_ways_town_home : Int32) (v_p1_costLeft : (Nat → Int32)) : va_W := [(q_this, .inr (0, [.ref q_sets, .ref q_tried, .int v_postmen, .ref q_best, .int v_isFound, .int v_greatest, .int v_together, .int v_busy])), (q_sets, .inl (D.1 100, 3, .inl v_sets)), (q_tried, .inl (D.1 100, 8, .inl v_tried)), (q_best, .inl (D.1 100, 8, .inl v_best)), (q_p1, .inr (5, [.ref q_p1_ways, .ref q_p1_costLeft, w_p1_costFirst, .int v_p1_isSought, .int v_p1_due, .int v_p1_size, w_p1_streets, w_p1_corners, w_p1_costs, w_p1_again])), (q_p1_ways, .inr (7, [.ref q_p1_ways_town, w_p1_ways_on, w_p1_ways_back, w_p1_ways_least])), (q_p1_ways_town, .inr (6, [w_p1_ways_town_froms, w_p1_ways_town_tos, w_p1_ways_town_lengths, w_p1_ways_town_kinds, w_p1_ways_town_figures, .int v_p1_ways_town_closed, .int v_p1_ways_town_size, .int v_p1_ways_town_home])), (q_p1_costLeft, .inl (D.1 100, 1536, .inl v_p1_costLeft))]
def f_X0_keep_b45 (v_postmen : Int32) (x2_45 : Int32) (v_busy_45 : Int32) (v_sets : (Nat → Int32)) : Option ((Int32 × Int32) ⊕ Int32) :=
  (if v_postmen ≤ x2_45 then some (.inr v_busy_45) else ga x2_45 3 (some (.inl (x2_45 + (1 : Int32), v_busy_45 + (if (v_sets (Int32.toNatClampNeg x2_45)) = 0 then (0 : Int32) else (1 : Int32))))))
def f_X0_keep (N : Nat) (v_postmen : Int32) (v_isFound : Int32) (v_greatest : Int32) (v_together : Int32) (v_busy : Int32) (v_sets : (Nat → Int32)) (v_tried : (Nat → Int32)) (v_best : (Nat → Int32)) (v_p1_ways_town_home : Int32) (v_p1_costLeft : (Nat → Int32)) : Option (Int32 × Int32 × Int32 × Int32 × (Nat → Int32)) :=
  (f_X0_mostOf N v_postmen v_sets v_p1_ways_town_home v_p1_costLeft).bind (fun r_mostOf_1 => (f_X0_sumOf N v_postmen v_sets v_p1_ways_town_home v_p1_costLeft).bind (fun r_sumOf_2 => gcp (0 : Int32) (0 : Int32) (8 : Int32) 8 8 ((lp (fun s_45 => f_X0_keep_b45 v_postmen s_45.1 s_45.2 v_sets) N ((0 : Int32), (0 : Int32))).bind (fun e_45 => some ((1 : Int32), r_mostOf_1, r_sumOf_2, e_45, va_cpy v_tried v_best (Int32.toNatClampNeg (0 : Int32)) (Int32.toNatClampNeg (0 : Int32)) (Int32.toNatClampNeg (8 : Int32)))))))
set_option maxRecDepth 100000 in
set_option maxHeartbeats 4000000 in
theorem c_X0_keep (l : Launch) (D : va_G) (N : Nat) {q_this q_sets q_tried q_best q_p1 q_p1_ways q_p1_ways_town q_p1_costLeft : Nat} {w_p1_costFirst w_p1_streets w_p1_corners w_p1_costs w_p1_again w_p1_ways_on w_p1_ways_back w_p1_ways_least w_p1_ways_town_froms w_p1_ways_town_tos w_p1_ways_town_lengths w_p1_ways_town_kinds w_p1_ways_town_figures : Value} {v_postmen : Int32} {v_isFound : Int32} {v_greatest : Int32} {v_together : Int32} {v_busy : Int32} {v_sets : (Nat → Int32)} {v_tried : (Nat → Int32)} {v_best : (Nat → Int32)} {v_p1_isSought : Int32} {v_p1_due : Int32} {v_p1_size : Int32} {v_p1_ways_town_closed : Int32} {v_p1_ways_town_size : Int32} {v_p1_ways_town_home : Int32} {v_p1_costLeft : (Nat → Int32)} {o : (Int32 × Int32 × Int32 × Int32 × (Nat → Int32))} (h : f_X0_keep N v_postmen v_isFound v_greatest v_together v_busy v_sets v_tried v_best v_p1_ways_town_home v_p1_costLeft = some o) : CT l D yX0_keep cX0_keep 3 (Option.none : Option FieldType) 2 [.ref q_this, .ref q_p1] (w_X0_keep D q_this q_sets q_tried q_best q_p1 q_p1_ways q_p1_ways_town q_p1_costLeft w_p1_costFirst w_p1_streets w_p1_corners w_p1_costs w_p1_again w_p1_ways_on w_p1_ways_back w_p1_ways_least w_p1_ways_town_froms w_p1_ways_town_tos w_p1_ways_town_lengths w_p1_ways_town_kinds w_p1_ways_town_figures v_postmen v_isFound v_greatest v_together v_busy v_sets v_tried v_best v_p1_isSought v_p1_due v_p1_size v_p1_ways_town_closed v_p1_ways_town_size v_p1_ways_town_home v_p1_costLeft) (w_X0_keep D q_this q_sets q_tried q_best q_p1 q_p1_ways q_p1_ways_town q_p1_costLeft w_p1_costFirst w_p1_streets w_p1_corners w_p1_costs w_p1_again w_p1_ways_on w_p1_ways_back w_p1_ways_least w_p1_ways_town_froms w_p1_ways_town_tos w_p1_ways_town_lengths w_p1_ways_town_kinds w_p1_ways_town_figures v_postmen o.1 o.2.1 o.2.2.1 o.2.2.2.1 v_sets v_tried o.2.2.2.2 v_p1_isSought v_p1_due v_p1_size v_p1_ways_town_closed v_p1_ways_town_size v_p1_ways_town_home v_p1_costLeft) (none) := by
  refine CT.of mk_X0_keep (Nat.le_of_ble_eq_true rfl) (fun g hl hD C E => ?_)
  subst hl
  subst hD
  unfold f_X0_keep at h
  refine j_aload_n C dX0_keep_0 rfl ?_
  refine j_iconst C (1) dX0_keep_1 ki_1 ?_
  refine j_put C 0 rfl rfl inX0 tyX0_ok nmX0 4 (by decide) kw_224 rfl rfl rfl rfl (Nat.le_of_ble_eq_true rfl) dX0_keep_2 ?_
  refine j_ws (ws' := (w_X0_keep (gD g) q_this q_sets q_tried q_best q_p1 q_p1_ways q_p1_ways_town q_p1_costLeft w_p1_costFirst w_p1_streets w_p1_corners w_p1_costs w_p1_again w_p1_ways_on w_p1_ways_back w_p1_ways_least w_p1_ways_town_froms w_p1_ways_town_tos w_p1_ways_town_lengths w_p1_ways_town_kinds w_p1_ways_town_figures v_postmen ((1 : Int32)) v_greatest v_together v_busy v_sets v_tried v_best v_p1_isSought v_p1_due v_p1_size v_p1_ways_town_closed v_p1_ways_town_size v_p1_ways_town_home v_p1_costLeft)) rfl ?_
  refine j_aload_n C dX0_keep_5 rfl ?_
  refine j_aload_n C dX0_keep_6 rfl ?_
  refine j_aload_n C dX0_keep_7 rfl ?_
  obtain ⟨r_mostOf_1, h_1, h⟩ := of_bind h
  refine j_callV1 C mk_X0_mostOf ms_X0_mostOf kw_875 (c_X0_mostOf (gl g) (gD g) N h_1) (by decide) 0 rfl rfl [0, 1, 4, 5, 6, 7] rfl rfl rfl rfl rfl (Nat.le_of_ble_eq_true rfl) dX0_keep_8 ?_
  refine j_ws (ws' := (w_X0_keep (gD g) q_this q_sets q_tried q_best q_p1 q_p1_ways q_p1_ways_town q_p1_costLeft w_p1_costFirst w_p1_streets w_p1_corners w_p1_costs w_p1_again w_p1_ways_on w_p1_ways_back w_p1_ways_least w_p1_ways_town_froms w_p1_ways_town_tos w_p1_ways_town_lengths w_p1_ways_town_kinds w_p1_ways_town_figures v_postmen ((1 : Int32)) v_greatest v_together v_busy v_sets v_tried v_best v_p1_isSought v_p1_due v_p1_size v_p1_ways_town_closed v_p1_ways_town_size v_p1_ways_town_home v_p1_costLeft)) rfl ?_
  refine j_put C 0 rfl rfl inX0 tyX0_ok nmX0 5 (by decide) kw_226 rfl rfl rfl rfl (Nat.le_of_ble_eq_true rfl) dX0_keep_11 ?_
  refine j_ws (ws' := (w_X0_keep (gD g) q_this q_sets q_tried q_best q_p1 q_p1_ways q_p1_ways_town q_p1_costLeft w_p1_costFirst w_p1_streets w_p1_corners w_p1_costs w_p1_again w_p1_ways_on w_p1_ways_back w_p1_ways_least w_p1_ways_town_froms w_p1_ways_town_tos w_p1_ways_town_lengths w_p1_ways_town_kinds w_p1_ways_town_figures v_postmen ((1 : Int32)) r_mostOf_1 v_together v_busy v_sets v_tried v_best v_p1_isSought v_p1_due v_p1_size v_p1_ways_town_closed v_p1_ways_town_size v_p1_ways_town_home v_p1_costLeft)) rfl ?_
  refine j_aload_n C dX0_keep_14 rfl ?_
  refine j_aload_n C dX0_keep_15 rfl ?_
  refine j_aload_n C dX0_keep_16 rfl ?_
  obtain ⟨r_sumOf_2, h_2, h⟩ := of_bind h
  refine j_callV1 C mk_X0_sumOf ms_X0_sumOf kw_887 (c_X0_sumOf (gl g) (gD g) N h_2) (by decide) 0 rfl rfl [0, 1, 4, 5, 6, 7] rfl rfl rfl rfl rfl (Nat.le_of_ble_eq_true rfl) dX0_keep_17 ?_
  refine j_ws (ws' := (w_X0_keep (gD g) q_this q_sets q_tried q_best q_p1 q_p1_ways q_p1_ways_town q_p1_costLeft w_p1_costFirst w_p1_streets w_p1_corners w_p1_costs w_p1_again w_p1_ways_on w_p1_ways_back w_p1_ways_least w_p1_ways_town_froms w_p1_ways_town_tos w_p1_ways_town_lengths w_p1_ways_town_kinds w_p1_ways_town_figures v_postmen ((1 : Int32)) r_mostOf_1 v_together v_busy v_sets v_tried v_best v_p1_isSought v_p1_due v_p1_size v_p1_ways_town_closed v_p1_ways_town_size v_p1_ways_town_home v_p1_costLeft)) rfl ?_
  refine j_put C 0 rfl rfl inX0 tyX0_ok nmX0 6 (by decide) kw_228 rfl rfl rfl rfl (Nat.le_of_ble_eq_true rfl) dX0_keep_20 ?_
  refine j_ws (ws' := (w_X0_keep (gD g) q_this q_sets q_tried q_best q_p1 q_p1_ways q_p1_ways_town q_p1_costLeft w_p1_costFirst w_p1_streets w_p1_corners w_p1_costs w_p1_again w_p1_ways_on w_p1_ways_back w_p1_ways_least w_p1_ways_town_froms w_p1_ways_town_tos w_p1_ways_town_lengths w_p1_ways_town_kinds w_p1_ways_town_figures v_postmen ((1 : Int32)) r_mostOf_1 r_sumOf_2 v_busy v_sets v_tried v_best v_p1_isSought v_p1_due v_p1_size v_p1_ways_town_closed v_p1_ways_town_size v_p1_ways_town_home v_p1_costLeft)) rfl ?_
  refine j_aload_n C dX0_keep_23 rfl ?_
  refine j_get C 0 rfl rfl inX0 1 (by decide) kw_220 rfl rfl dX0_keep_24 ?_
  refine j_iconst C (0) dX0_keep_27 ki_0 ?_
  refine j_aload_n C dX0_keep_28 rfl ?_
  refine j_get C 0 rfl rfl inX0 3 (by decide) kw_222 rfl rfl dX0_keep_29 ?_
  refine j_iconst C (0) dX0_keep_32 ki_0 ?_
  refine j_bipush C (8) dX0_keep_33 kb_8 ?_
  refine j_acopy 2 3 C h (by decide) kw_895 kw_411 kw_410 kw_15 rfl rfl rfl rfl (Nat.le_of_ble_eq_true rfl) dX0_keep_35 (fun h => ?_)
  refine j_ws (ws' := (w_X0_keep (gD g) q_this q_sets q_tried q_best q_p1 q_p1_ways q_p1_ways_town q_p1_costLeft w_p1_costFirst w_p1_streets w_p1_corners w_p1_costs w_p1_again w_p1_ways_on w_p1_ways_back w_p1_ways_least w_p1_ways_town_froms w_p1_ways_town_tos w_p1_ways_town_lengths w_p1_ways_town_kinds w_p1_ways_town_figures v_postmen ((1 : Int32)) r_mostOf_1 r_sumOf_2 v_busy v_sets v_tried (va_cpy v_tried v_best (Int32.toNatClampNeg (0 : Int32)) (Int32.toNatClampNeg (0 : Int32)) (Int32.toNatClampNeg (8 : Int32))) v_p1_isSought v_p1_due v_p1_size v_p1_ways_town_closed v_p1_ways_town_size v_p1_ways_town_home v_p1_costLeft)) rfl ?_
  refine j_aload_n C dX0_keep_38 rfl ?_
  refine j_iconst C (0) dX0_keep_39 ki_0 ?_
  refine j_put C 0 rfl rfl inX0 tyX0_ok nmX0 7 (by decide) kw_230 rfl rfl rfl rfl (Nat.le_of_ble_eq_true rfl) dX0_keep_40 ?_
  refine j_ws (ws' := (w_X0_keep (gD g) q_this q_sets q_tried q_best q_p1 q_p1_ways q_p1_ways_town q_p1_costLeft w_p1_costFirst w_p1_streets w_p1_corners w_p1_costs w_p1_again w_p1_ways_on w_p1_ways_back w_p1_ways_least w_p1_ways_town_froms w_p1_ways_town_tos w_p1_ways_town_lengths w_p1_ways_town_kinds w_p1_ways_town_figures v_postmen ((1 : Int32)) r_mostOf_1 r_sumOf_2 ((0 : Int32)) v_sets v_tried (va_cpy v_tried v_best (Int32.toNatClampNeg (0 : Int32)) (Int32.toNatClampNeg (0 : Int32)) (Int32.toNatClampNeg (8 : Int32))) v_p1_isSought v_p1_due v_p1_size v_p1_ways_town_closed v_p1_ways_town_size v_p1_ways_town_home v_p1_costLeft)) rfl ?_
  refine j_iconst C (0) dX0_keep_43 ki_0 ?_
  refine j_istore_n C dX0_keep_44 (by decide) ?_
  obtain ⟨e_45, hl_45, h⟩ := of_bind h
  have ha_45 : J g (w_X0_keep (gD g) q_this q_sets q_tried q_best q_p1 q_p1_ways q_p1_ways_town q_p1_costLeft w_p1_costFirst w_p1_streets w_p1_corners w_p1_costs w_p1_again w_p1_ways_on w_p1_ways_back w_p1_ways_least w_p1_ways_town_froms w_p1_ways_town_tos w_p1_ways_town_lengths w_p1_ways_town_kinds w_p1_ways_town_figures v_postmen ((1 : Int32)) r_mostOf_1 r_sumOf_2 e_45 v_sets v_tried (va_cpy v_tried v_best (Int32.toNatClampNeg (0 : Int32)) (Int32.toNatClampNeg (0 : Int32)) (Int32.toNatClampNeg (8 : Int32))) v_p1_isSought v_p1_due v_p1_size v_p1_ways_town_closed v_p1_ways_town_size v_p1_ways_town_home v_p1_costLeft) [] 82 [] := by
    cases h
    exact j_vret C E dX0_keep_82
  refine j_lv (lv' := [(0, .ref q_this), (2, .int ((0 : Int32)))]) rfl ?_
  refine lp_ind hl_45 (fun s_45 => J g (w_X0_keep (gD g) q_this q_sets q_tried q_best q_p1 q_p1_ways q_p1_ways_town q_p1_costLeft w_p1_costFirst w_p1_streets w_p1_corners w_p1_costs w_p1_again w_p1_ways_on w_p1_ways_back w_p1_ways_least w_p1_ways_town_froms w_p1_ways_town_tos w_p1_ways_town_lengths w_p1_ways_town_kinds w_p1_ways_town_figures v_postmen ((1 : Int32)) r_mostOf_1 r_sumOf_2 s_45.2 v_sets v_tried (va_cpy v_tried v_best (Int32.toNatClampNeg (0 : Int32)) (Int32.toNatClampNeg (0 : Int32)) (Int32.toNatClampNeg (8 : Int32))) v_p1_isSought v_p1_due v_p1_size v_p1_ways_town_closed v_p1_ways_town_size v_p1_ways_town_home v_p1_costLeft) [(0, .ref q_this), (2, .int (s_45.1))] 45 []) (fun s_45 r_45 h hc_45 hx_45 => ?_)
  unfold f_X0_keep_b45 at h
  refine j_iload_n C dX0_keep_45 rfl ?_
  refine j_aload_n C dX0_keep_46 rfl ?_
  refine j_get C 0 rfl rfl inX0 2 (by decide) kw_221 rfl rfl dX0_keep_47 ?_
  refine j_icmp_ge C h 82 dX0_keep_50 (by decide) (fun hc h => ?_) (fun hc h => ?_)
  · cases h
    have h9 := hx_45 _ rfl
    subst h9
    exact j_lw ha_45 rfl
  · refine j_aload_n C dX0_keep_53 rfl ?_
    refine j_dup C dX0_keep_54 rfl ?_
    refine j_get C 0 rfl rfl inX0 7 (by decide) kw_230 rfl rfl dX0_keep_55 ?_
    refine j_aload_n C dX0_keep_58 rfl ?_
    refine j_get C 0 rfl rfl inX0 0 (by decide) kw_219 rfl rfl dX0_keep_59 ?_
    refine j_iload_n C dX0_keep_62 rfl ?_
    refine j_iaload 1 C h rfl rfl dX0_keep_63 (fun h => ?_)
    have hj_3 : J g (w_X0_keep (gD g) q_this q_sets q_tried q_best q_p1 q_p1_ways q_p1_ways_town q_p1_costLeft w_p1_costFirst w_p1_streets w_p1_corners w_p1_costs w_p1_again w_p1_ways_on w_p1_ways_back w_p1_ways_least w_p1_ways_town_froms w_p1_ways_town_tos w_p1_ways_town_lengths w_p1_ways_town_kinds w_p1_ways_town_figures v_postmen ((1 : Int32)) r_mostOf_1 r_sumOf_2 s_45.2 v_sets v_tried (va_cpy v_tried v_best (Int32.toNatClampNeg (0 : Int32)) (Int32.toNatClampNeg (0 : Int32)) (Int32.toNatClampNeg (8 : Int32))) v_p1_isSought v_p1_due v_p1_size v_p1_ways_town_closed v_p1_ways_town_size v_p1_ways_town_home v_p1_costLeft) [(0, .ref q_this), (2, .int (s_45.1))] 72 [.int (if (v_sets (Int32.toNatClampNeg s_45.1)) = 0 then (0 : Int32) else (1 : Int32)), .int (s_45.2), .ref q_this] := by
      refine j_iadd C dX0_keep_72 ?_
      refine j_put C 0 rfl rfl inX0 tyX0_ok nmX0 7 (by decide) kw_230 rfl rfl rfl rfl (Nat.le_of_ble_eq_true rfl) dX0_keep_73 ?_
      refine j_ws (ws' := (w_X0_keep (gD g) q_this q_sets q_tried q_best q_p1 q_p1_ways q_p1_ways_town q_p1_costLeft w_p1_costFirst w_p1_streets w_p1_corners w_p1_costs w_p1_again w_p1_ways_on w_p1_ways_back w_p1_ways_least w_p1_ways_town_froms w_p1_ways_town_tos w_p1_ways_town_lengths w_p1_ways_town_kinds w_p1_ways_town_figures v_postmen ((1 : Int32)) r_mostOf_1 r_sumOf_2 (s_45.2 + (if (v_sets (Int32.toNatClampNeg s_45.1)) = 0 then (0 : Int32) else (1 : Int32))) v_sets v_tried (va_cpy v_tried v_best (Int32.toNatClampNeg (0 : Int32)) (Int32.toNatClampNeg (0 : Int32)) (Int32.toNatClampNeg (8 : Int32))) v_p1_isSought v_p1_due v_p1_size v_p1_ways_town_closed v_p1_ways_town_size v_p1_ways_town_home v_p1_costLeft)) rfl ?_
      refine j_inc C (1) dX0_keep_76 rfl ki_1 (by decide) ?_
      refine j_goto C 45 dX0_keep_79 (by decide) ?_
      cases h
      have hc9 := hc_45 _ rfl
      exact j_lw hc9 rfl
    refine jv_if_eq C 71 dX0_keep_64 (by decide) (fun hc => ?_) (fun hc => ?_)
    · try simp only [if_pos hc] at hj_3
      refine j_iconst C (0) dX0_keep_71 ki_0 ?_
      exact j_lw hj_3 rfl
    · try simp only [if_neg hc] at hj_3
      refine j_iconst C (1) dX0_keep_67 ki_1 ?_
      refine j_goto C 72 dX0_keep_68 (by decide) ?_
      exact j_lw hj_3 rfl

def w_X0_give (D : va_G) (q_this q_sets q_tried q_best q_p1 q_p1_ways q_p1_ways_town q_p1_costLeft : Nat) (w_p1_costFirst w_p1_streets w_p1_corners w_p1_costs w_p1_again w_p1_ways_on w_p1_ways_back w_p1_ways_least w_p1_ways_town_froms w_p1_ways_town_tos w_p1_ways_town_lengths w_p1_ways_town_kinds w_p1_ways_town_figures : Value) (v_postmen : Int32) (v_isFound : Int32) (v_greatest : Int32) (v_together : Int32) (v_busy : Int32) (v_sets : (Nat → Int32)) (v_tried : (Nat → Int32)) (v_best : (Nat → Int32)) (v_p1_isSought : Int32) (v_p1_due : Int32) (v_p1_size : Int32) (v_p1_ways_town_closed : Int32) (v_p1_ways_town_size : Int32) (v_p1_ways_town_home : Int32) (v_p1_costLeft : (Nat → Int32)) : va_W := [(q_this, .inr (0, [.ref q_sets, .ref q_tried, .int v_postmen, .ref q_best, .int v_isFound, .int v_greatest, .int v_together, .int v_busy])), (q_sets, .inl (D.1 100, 3, .inl v_sets)), (q_tried, .inl (D.1 100, 8, .inl v_tried)), (q_best, .inl (D.1 100, 8, .inl v_best)), (q_p1, .inr (5, [.ref q_p1_ways, .ref q_p1_costLeft, w_p1_costFirst, .int v_p1_isSought, .int v_p1_due, .int v_p1_size, w_p1_streets, w_p1_corners, w_p1_costs, w_p1_again])), (q_p1_ways, .inr (7, [.ref q_p1_ways_town, w_p1_ways_on, w_p1_ways_back, w_p1_ways_least])), (q_p1_ways_town, .inr (6, [w_p1_ways_town_froms, w_p1_ways_town_tos, w_p1_ways_town_lengths, w_p1_ways_town_kinds, w_p1_ways_town_figures, .int v_p1_ways_town_closed, .int v_p1_ways_town_size, .int v_p1_ways_town_home])), (q_p1_costLeft, .inl (D.1 100, 1536, .inl v_p1_costLeft))]
def f_X0_give_b43 (rc : Int32 → Int32 → Int32 → Int32 → Int32 → Int32 → (Nat → Int32) → (Nat → Int32) → (Nat → Int32) → Int32 → Int32 → (Nat → Int32) → Option (Int32 × Int32 × Int32 × Int32 × (Nat → Int32) × (Nat → Int32) × (Nat → Int32))) (v_postmen : Int32) (x3_43 : Int32) (v_isFound_43 : Int32) (v_greatest_43 : Int32) (v_together_43 : Int32) (v_busy_43 : Int32) (v_sets_43 : (Nat → Int32)) (v_tried_43 : (Nat → Int32)) (v_best_43 : (Nat → Int32)) (x2 : Int32) (v_p1_due : Int32) (v_p1_ways_town_home : Int32) (v_p1_costLeft : (Nat → Int32)) : Option ((Int32 × Int32 × Int32 × Int32 × Int32 × (Nat → Int32) × (Nat → Int32) × (Nat → Int32)) ⊕ (Int32 × Int32 × Int32 × Int32 × (Nat → Int32) × (Nat → Int32) × (Nat → Int32))) :=
  (if v_postmen ≤ x3_43 then some (.inr (v_isFound_43, v_greatest_43, v_together_43, v_busy_43, v_sets_43, v_tried_43, v_best_43)) else ga x2 8 (ga x3_43 3 (ga x3_43 3 ((rc (x2 + (1 : Int32)) v_postmen v_isFound_43 v_greatest_43 v_together_43 v_busy_43 (upd v_sets_43 (Int32.toNatClampNeg x3_43) ((v_sets_43 (Int32.toNatClampNeg x3_43)) ||| ((1 : Int32) <<< (x2 &&& 31)))) (upd v_tried_43 (Int32.toNatClampNeg x2) x3_43) v_best_43 v_p1_due v_p1_ways_town_home v_p1_costLeft).bind (fun r_give_2 => ga x3_43 3 (ga x3_43 3 (some (.inl (x3_43 + (1 : Int32), r_give_2.1, r_give_2.2.1, r_give_2.2.2.1, r_give_2.2.2.2.1, upd r_give_2.2.2.2.2.1 (Int32.toNatClampNeg x3_43) ((r_give_2.2.2.2.2.1 (Int32.toNatClampNeg x3_43)) &&& (((1 : Int32) <<< (x2 &&& 31)) ^^^ (-1 : Int32))), r_give_2.2.2.2.2.2.1, r_give_2.2.2.2.2.2.2)))))))))
def f_X0_give (N : Nat) : Nat → Int32 → Int32 → Int32 → Int32 → Int32 → Int32 → (Nat → Int32) → (Nat → Int32) → (Nat → Int32) → Int32 → Int32 → (Nat → Int32) → Option (Int32 × Int32 × Int32 × Int32 × (Nat → Int32) × (Nat → Int32) × (Nat → Int32))
  | 0, _, _, _, _, _, _, _, _, _, _, _, _ => none
  | d + 1, x2, v_postmen, v_isFound, v_greatest, v_together, v_busy, v_sets, v_tried, v_best, v_p1_due, v_p1_ways_town_home, v_p1_costLeft =>
  (f_X0_isBetter N v_postmen v_isFound v_greatest v_together v_sets v_p1_ways_town_home v_p1_costLeft).bind (fun r_isBetter_1 => (if r_isBetter_1 = 0 then some (v_isFound, v_greatest, v_together, v_busy, v_sets, v_tried, v_best) else (if x2 < (8 : Int32) then (if ((v_p1_due >>> (x2 &&& 31)) &&& (1 : Int32)) = 0 then ((f_X0_give N d) (x2 + (1 : Int32)) v_postmen v_isFound v_greatest v_together v_busy v_sets v_tried v_best v_p1_due v_p1_ways_town_home v_p1_costLeft).bind (fun r_give_3 => some (r_give_3.1, r_give_3.2.1, r_give_3.2.2.1, r_give_3.2.2.2.1, r_give_3.2.2.2.2.1, r_give_3.2.2.2.2.2.1, r_give_3.2.2.2.2.2.2)) else (lp (fun s_43 => f_X0_give_b43 (f_X0_give N d) v_postmen s_43.1 s_43.2.1 s_43.2.2.1 s_43.2.2.2.1 s_43.2.2.2.2.1 s_43.2.2.2.2.2.1 s_43.2.2.2.2.2.2.1 s_43.2.2.2.2.2.2.2 x2 v_p1_due v_p1_ways_town_home v_p1_costLeft) N ((0 : Int32), v_isFound, v_greatest, v_together, v_busy, v_sets, v_tried, v_best)).bind (fun e_43 => some (e_43.1, e_43.2.1, e_43.2.2.1, e_43.2.2.2.1, e_43.2.2.2.2.1, e_43.2.2.2.2.2.1, e_43.2.2.2.2.2.2))) else (f_X0_keep N v_postmen v_isFound v_greatest v_together v_busy v_sets v_tried v_best v_p1_ways_town_home v_p1_costLeft).bind (fun r_keep_4 => some (r_keep_4.1, r_keep_4.2.1, r_keep_4.2.2.1, r_keep_4.2.2.2.1, v_sets, v_tried, r_keep_4.2.2.2.2)))))
set_option maxRecDepth 100000 in
set_option maxHeartbeats 4000000 in
theorem c_X0_give (l : Launch) (D : va_G) (N : Nat) (d : Nat) : ∀ {q_this q_sets q_tried q_best q_p1 q_p1_ways q_p1_ways_town q_p1_costLeft : Nat} {w_p1_costFirst w_p1_streets w_p1_corners w_p1_costs w_p1_again w_p1_ways_on w_p1_ways_back w_p1_ways_least w_p1_ways_town_froms w_p1_ways_town_tos w_p1_ways_town_lengths w_p1_ways_town_kinds w_p1_ways_town_figures : Value} {v_postmen : Int32} {v_isFound : Int32} {v_greatest : Int32} {v_together : Int32} {v_busy : Int32} {v_sets : (Nat → Int32)} {v_tried : (Nat → Int32)} {v_best : (Nat → Int32)} {v_p1_isSought : Int32} {v_p1_due : Int32} {v_p1_size : Int32} {v_p1_ways_town_closed : Int32} {v_p1_ways_town_size : Int32} {v_p1_ways_town_home : Int32} {v_p1_costLeft : (Nat → Int32)} {x2 : Int32} {o : (Int32 × Int32 × Int32 × Int32 × (Nat → Int32) × (Nat → Int32) × (Nat → Int32))} (h : f_X0_give N d x2 v_postmen v_isFound v_greatest v_together v_busy v_sets v_tried v_best v_p1_due v_p1_ways_town_home v_p1_costLeft = some o), CT l D yX0_give cX0_give 4 (Option.none : Option FieldType) (3 + d) [.ref q_this, .ref q_p1, .int x2] (w_X0_give D q_this q_sets q_tried q_best q_p1 q_p1_ways q_p1_ways_town q_p1_costLeft w_p1_costFirst w_p1_streets w_p1_corners w_p1_costs w_p1_again w_p1_ways_on w_p1_ways_back w_p1_ways_least w_p1_ways_town_froms w_p1_ways_town_tos w_p1_ways_town_lengths w_p1_ways_town_kinds w_p1_ways_town_figures v_postmen v_isFound v_greatest v_together v_busy v_sets v_tried v_best v_p1_isSought v_p1_due v_p1_size v_p1_ways_town_closed v_p1_ways_town_size v_p1_ways_town_home v_p1_costLeft) (w_X0_give D q_this q_sets q_tried q_best q_p1 q_p1_ways q_p1_ways_town q_p1_costLeft w_p1_costFirst w_p1_streets w_p1_corners w_p1_costs w_p1_again w_p1_ways_on w_p1_ways_back w_p1_ways_least w_p1_ways_town_froms w_p1_ways_town_tos w_p1_ways_town_lengths w_p1_ways_town_kinds w_p1_ways_town_figures v_postmen o.1 o.2.1 o.2.2.1 o.2.2.2.1 o.2.2.2.2.1 o.2.2.2.2.2.1 o.2.2.2.2.2.2 v_p1_isSought v_p1_due v_p1_size v_p1_ways_town_closed v_p1_ways_town_size v_p1_ways_town_home v_p1_costLeft) (none) := by
  induction d with
  | zero =>
    intro q_this q_sets q_tried q_best q_p1 q_p1_ways q_p1_ways_town q_p1_costLeft w_p1_costFirst w_p1_streets w_p1_corners w_p1_costs w_p1_again w_p1_ways_on w_p1_ways_back w_p1_ways_least w_p1_ways_town_froms w_p1_ways_town_tos w_p1_ways_town_lengths w_p1_ways_town_kinds w_p1_ways_town_figures v_postmen v_isFound v_greatest v_together v_busy v_sets v_tried v_best v_p1_isSought v_p1_due v_p1_size v_p1_ways_town_closed v_p1_ways_town_size v_p1_ways_town_home v_p1_costLeft x2 o h
    unfold f_X0_give at h
    cases h
  | succ d ih =>
    intro q_this q_sets q_tried q_best q_p1 q_p1_ways q_p1_ways_town q_p1_costLeft w_p1_costFirst w_p1_streets w_p1_corners w_p1_costs w_p1_again w_p1_ways_on w_p1_ways_back w_p1_ways_least w_p1_ways_town_froms w_p1_ways_town_tos w_p1_ways_town_lengths w_p1_ways_town_kinds w_p1_ways_town_figures v_postmen v_isFound v_greatest v_together v_busy v_sets v_tried v_best v_p1_isSought v_p1_due v_p1_size v_p1_ways_town_closed v_p1_ways_town_size v_p1_ways_town_home v_p1_costLeft x2 o h
    refine CT.of mk_X0_give (Nat.le_of_ble_eq_true rfl) (fun g hl hD C E => ?_)
    subst hl
    subst hD
    unfold f_X0_give at h
    refine j_aload_n C dX0_give_0 rfl ?_
    refine j_aload_n C dX0_give_1 rfl ?_
    obtain ⟨r_isBetter_1, h_1, h⟩ := of_bind h
    refine j_callV1 C mk_X0_isBetter ms_X0_isBetter kw_871 (c_X0_isBetter (gl g) (gD g) N h_1) (by omega) 0 rfl rfl [0, 1, 4, 5, 6, 7] rfl rfl rfl rfl rfl (Nat.le_of_ble_eq_true rfl) dX0_give_2 ?_
    refine j_ws (ws' := (w_X0_give (gD g) q_this q_sets q_tried q_best q_p1 q_p1_ways q_p1_ways_town q_p1_costLeft w_p1_costFirst w_p1_streets w_p1_corners w_p1_costs w_p1_again w_p1_ways_on w_p1_ways_back w_p1_ways_least w_p1_ways_town_froms w_p1_ways_town_tos w_p1_ways_town_lengths w_p1_ways_town_kinds w_p1_ways_town_figures v_postmen v_isFound v_greatest v_together v_busy v_sets v_tried v_best v_p1_isSought v_p1_due v_p1_size v_p1_ways_town_closed v_p1_ways_town_size v_p1_ways_town_home v_p1_costLeft)) rfl ?_
    refine j_if_ne C h 9 dX0_give_5 (by decide) (fun hc h => ?_) (fun hc h => ?_)
    · cases h
      exact j_vret C E dX0_give_8
    · refine j_iload_n C dX0_give_9 rfl ?_
      refine j_bipush C (8) dX0_give_10 kb_8 ?_
      refine j_icmp_lt C h 21 dX0_give_12 (by decide) (fun hc h => ?_) (fun hc h => ?_)
      · refine j_aload_n C dX0_give_21 rfl ?_
        refine j_get C 4 rfl rfl inX6 4 (by decide) kw_122 rfl rfl dX0_give_22 ?_
        refine j_iload_n C dX0_give_25 rfl ?_
        refine j_ishr C dX0_give_26 ?_
        refine j_iconst C (1) dX0_give_27 ki_1 ?_
        refine j_iand C dX0_give_28 ?_
        refine j_if_ne C h 41 dX0_give_29 (by decide) (fun hc h => ?_) (fun hc h => ?_)
        · refine j_aload_n C dX0_give_32 rfl ?_
          refine j_aload_n C dX0_give_33 rfl ?_
          refine j_iload_n C dX0_give_34 rfl ?_
          refine j_iconst C (1) dX0_give_35 ki_1 ?_
          refine j_iadd C dX0_give_36 ?_
          obtain ⟨r_give_3, h_3, h⟩ := of_bind h
          refine j_callV0 C mk_X0_give ms_X0_give kw_867 (ih h_3) (by omega) 0 rfl rfl [0, 1, 2, 3, 4, 5, 6, 7] rfl rfl rfl rfl rfl (Nat.le_of_ble_eq_true rfl) dX0_give_37 ?_
          refine j_ws (ws' := (w_X0_give (gD g) q_this q_sets q_tried q_best q_p1 q_p1_ways q_p1_ways_town q_p1_costLeft w_p1_costFirst w_p1_streets w_p1_corners w_p1_costs w_p1_again w_p1_ways_on w_p1_ways_back w_p1_ways_least w_p1_ways_town_froms w_p1_ways_town_tos w_p1_ways_town_lengths w_p1_ways_town_kinds w_p1_ways_town_figures v_postmen r_give_3.1 r_give_3.2.1 r_give_3.2.2.1 r_give_3.2.2.2.1 r_give_3.2.2.2.2.1 r_give_3.2.2.2.2.2.1 r_give_3.2.2.2.2.2.2 v_p1_isSought v_p1_due v_p1_size v_p1_ways_town_closed v_p1_ways_town_size v_p1_ways_town_home v_p1_costLeft)) rfl ?_
          cases h
          exact j_vret C E dX0_give_40
        · refine j_iconst C (0) dX0_give_41 ki_0 ?_
          refine j_istore_n C dX0_give_42 (by decide) ?_
          obtain ⟨e_43, hl_43, h⟩ := of_bind h
          have ha_43 : J g (w_X0_give (gD g) q_this q_sets q_tried q_best q_p1 q_p1_ways q_p1_ways_town q_p1_costLeft w_p1_costFirst w_p1_streets w_p1_corners w_p1_costs w_p1_again w_p1_ways_on w_p1_ways_back w_p1_ways_least w_p1_ways_town_froms w_p1_ways_town_tos w_p1_ways_town_lengths w_p1_ways_town_kinds w_p1_ways_town_figures v_postmen e_43.1 e_43.2.1 e_43.2.2.1 e_43.2.2.2.1 e_43.2.2.2.2.1 e_43.2.2.2.2.2.1 e_43.2.2.2.2.2.2 v_p1_isSought v_p1_due v_p1_size v_p1_ways_town_closed v_p1_ways_town_size v_p1_ways_town_home v_p1_costLeft) [] 98 [] := by
            cases h
            exact j_vret C E dX0_give_98
          refine j_lv (lv' := [(0, .ref q_this), (1, .ref q_p1), (2, .int (x2)), (3, .int ((0 : Int32)))]) rfl ?_
          refine lp_ind hl_43 (fun s_43 => J g (w_X0_give (gD g) q_this q_sets q_tried q_best q_p1 q_p1_ways q_p1_ways_town q_p1_costLeft w_p1_costFirst w_p1_streets w_p1_corners w_p1_costs w_p1_again w_p1_ways_on w_p1_ways_back w_p1_ways_least w_p1_ways_town_froms w_p1_ways_town_tos w_p1_ways_town_lengths w_p1_ways_town_kinds w_p1_ways_town_figures v_postmen s_43.2.1 s_43.2.2.1 s_43.2.2.2.1 s_43.2.2.2.2.1 s_43.2.2.2.2.2.1 s_43.2.2.2.2.2.2.1 s_43.2.2.2.2.2.2.2 v_p1_isSought v_p1_due v_p1_size v_p1_ways_town_closed v_p1_ways_town_size v_p1_ways_town_home v_p1_costLeft) [(0, .ref q_this), (1, .ref q_p1), (2, .int (x2)), (3, .int (s_43.1))] 43 []) (fun s_43 r_43 h hc_43 hx_43 => ?_)
          unfold f_X0_give_b43 at h
          refine j_iload_n C dX0_give_43 rfl ?_
          refine j_aload_n C dX0_give_44 rfl ?_
          refine j_get C 0 rfl rfl inX0 2 (by decide) kw_221 rfl rfl dX0_give_45 ?_
          refine j_icmp_ge C h 98 dX0_give_48 (by decide) (fun hc h => ?_) (fun hc h => ?_)
          · cases h
            have h9 := hx_43 _ rfl
            subst h9
            exact j_lw ha_43 rfl
          · refine j_aload_n C dX0_give_51 rfl ?_
            refine j_get C 0 rfl rfl inX0 1 (by decide) kw_220 rfl rfl dX0_give_52 ?_
            refine j_iload_n C dX0_give_55 rfl ?_
            refine j_iload_n C dX0_give_56 rfl ?_
            refine j_iastore 2 C h rfl rfl dX0_give_57 (fun h => ?_)
            refine j_ws (ws' := (w_X0_give (gD g) q_this q_sets q_tried q_best q_p1 q_p1_ways q_p1_ways_town q_p1_costLeft w_p1_costFirst w_p1_streets w_p1_corners w_p1_costs w_p1_again w_p1_ways_on w_p1_ways_back w_p1_ways_least w_p1_ways_town_froms w_p1_ways_town_tos w_p1_ways_town_lengths w_p1_ways_town_kinds w_p1_ways_town_figures v_postmen s_43.2.1 s_43.2.2.1 s_43.2.2.2.1 s_43.2.2.2.2.1 s_43.2.2.2.2.2.1 (upd s_43.2.2.2.2.2.2.1 (Int32.toNatClampNeg x2) s_43.1) s_43.2.2.2.2.2.2.2 v_p1_isSought v_p1_due v_p1_size v_p1_ways_town_closed v_p1_ways_town_size v_p1_ways_town_home v_p1_costLeft)) rfl ?_
            refine j_aload_n C dX0_give_58 rfl ?_
            refine j_get C 0 rfl rfl inX0 0 (by decide) kw_219 rfl rfl dX0_give_59 ?_
            refine j_iload_n C dX0_give_62 rfl ?_
            refine j_dup2 C dX0_give_63 rfl rfl ?_
            refine j_iaload 1 C h rfl rfl dX0_give_64 (fun h => ?_)
            refine j_iconst C (1) dX0_give_65 ki_1 ?_
            refine j_iload_n C dX0_give_66 rfl ?_
            refine j_ishl C dX0_give_67 ?_
            refine j_ior C dX0_give_68 ?_
            refine j_iastore 1 C h rfl rfl dX0_give_69 (fun h => ?_)
            refine j_ws (ws' := (w_X0_give (gD g) q_this q_sets q_tried q_best q_p1 q_p1_ways q_p1_ways_town q_p1_costLeft w_p1_costFirst w_p1_streets w_p1_corners w_p1_costs w_p1_again w_p1_ways_on w_p1_ways_back w_p1_ways_least w_p1_ways_town_froms w_p1_ways_town_tos w_p1_ways_town_lengths w_p1_ways_town_kinds w_p1_ways_town_figures v_postmen s_43.2.1 s_43.2.2.1 s_43.2.2.2.1 s_43.2.2.2.2.1 (upd s_43.2.2.2.2.2.1 (Int32.toNatClampNeg s_43.1) ((s_43.2.2.2.2.2.1 (Int32.toNatClampNeg s_43.1)) ||| ((1 : Int32) <<< (x2 &&& 31)))) (upd s_43.2.2.2.2.2.2.1 (Int32.toNatClampNeg x2) s_43.1) s_43.2.2.2.2.2.2.2 v_p1_isSought v_p1_due v_p1_size v_p1_ways_town_closed v_p1_ways_town_size v_p1_ways_town_home v_p1_costLeft)) rfl ?_
            refine j_aload_n C dX0_give_70 rfl ?_
            refine j_aload_n C dX0_give_71 rfl ?_
            refine j_iload_n C dX0_give_72 rfl ?_
            refine j_iconst C (1) dX0_give_73 ki_1 ?_
            refine j_iadd C dX0_give_74 ?_
            obtain ⟨r_give_2, h_2, h⟩ := of_bind h
            refine j_callV0 C mk_X0_give ms_X0_give kw_867 (ih h_2) (by omega) 0 rfl rfl [0, 1, 2, 3, 4, 5, 6, 7] rfl rfl rfl rfl rfl (Nat.le_of_ble_eq_true rfl) dX0_give_75 ?_
            refine j_ws (ws' := (w_X0_give (gD g) q_this q_sets q_tried q_best q_p1 q_p1_ways q_p1_ways_town q_p1_costLeft w_p1_costFirst w_p1_streets w_p1_corners w_p1_costs w_p1_again w_p1_ways_on w_p1_ways_back w_p1_ways_least w_p1_ways_town_froms w_p1_ways_town_tos w_p1_ways_town_lengths w_p1_ways_town_kinds w_p1_ways_town_figures v_postmen r_give_2.1 r_give_2.2.1 r_give_2.2.2.1 r_give_2.2.2.2.1 r_give_2.2.2.2.2.1 r_give_2.2.2.2.2.2.1 r_give_2.2.2.2.2.2.2 v_p1_isSought v_p1_due v_p1_size v_p1_ways_town_closed v_p1_ways_town_size v_p1_ways_town_home v_p1_costLeft)) rfl ?_
            refine j_aload_n C dX0_give_78 rfl ?_
            refine j_get C 0 rfl rfl inX0 0 (by decide) kw_219 rfl rfl dX0_give_79 ?_
            refine j_iload_n C dX0_give_82 rfl ?_
            refine j_dup2 C dX0_give_83 rfl rfl ?_
            refine j_iaload 1 C h rfl rfl dX0_give_84 (fun h => ?_)
            refine j_iconst C (1) dX0_give_85 ki_1 ?_
            refine j_iload_n C dX0_give_86 rfl ?_
            refine j_ishl C dX0_give_87 ?_
            refine j_iconst C (-1) dX0_give_88 ki_m1 ?_
            refine j_ixor C dX0_give_89 ?_
            refine j_iand C dX0_give_90 ?_
            refine j_iastore 1 C h rfl rfl dX0_give_91 (fun h => ?_)
            refine j_ws (ws' := (w_X0_give (gD g) q_this q_sets q_tried q_best q_p1 q_p1_ways q_p1_ways_town q_p1_costLeft w_p1_costFirst w_p1_streets w_p1_corners w_p1_costs w_p1_again w_p1_ways_on w_p1_ways_back w_p1_ways_least w_p1_ways_town_froms w_p1_ways_town_tos w_p1_ways_town_lengths w_p1_ways_town_kinds w_p1_ways_town_figures v_postmen r_give_2.1 r_give_2.2.1 r_give_2.2.2.1 r_give_2.2.2.2.1 (upd r_give_2.2.2.2.2.1 (Int32.toNatClampNeg s_43.1) ((r_give_2.2.2.2.2.1 (Int32.toNatClampNeg s_43.1)) &&& (((1 : Int32) <<< (x2 &&& 31)) ^^^ (-1 : Int32)))) r_give_2.2.2.2.2.2.1 r_give_2.2.2.2.2.2.2 v_p1_isSought v_p1_due v_p1_size v_p1_ways_town_closed v_p1_ways_town_size v_p1_ways_town_home v_p1_costLeft)) rfl ?_
            refine j_inc C (1) dX0_give_92 rfl ki_1 (by decide) ?_
            refine j_goto C 43 dX0_give_95 (by decide) ?_
            cases h
            have hc9 := hc_43 _ rfl
            exact j_lw hc9 rfl
      · refine j_aload_n C dX0_give_15 rfl ?_
        refine j_aload_n C dX0_give_16 rfl ?_
        obtain ⟨r_keep_4, h_4, h⟩ := of_bind h
        refine j_callV0 C mk_X0_keep ms_X0_keep kw_891 (c_X0_keep (gl g) (gD g) N h_4) (by omega) 0 rfl rfl [0, 1, 2, 3, 4, 5, 6, 7] rfl rfl rfl rfl rfl (Nat.le_of_ble_eq_true rfl) dX0_give_17 ?_
        refine j_ws (ws' := (w_X0_give (gD g) q_this q_sets q_tried q_best q_p1 q_p1_ways q_p1_ways_town q_p1_costLeft w_p1_costFirst w_p1_streets w_p1_corners w_p1_costs w_p1_again w_p1_ways_on w_p1_ways_back w_p1_ways_least w_p1_ways_town_froms w_p1_ways_town_tos w_p1_ways_town_lengths w_p1_ways_town_kinds w_p1_ways_town_figures v_postmen r_keep_4.1 r_keep_4.2.1 r_keep_4.2.2.1 r_keep_4.2.2.2.1 v_sets v_tried r_keep_4.2.2.2.2 v_p1_isSought v_p1_due v_p1_size v_p1_ways_town_closed v_p1_ways_town_size v_p1_ways_town_home v_p1_costLeft)) rfl ?_
        cases h
        exact j_vret C E dX0_give_20

def w_X0_seek (D : va_G) (q_this q_sets q_tried q_best q_p1 q_p1_ways q_p1_ways_town q_p1_costLeft : Nat) (w_p1_costFirst w_p1_streets w_p1_corners w_p1_costs w_p1_again w_p1_ways_on w_p1_ways_back w_p1_ways_least w_p1_ways_town_froms w_p1_ways_town_tos w_p1_ways_town_lengths w_p1_ways_town_kinds w_p1_ways_town_figures : Value) (v_postmen : Int32) (v_isFound : Int32) (v_greatest : Int32) (v_together : Int32) (v_busy : Int32) (v_sets : (Nat → Int32)) (v_tried : (Nat → Int32)) (v_best : (Nat → Int32)) (v_p1_isSought : Int32) (v_p1_due : Int32) (v_p1_size : Int32) (v_p1_ways_town_closed : Int32) (v_p1_ways_town_size : Int32) (v_p1_ways_town_home : Int32) (v_p1_costLeft : (Nat → Int32)) : va_W := [(q_this, .inr (0, [.ref q_sets, .ref q_tried, .int v_postmen, .ref q_best, .int v_isFound, .int v_greatest, .int v_together, .int v_busy])), (q_sets, .inl (D.1 100, 3, .inl v_sets)), (q_tried, .inl (D.1 100, 8, .inl v_tried)), (q_best, .inl (D.1 100, 8, .inl v_best)), (q_p1, .inr (5, [.ref q_p1_ways, .ref q_p1_costLeft, w_p1_costFirst, .int v_p1_isSought, .int v_p1_due, .int v_p1_size, w_p1_streets, w_p1_corners, w_p1_costs, w_p1_again])), (q_p1_ways, .inr (7, [.ref q_p1_ways_town, w_p1_ways_on, w_p1_ways_back, w_p1_ways_least])), (q_p1_ways_town, .inr (6, [w_p1_ways_town_froms, w_p1_ways_town_tos, w_p1_ways_town_lengths, w_p1_ways_town_kinds, w_p1_ways_town_figures, .int v_p1_ways_town_closed, .int v_p1_ways_town_size, .int v_p1_ways_town_home])), (q_p1_costLeft, .inl (D.1 100, 1536, .inl v_p1_costLeft))]
def f_X0_seek_b21 (x3_21 : Int32) (v_sets_21 : (Nat → Int32)) : Option ((Int32 × (Nat → Int32)) ⊕ (Nat → Int32)) :=
  (if (3 : Int32) ≤ x3_21 then some (.inr v_sets_21) else ga x3_21 3 (some (.inl (x3_21 + (1 : Int32), upd v_sets_21 (Int32.toNatClampNeg x3_21) (0 : Int32)))))
def f_X0_seek (N : Nat) (x2 : Int32) (v_postmen : Int32) (v_isFound : Int32) (v_greatest : Int32) (v_together : Int32) (v_busy : Int32) (v_sets : (Nat → Int32)) (v_tried : (Nat → Int32)) (v_best : (Nat → Int32)) (v_p1_due : Int32) (v_p1_ways_town_home : Int32) (v_p1_costLeft : (Nat → Int32)) : Option (Int32 × Int32 × Int32 × Int32 × Int32 × (Nat → Int32) × (Nat → Int32) × (Nat → Int32)) :=
  (lp (fun s_21 => f_X0_seek_b21 s_21.1 s_21.2) N ((0 : Int32), v_sets)).bind (fun e_21 => (f_X0_give N 12 (0 : Int32) (if x2 ≤ (3 : Int32) then x2 else (3 : Int32)) (0 : Int32) v_greatest v_together v_busy e_21 v_tried v_best v_p1_due v_p1_ways_town_home v_p1_costLeft).bind (fun r_give_2 => some (if x2 ≤ (3 : Int32) then x2 else (3 : Int32), r_give_2.1, r_give_2.2.1, r_give_2.2.2.1, r_give_2.2.2.2.1, r_give_2.2.2.2.2.1, r_give_2.2.2.2.2.2.1, r_give_2.2.2.2.2.2.2)))
set_option maxRecDepth 100000 in
set_option maxHeartbeats 4000000 in
theorem c_X0_seek (l : Launch) (D : va_G) (N : Nat) {q_this q_sets q_tried q_best q_p1 q_p1_ways q_p1_ways_town q_p1_costLeft : Nat} {w_p1_costFirst w_p1_streets w_p1_corners w_p1_costs w_p1_again w_p1_ways_on w_p1_ways_back w_p1_ways_least w_p1_ways_town_froms w_p1_ways_town_tos w_p1_ways_town_lengths w_p1_ways_town_kinds w_p1_ways_town_figures : Value} {v_postmen : Int32} {v_isFound : Int32} {v_greatest : Int32} {v_together : Int32} {v_busy : Int32} {v_sets : (Nat → Int32)} {v_tried : (Nat → Int32)} {v_best : (Nat → Int32)} {v_p1_isSought : Int32} {v_p1_due : Int32} {v_p1_size : Int32} {v_p1_ways_town_closed : Int32} {v_p1_ways_town_size : Int32} {v_p1_ways_town_home : Int32} {v_p1_costLeft : (Nat → Int32)} {x2 : Int32} {o : (Int32 × Int32 × Int32 × Int32 × Int32 × (Nat → Int32) × (Nat → Int32) × (Nat → Int32))} (h : f_X0_seek N x2 v_postmen v_isFound v_greatest v_together v_busy v_sets v_tried v_best v_p1_due v_p1_ways_town_home v_p1_costLeft = some o) : CT l D yX0_seek cX0_seek 4 (Option.none : Option FieldType) 16 [.ref q_this, .ref q_p1, .int x2] (w_X0_seek D q_this q_sets q_tried q_best q_p1 q_p1_ways q_p1_ways_town q_p1_costLeft w_p1_costFirst w_p1_streets w_p1_corners w_p1_costs w_p1_again w_p1_ways_on w_p1_ways_back w_p1_ways_least w_p1_ways_town_froms w_p1_ways_town_tos w_p1_ways_town_lengths w_p1_ways_town_kinds w_p1_ways_town_figures v_postmen v_isFound v_greatest v_together v_busy v_sets v_tried v_best v_p1_isSought v_p1_due v_p1_size v_p1_ways_town_closed v_p1_ways_town_size v_p1_ways_town_home v_p1_costLeft) (w_X0_seek D q_this q_sets q_tried q_best q_p1 q_p1_ways q_p1_ways_town q_p1_costLeft w_p1_costFirst w_p1_streets w_p1_corners w_p1_costs w_p1_again w_p1_ways_on w_p1_ways_back w_p1_ways_least w_p1_ways_town_froms w_p1_ways_town_tos w_p1_ways_town_lengths w_p1_ways_town_kinds w_p1_ways_town_figures o.1 o.2.1 o.2.2.1 o.2.2.2.1 o.2.2.2.2.1 o.2.2.2.2.2.1 o.2.2.2.2.2.2.1 o.2.2.2.2.2.2.2 v_p1_isSought v_p1_due v_p1_size v_p1_ways_town_closed v_p1_ways_town_size v_p1_ways_town_home v_p1_costLeft) (none) := by
  refine CT.of mk_X0_seek (Nat.le_of_ble_eq_true rfl) (fun g hl hD C E => ?_)
  subst hl
  subst hD
  unfold f_X0_seek at h
  refine j_aload_n C dX0_seek_0 rfl ?_
  refine j_iload_n C dX0_seek_1 rfl ?_
  refine j_iconst C (3) dX0_seek_2 ki_3 ?_
  have hj_1 : J g (w_X0_seek (gD g) q_this q_sets q_tried q_best q_p1 q_p1_ways q_p1_ways_town q_p1_costLeft w_p1_costFirst w_p1_streets w_p1_corners w_p1_costs w_p1_again w_p1_ways_on w_p1_ways_back w_p1_ways_least w_p1_ways_town_froms w_p1_ways_town_tos w_p1_ways_town_lengths w_p1_ways_town_kinds w_p1_ways_town_figures v_postmen v_isFound v_greatest v_together v_busy v_sets v_tried v_best v_p1_isSought v_p1_due v_p1_size v_p1_ways_town_closed v_p1_ways_town_size v_p1_ways_town_home v_p1_costLeft) [(0, .ref q_this), (1, .ref q_p1)] 11 [.int (if x2 ≤ (3 : Int32) then x2 else (3 : Int32)), .ref q_this] := by
    refine j_put C 0 rfl rfl inX0 tyX0_ok nmX0 2 (by decide) kw_221 rfl rfl rfl rfl (Nat.le_of_ble_eq_true rfl) dX0_seek_11 ?_
    refine j_ws (ws' := (w_X0_seek (gD g) q_this q_sets q_tried q_best q_p1 q_p1_ways q_p1_ways_town q_p1_costLeft w_p1_costFirst w_p1_streets w_p1_corners w_p1_costs w_p1_again w_p1_ways_on w_p1_ways_back w_p1_ways_least w_p1_ways_town_froms w_p1_ways_town_tos w_p1_ways_town_lengths w_p1_ways_town_kinds w_p1_ways_town_figures (if x2 ≤ (3 : Int32) then x2 else (3 : Int32)) v_isFound v_greatest v_together v_busy v_sets v_tried v_best v_p1_isSought v_p1_due v_p1_size v_p1_ways_town_closed v_p1_ways_town_size v_p1_ways_town_home v_p1_costLeft)) rfl ?_
    refine j_aload_n C dX0_seek_14 rfl ?_
    refine j_iconst C (0) dX0_seek_15 ki_0 ?_
    refine j_put C 0 rfl rfl inX0 tyX0_ok nmX0 4 (by decide) kw_224 rfl rfl rfl rfl (Nat.le_of_ble_eq_true rfl) dX0_seek_16 ?_
    refine j_ws (ws' := (w_X0_seek (gD g) q_this q_sets q_tried q_best q_p1 q_p1_ways q_p1_ways_town q_p1_costLeft w_p1_costFirst w_p1_streets w_p1_corners w_p1_costs w_p1_again w_p1_ways_on w_p1_ways_back w_p1_ways_least w_p1_ways_town_froms w_p1_ways_town_tos w_p1_ways_town_lengths w_p1_ways_town_kinds w_p1_ways_town_figures (if x2 ≤ (3 : Int32) then x2 else (3 : Int32)) ((0 : Int32)) v_greatest v_together v_busy v_sets v_tried v_best v_p1_isSought v_p1_due v_p1_size v_p1_ways_town_closed v_p1_ways_town_size v_p1_ways_town_home v_p1_costLeft)) rfl ?_
    refine j_iconst C (0) dX0_seek_19 ki_0 ?_
    refine j_istore_n C dX0_seek_20 (by decide) ?_
    obtain ⟨e_21, hl_21, h⟩ := of_bind h
    have ha_21 : J g (w_X0_seek (gD g) q_this q_sets q_tried q_best q_p1 q_p1_ways q_p1_ways_town q_p1_costLeft w_p1_costFirst w_p1_streets w_p1_corners w_p1_costs w_p1_again w_p1_ways_on w_p1_ways_back w_p1_ways_least w_p1_ways_town_froms w_p1_ways_town_tos w_p1_ways_town_lengths w_p1_ways_town_kinds w_p1_ways_town_figures (if x2 ≤ (3 : Int32) then x2 else (3 : Int32)) ((0 : Int32)) v_greatest v_together v_busy e_21 v_tried v_best v_p1_isSought v_p1_due v_p1_size v_p1_ways_town_closed v_p1_ways_town_size v_p1_ways_town_home v_p1_costLeft) [(0, .ref q_this), (1, .ref q_p1)] 39 [] := by
      refine j_aload_n C dX0_seek_39 rfl ?_
      refine j_aload_n C dX0_seek_40 rfl ?_
      refine j_iconst C (0) dX0_seek_41 ki_0 ?_
      obtain ⟨r_give_2, h_2, h⟩ := of_bind h
      refine j_callV0 C mk_X0_give ms_X0_give kw_867 (c_X0_give (gl g) (gD g) N 12 h_2) (by decide) 0 rfl rfl [0, 1, 2, 3, 4, 5, 6, 7] rfl rfl rfl rfl rfl (Nat.le_of_ble_eq_true rfl) dX0_seek_42 ?_
      refine j_ws (ws' := (w_X0_seek (gD g) q_this q_sets q_tried q_best q_p1 q_p1_ways q_p1_ways_town q_p1_costLeft w_p1_costFirst w_p1_streets w_p1_corners w_p1_costs w_p1_again w_p1_ways_on w_p1_ways_back w_p1_ways_least w_p1_ways_town_froms w_p1_ways_town_tos w_p1_ways_town_lengths w_p1_ways_town_kinds w_p1_ways_town_figures (if x2 ≤ (3 : Int32) then x2 else (3 : Int32)) r_give_2.1 r_give_2.2.1 r_give_2.2.2.1 r_give_2.2.2.2.1 r_give_2.2.2.2.2.1 r_give_2.2.2.2.2.2.1 r_give_2.2.2.2.2.2.2 v_p1_isSought v_p1_due v_p1_size v_p1_ways_town_closed v_p1_ways_town_size v_p1_ways_town_home v_p1_costLeft)) rfl ?_
      cases h
      exact j_vret C E dX0_seek_45
    refine j_lv (lv' := [(0, .ref q_this), (1, .ref q_p1), (3, .int ((0 : Int32)))]) rfl ?_
    refine lp_ind hl_21 (fun s_21 => J g (w_X0_seek (gD g) q_this q_sets q_tried q_best q_p1 q_p1_ways q_p1_ways_town q_p1_costLeft w_p1_costFirst w_p1_streets w_p1_corners w_p1_costs w_p1_again w_p1_ways_on w_p1_ways_back w_p1_ways_least w_p1_ways_town_froms w_p1_ways_town_tos w_p1_ways_town_lengths w_p1_ways_town_kinds w_p1_ways_town_figures (if x2 ≤ (3 : Int32) then x2 else (3 : Int32)) ((0 : Int32)) v_greatest v_together v_busy s_21.2 v_tried v_best v_p1_isSought v_p1_due v_p1_size v_p1_ways_town_closed v_p1_ways_town_size v_p1_ways_town_home v_p1_costLeft) [(0, .ref q_this), (1, .ref q_p1), (3, .int (s_21.1))] 21 []) (fun s_21 r_21 h hc_21 hx_21 => ?_)
    unfold f_X0_seek_b21 at h
    refine j_iload_n C dX0_seek_21 rfl ?_
    refine j_iconst C (3) dX0_seek_22 ki_3 ?_
    refine j_icmp_ge C h 39 dX0_seek_23 (by decide) (fun hc h => ?_) (fun hc h => ?_)
    · cases h
      have h9 := hx_21 _ rfl
      subst h9
      exact j_lw ha_21 rfl
    · refine j_aload_n C dX0_seek_26 rfl ?_
      refine j_get C 0 rfl rfl inX0 0 (by decide) kw_219 rfl rfl dX0_seek_27 ?_
      refine j_iload_n C dX0_seek_30 rfl ?_
      refine j_iconst C (0) dX0_seek_31 ki_0 ?_
      refine j_iastore 1 C h rfl rfl dX0_seek_32 (fun h => ?_)
      refine j_ws (ws' := (w_X0_seek (gD g) q_this q_sets q_tried q_best q_p1 q_p1_ways q_p1_ways_town q_p1_costLeft w_p1_costFirst w_p1_streets w_p1_corners w_p1_costs w_p1_again w_p1_ways_on w_p1_ways_back w_p1_ways_least w_p1_ways_town_froms w_p1_ways_town_tos w_p1_ways_town_lengths w_p1_ways_town_kinds w_p1_ways_town_figures (if x2 ≤ (3 : Int32) then x2 else (3 : Int32)) ((0 : Int32)) v_greatest v_together v_busy (upd s_21.2 (Int32.toNatClampNeg s_21.1) (0 : Int32)) v_tried v_best v_p1_isSought v_p1_due v_p1_size v_p1_ways_town_closed v_p1_ways_town_size v_p1_ways_town_home v_p1_costLeft)) rfl ?_
      refine j_inc C (1) dX0_seek_33 rfl ki_1 (by decide) ?_
      refine j_goto C 21 dX0_seek_36 (by decide) ?_
      cases h
      have hc9 := hc_21 _ rfl
      exact j_lw hc9 rfl
  refine jv_icmp_le C 10 dX0_seek_3 (by decide) (fun hc => ?_) (fun hc => ?_)
  · try simp only [if_pos hc] at hj_1
    refine j_iload_n C dX0_seek_10 rfl ?_
    exact j_lw hj_1 rfl
  · try simp only [if_neg hc] at hj_1
    refine j_iconst C (3) dX0_seek_6 ki_3 ?_
    refine j_goto C 11 dX0_seek_7 (by decide) ?_
    exact j_lw hj_1 rfl
