def w_J6_bitCount_0f7a4 (D : va_G) : va_W := []
theorem w_J6_bitCount_0f7a4_a {D : va_G} : (w_J6_bitCount_0f7a4 D).map (fun q => q.1) = [] := rfl
def f_J6_bitCount_0f7a4 (x0 : Int32) : Option Int32 :=
  some ((((((((x0 - (((Int32.toUInt32 x0 >>> (Int32.toUInt32 (1 : Int32) &&& Int32.toUInt32 31)).toInt32) &&& (1431655765 : Int32))) &&& (858993459 : Int32)) + (((Int32.toUInt32 (x0 - (((Int32.toUInt32 x0 >>> (Int32.toUInt32 (1 : Int32) &&& Int32.toUInt32 31)).toInt32) &&& (1431655765 : Int32))) >>> (Int32.toUInt32 (2 : Int32) &&& Int32.toUInt32 31)).toInt32) &&& (858993459 : Int32))) + ((Int32.toUInt32 (((x0 - (((Int32.toUInt32 x0 >>> (Int32.toUInt32 (1 : Int32) &&& Int32.toUInt32 31)).toInt32) &&& (1431655765 : Int32))) &&& (858993459 : Int32)) + (((Int32.toUInt32 (x0 - (((Int32.toUInt32 x0 >>> (Int32.toUInt32 (1 : Int32) &&& Int32.toUInt32 31)).toInt32) &&& (1431655765 : Int32))) >>> (Int32.toUInt32 (2 : Int32) &&& Int32.toUInt32 31)).toInt32) &&& (858993459 : Int32))) >>> (Int32.toUInt32 (4 : Int32) &&& Int32.toUInt32 31)).toInt32)) &&& (252645135 : Int32)) + ((Int32.toUInt32 (((((x0 - (((Int32.toUInt32 x0 >>> (Int32.toUInt32 (1 : Int32) &&& Int32.toUInt32 31)).toInt32) &&& (1431655765 : Int32))) &&& (858993459 : Int32)) + (((Int32.toUInt32 (x0 - (((Int32.toUInt32 x0 >>> (Int32.toUInt32 (1 : Int32) &&& Int32.toUInt32 31)).toInt32) &&& (1431655765 : Int32))) >>> (Int32.toUInt32 (2 : Int32) &&& Int32.toUInt32 31)).toInt32) &&& (858993459 : Int32))) + ((Int32.toUInt32 (((x0 - (((Int32.toUInt32 x0 >>> (Int32.toUInt32 (1 : Int32) &&& Int32.toUInt32 31)).toInt32) &&& (1431655765 : Int32))) &&& (858993459 : Int32)) + (((Int32.toUInt32 (x0 - (((Int32.toUInt32 x0 >>> (Int32.toUInt32 (1 : Int32) &&& Int32.toUInt32 31)).toInt32) &&& (1431655765 : Int32))) >>> (Int32.toUInt32 (2 : Int32) &&& Int32.toUInt32 31)).toInt32) &&& (858993459 : Int32))) >>> (Int32.toUInt32 (4 : Int32) &&& Int32.toUInt32 31)).toInt32)) &&& (252645135 : Int32)) >>> (Int32.toUInt32 (8 : Int32) &&& Int32.toUInt32 31)).toInt32)) + ((Int32.toUInt32 ((((((x0 - (((Int32.toUInt32 x0 >>> (Int32.toUInt32 (1 : Int32) &&& Int32.toUInt32 31)).toInt32) &&& (1431655765 : Int32))) &&& (858993459 : Int32)) + (((Int32.toUInt32 (x0 - (((Int32.toUInt32 x0 >>> (Int32.toUInt32 (1 : Int32) &&& Int32.toUInt32 31)).toInt32) &&& (1431655765 : Int32))) >>> (Int32.toUInt32 (2 : Int32) &&& Int32.toUInt32 31)).toInt32) &&& (858993459 : Int32))) + ((Int32.toUInt32 (((x0 - (((Int32.toUInt32 x0 >>> (Int32.toUInt32 (1 : Int32) &&& Int32.toUInt32 31)).toInt32) &&& (1431655765 : Int32))) &&& (858993459 : Int32)) + (((Int32.toUInt32 (x0 - (((Int32.toUInt32 x0 >>> (Int32.toUInt32 (1 : Int32) &&& Int32.toUInt32 31)).toInt32) &&& (1431655765 : Int32))) >>> (Int32.toUInt32 (2 : Int32) &&& Int32.toUInt32 31)).toInt32) &&& (858993459 : Int32))) >>> (Int32.toUInt32 (4 : Int32) &&& Int32.toUInt32 31)).toInt32)) &&& (252645135 : Int32)) + ((Int32.toUInt32 (((((x0 - (((Int32.toUInt32 x0 >>> (Int32.toUInt32 (1 : Int32) &&& Int32.toUInt32 31)).toInt32) &&& (1431655765 : Int32))) &&& (858993459 : Int32)) + (((Int32.toUInt32 (x0 - (((Int32.toUInt32 x0 >>> (Int32.toUInt32 (1 : Int32) &&& Int32.toUInt32 31)).toInt32) &&& (1431655765 : Int32))) >>> (Int32.toUInt32 (2 : Int32) &&& Int32.toUInt32 31)).toInt32) &&& (858993459 : Int32))) + ((Int32.toUInt32 (((x0 - (((Int32.toUInt32 x0 >>> (Int32.toUInt32 (1 : Int32) &&& Int32.toUInt32 31)).toInt32) &&& (1431655765 : Int32))) &&& (858993459 : Int32)) + (((Int32.toUInt32 (x0 - (((Int32.toUInt32 x0 >>> (Int32.toUInt32 (1 : Int32) &&& Int32.toUInt32 31)).toInt32) &&& (1431655765 : Int32))) >>> (Int32.toUInt32 (2 : Int32) &&& Int32.toUInt32 31)).toInt32) &&& (858993459 : Int32))) >>> (Int32.toUInt32 (4 : Int32) &&& Int32.toUInt32 31)).toInt32)) &&& (252645135 : Int32)) >>> (Int32.toUInt32 (8 : Int32) &&& Int32.toUInt32 31)).toInt32)) >>> (Int32.toUInt32 (16 : Int32) &&& Int32.toUInt32 31)).toInt32)) &&& (63 : Int32))
set_option maxRecDepth 100000 in
set_option maxHeartbeats 4000000 in
theorem c_J6_bitCount_0f7a4 (l : Launch) (D : va_G) {x0 : Int32} {o : Int32} (h : f_J6_bitCount_0f7a4 x0 = some o) : CT l D yJ6_bitCount_0f7a4 cJ6_bitCount_0f7a4 1 (Option.some FieldType.int) 0 [.int x0] (w_J6_bitCount_0f7a4 D) (w_J6_bitCount_0f7a4 D) (some (.int o)) := by
  refine CT.of mk_J6_bitCount_0f7a4 (Nat.le_of_ble_eq_true rfl) (fun g hl hD C E => ?_)
  subst hl
  subst hD
  unfold f_J6_bitCount_0f7a4 at h
  refine j_iload_n C dJ6_bitCount_0f7a4_0 rfl ?_
  refine j_iload_n C dJ6_bitCount_0f7a4_1 rfl ?_
  refine j_iconst C (1) dJ6_bitCount_0f7a4_2 ki_1 ?_
  refine j_iushr C dJ6_bitCount_0f7a4_3 ?_
  refine j_ldcw C kw_562 dJ6_bitCount_0f7a4_4 ?_
  refine j_iand C dJ6_bitCount_0f7a4_7 ?_
  refine j_isub C dJ6_bitCount_0f7a4_8 ?_
  refine j_istore_n C dJ6_bitCount_0f7a4_9 (by decide) ?_
  refine j_iload_n C dJ6_bitCount_0f7a4_10 rfl ?_
  refine j_ldcw C kw_563 dJ6_bitCount_0f7a4_11 ?_
  refine j_iand C dJ6_bitCount_0f7a4_14 ?_
  refine j_iload_n C dJ6_bitCount_0f7a4_15 rfl ?_
  refine j_iconst C (2) dJ6_bitCount_0f7a4_16 ki_2 ?_
  refine j_iushr C dJ6_bitCount_0f7a4_17 ?_
  refine j_ldcw C kw_563 dJ6_bitCount_0f7a4_18 ?_
  refine j_iand C dJ6_bitCount_0f7a4_21 ?_
  refine j_iadd C dJ6_bitCount_0f7a4_22 ?_
  refine j_istore_n C dJ6_bitCount_0f7a4_23 (by decide) ?_
  refine j_iload_n C dJ6_bitCount_0f7a4_24 rfl ?_
  refine j_iload_n C dJ6_bitCount_0f7a4_25 rfl ?_
  refine j_iconst C (4) dJ6_bitCount_0f7a4_26 ki_4 ?_
  refine j_iushr C dJ6_bitCount_0f7a4_27 ?_
  refine j_iadd C dJ6_bitCount_0f7a4_28 ?_
  refine j_ldcw C kw_564 dJ6_bitCount_0f7a4_29 ?_
  refine j_iand C dJ6_bitCount_0f7a4_32 ?_
  refine j_istore_n C dJ6_bitCount_0f7a4_33 (by decide) ?_
  refine j_iload_n C dJ6_bitCount_0f7a4_34 rfl ?_
  refine j_iload_n C dJ6_bitCount_0f7a4_35 rfl ?_
  refine j_bipush C (8) dJ6_bitCount_0f7a4_36 kb_8 ?_
  refine j_iushr C dJ6_bitCount_0f7a4_38 ?_
  refine j_iadd C dJ6_bitCount_0f7a4_39 ?_
  refine j_istore_n C dJ6_bitCount_0f7a4_40 (by decide) ?_
  refine j_iload_n C dJ6_bitCount_0f7a4_41 rfl ?_
  refine j_iload_n C dJ6_bitCount_0f7a4_42 rfl ?_
  refine j_bipush C (16) dJ6_bitCount_0f7a4_43 kb_16 ?_
  refine j_iushr C dJ6_bitCount_0f7a4_45 ?_
  refine j_iadd C dJ6_bitCount_0f7a4_46 ?_
  refine j_istore_n C dJ6_bitCount_0f7a4_47 (by decide) ?_
  refine j_iload_n C dJ6_bitCount_0f7a4_48 rfl ?_
  refine j_bipush C (63) dJ6_bitCount_0f7a4_49 kb_63 ?_
  refine j_iand C dJ6_bitCount_0f7a4_51 ?_
  have h := Option.some.inj h
  subst h
  exact j_iret C E dJ6_bitCount_0f7a4_52

def w_J6_numberOfTrailingZeros_0f7a4 (D : va_G) : va_W := []
theorem w_J6_numberOfTrailingZeros_0f7a4_a {D : va_G} : (w_J6_numberOfTrailingZeros_0f7a4 D).map (fun q => q.1) = [] := rfl
def f_J6_numberOfTrailingZeros_0f7a4 (x0 : Int32) : Option Int32 :=
  (if 0 < ((x0 ^^^ (-1 : Int32)) &&& (x0 - (1 : Int32))) then ((if ((x0 ^^^ (-1 : Int32)) &&& (x0 - (1 : Int32))) ≤ (65536 : Int32) then some ((x0 ^^^ (-1 : Int32)) &&& (x0 - (1 : Int32)), (1 : Int32)) else some ((Int32.toUInt32 ((x0 ^^^ (-1 : Int32)) &&& (x0 - (1 : Int32))) >>> (Int32.toUInt32 (16 : Int32) &&& Int32.toUInt32 31)).toInt32, (1 : Int32) + (16 : Int32))) : Option (Int32 × Int32)).bind (fun m_1 => ((if m_1.1 ≤ (256 : Int32) then some (m_1.1, m_1.2) else some ((Int32.toUInt32 m_1.1 >>> (Int32.toUInt32 (8 : Int32) &&& Int32.toUInt32 31)).toInt32, m_1.2 + (8 : Int32))) : Option (Int32 × Int32)).bind (fun m_2 => ((if m_2.1 ≤ (16 : Int32) then some (m_2.1, m_2.2) else some ((Int32.toUInt32 m_2.1 >>> (Int32.toUInt32 (4 : Int32) &&& Int32.toUInt32 31)).toInt32, m_2.2 + (4 : Int32))) : Option (Int32 × Int32)).bind (fun m_3 => ((if m_3.1 ≤ (4 : Int32) then some (m_3.1, m_3.2) else some ((Int32.toUInt32 m_3.1 >>> (Int32.toUInt32 (2 : Int32) &&& Int32.toUInt32 31)).toInt32, m_3.2 + (2 : Int32))) : Option (Int32 × Int32)).bind (fun m_4 => some (m_4.2 + ((Int32.toUInt32 m_4.1 >>> (Int32.toUInt32 (1 : Int32) &&& Int32.toUInt32 31)).toInt32)))))) else some (((x0 ^^^ (-1 : Int32)) &&& (x0 - (1 : Int32))) &&& (32 : Int32)))
set_option maxRecDepth 100000 in
set_option maxHeartbeats 4000000 in
theorem c_J6_numberOfTrailingZeros_0f7a4 (l : Launch) (D : va_G) {x0 : Int32} {o : Int32} (h : f_J6_numberOfTrailingZeros_0f7a4 x0 = some o) : CT l D yJ6_numberOfTrailingZeros_0f7a4 cJ6_numberOfTrailingZeros_0f7a4 2 (Option.some FieldType.int) 0 [.int x0] (w_J6_numberOfTrailingZeros_0f7a4 D) (w_J6_numberOfTrailingZeros_0f7a4 D) (some (.int o)) := by
  refine CT.of mk_J6_numberOfTrailingZeros_0f7a4 (Nat.le_of_ble_eq_true rfl) (fun g hl hD C E => ?_)
  subst hl
  subst hD
  unfold f_J6_numberOfTrailingZeros_0f7a4 at h
  refine j_iload_n C dJ6_numberOfTrailingZeros_0f7a4_0 rfl ?_
  refine j_iconst C (-1) dJ6_numberOfTrailingZeros_0f7a4_1 ki_m1 ?_
  refine j_ixor C dJ6_numberOfTrailingZeros_0f7a4_2 ?_
  refine j_iload_n C dJ6_numberOfTrailingZeros_0f7a4_3 rfl ?_
  refine j_iconst C (1) dJ6_numberOfTrailingZeros_0f7a4_4 ki_1 ?_
  refine j_isub C dJ6_numberOfTrailingZeros_0f7a4_5 ?_
  refine j_iand C dJ6_numberOfTrailingZeros_0f7a4_6 ?_
  refine j_istore_n C dJ6_numberOfTrailingZeros_0f7a4_7 (by decide) ?_
  refine j_iload_n C dJ6_numberOfTrailingZeros_0f7a4_8 rfl ?_
  refine j_if_gt C h 17 dJ6_numberOfTrailingZeros_0f7a4_9 (by decide) (fun hc h => ?_) (fun hc h => ?_)
  · refine j_iconst C (1) dJ6_numberOfTrailingZeros_0f7a4_17 ki_1 ?_
    refine j_istore_n C dJ6_numberOfTrailingZeros_0f7a4_18 (by decide) ?_
    refine j_iload_n C dJ6_numberOfTrailingZeros_0f7a4_19 rfl ?_
    refine j_ldcw C kw_1291 dJ6_numberOfTrailingZeros_0f7a4_20 ?_
    obtain ⟨m_1, hm_1, h⟩ := of_bind h
    have hj_1 : J g (w_J6_numberOfTrailingZeros_0f7a4 (gD g)) [(0, .int (m_1.1)), (1, .int (m_1.2))] 34 [] := by
      refine j_iload_n C dJ6_numberOfTrailingZeros_0f7a4_34 rfl ?_
      refine j_sipush C (256) dJ6_numberOfTrailingZeros_0f7a4_35 kc_256 ?_
      obtain ⟨m_2, hm_2, h⟩ := of_bind h
      have hj_2 : J g (w_J6_numberOfTrailingZeros_0f7a4 (gD g)) [(0, .int (m_2.1)), (1, .int (m_2.2))] 49 [] := by
        refine j_iload_n C dJ6_numberOfTrailingZeros_0f7a4_49 rfl ?_
        refine j_bipush C (16) dJ6_numberOfTrailingZeros_0f7a4_50 kb_16 ?_
        obtain ⟨m_3, hm_3, h⟩ := of_bind h
        have hj_3 : J g (w_J6_numberOfTrailingZeros_0f7a4 (gD g)) [(0, .int (m_3.1)), (1, .int (m_3.2))] 62 [] := by
          refine j_iload_n C dJ6_numberOfTrailingZeros_0f7a4_62 rfl ?_
          refine j_iconst C (4) dJ6_numberOfTrailingZeros_0f7a4_63 ki_4 ?_
          obtain ⟨m_4, hm_4, h⟩ := of_bind h
          have hj_4 : J g (w_J6_numberOfTrailingZeros_0f7a4 (gD g)) [(0, .int (m_4.1)), (1, .int (m_4.2))] 74 [] := by
            refine j_iload_n C dJ6_numberOfTrailingZeros_0f7a4_74 rfl ?_
            refine j_iload_n C dJ6_numberOfTrailingZeros_0f7a4_75 rfl ?_
            refine j_iconst C (1) dJ6_numberOfTrailingZeros_0f7a4_76 ki_1 ?_
            refine j_iushr C dJ6_numberOfTrailingZeros_0f7a4_77 ?_
            refine j_iadd C dJ6_numberOfTrailingZeros_0f7a4_78 ?_
            have h := Option.some.inj h
            subst h
            exact j_iret C E dJ6_numberOfTrailingZeros_0f7a4_79
          refine j_icmp_le C hm_4 74 dJ6_numberOfTrailingZeros_0f7a4_64 (by decide) (fun hc h => ?_) (fun hc h => ?_)
          · have h := Option.some.inj h
            subst h
            exact j_lw hj_4 rfl
          · refine j_inc C (2) dJ6_numberOfTrailingZeros_0f7a4_67 rfl ki_2 (by decide) ?_
            refine j_iload_n C dJ6_numberOfTrailingZeros_0f7a4_70 rfl ?_
            refine j_iconst C (2) dJ6_numberOfTrailingZeros_0f7a4_71 ki_2 ?_
            refine j_iushr C dJ6_numberOfTrailingZeros_0f7a4_72 ?_
            refine j_istore_n C dJ6_numberOfTrailingZeros_0f7a4_73 (by decide) ?_
            have h := Option.some.inj h
            subst h
            exact j_lw hj_4 rfl
        refine j_icmp_le C hm_3 62 dJ6_numberOfTrailingZeros_0f7a4_52 (by decide) (fun hc h => ?_) (fun hc h => ?_)
        · have h := Option.some.inj h
          subst h
          exact j_lw hj_3 rfl
        · refine j_inc C (4) dJ6_numberOfTrailingZeros_0f7a4_55 rfl ki_4 (by decide) ?_
          refine j_iload_n C dJ6_numberOfTrailingZeros_0f7a4_58 rfl ?_
          refine j_iconst C (4) dJ6_numberOfTrailingZeros_0f7a4_59 ki_4 ?_
          refine j_iushr C dJ6_numberOfTrailingZeros_0f7a4_60 ?_
          refine j_istore_n C dJ6_numberOfTrailingZeros_0f7a4_61 (by decide) ?_
          have h := Option.some.inj h
          subst h
          exact j_lw hj_3 rfl
      refine j_icmp_le C hm_2 49 dJ6_numberOfTrailingZeros_0f7a4_38 (by decide) (fun hc h => ?_) (fun hc h => ?_)
      · have h := Option.some.inj h
        subst h
        exact j_lw hj_2 rfl
      · refine j_inc C (8) dJ6_numberOfTrailingZeros_0f7a4_41 rfl ki_8 (by decide) ?_
        refine j_iload_n C dJ6_numberOfTrailingZeros_0f7a4_44 rfl ?_
        refine j_bipush C (8) dJ6_numberOfTrailingZeros_0f7a4_45 kb_8 ?_
        refine j_iushr C dJ6_numberOfTrailingZeros_0f7a4_47 ?_
        refine j_istore_n C dJ6_numberOfTrailingZeros_0f7a4_48 (by decide) ?_
        have h := Option.some.inj h
        subst h
        exact j_lw hj_2 rfl
    refine j_icmp_le C hm_1 34 dJ6_numberOfTrailingZeros_0f7a4_23 (by decide) (fun hc h => ?_) (fun hc h => ?_)
    · have h := Option.some.inj h
      subst h
      exact j_lw hj_1 rfl
    · refine j_inc C (16) dJ6_numberOfTrailingZeros_0f7a4_26 rfl ki_16 (by decide) ?_
      refine j_iload_n C dJ6_numberOfTrailingZeros_0f7a4_29 rfl ?_
      refine j_bipush C (16) dJ6_numberOfTrailingZeros_0f7a4_30 kb_16 ?_
      refine j_iushr C dJ6_numberOfTrailingZeros_0f7a4_32 ?_
      refine j_istore_n C dJ6_numberOfTrailingZeros_0f7a4_33 (by decide) ?_
      have h := Option.some.inj h
      subst h
      exact j_lw hj_1 rfl
  · refine j_iload_n C dJ6_numberOfTrailingZeros_0f7a4_12 rfl ?_
    refine j_bipush C (32) dJ6_numberOfTrailingZeros_0f7a4_13 kb_32 ?_
    refine j_iand C dJ6_numberOfTrailingZeros_0f7a4_15 ?_
    have h := Option.some.inj h
    subst h
    exact j_iret C E dJ6_numberOfTrailingZeros_0f7a4_16

def w_J6_compare_7cf53 (D : va_G) : va_W := []
theorem w_J6_compare_7cf53_a {D : va_G} : (w_J6_compare_7cf53 D).map (fun q => q.1) = [] := rfl
def f_J6_compare_7cf53 (x0 : Int32) (x1 : Int32) : Option Int32 :=
  some (if x1 ≤ x0 then (if x0 = x1 then (0 : Int32) else (1 : Int32)) else (-1 : Int32))
set_option maxRecDepth 100000 in
set_option maxHeartbeats 4000000 in
theorem c_J6_compare_7cf53 (l : Launch) (D : va_G) {x0 : Int32} {x1 : Int32} {o : Int32} (h : f_J6_compare_7cf53 x0 x1 = some o) : CT l D yJ6_compare_7cf53 cJ6_compare_7cf53 2 (Option.some FieldType.int) 0 [.int x0, .int x1] (w_J6_compare_7cf53 D) (w_J6_compare_7cf53 D) (some (.int o)) := by
  refine CT.of mk_J6_compare_7cf53 (Nat.le_of_ble_eq_true rfl) (fun g hl hD C E => ?_)
  subst hl
  subst hD
  unfold f_J6_compare_7cf53 at h
  refine j_iload_n C dJ6_compare_7cf53_0 rfl ?_
  refine j_iload_n C dJ6_compare_7cf53_1 rfl ?_
  have hj_1 : J g (w_J6_compare_7cf53 (gD g)) [] 19 [.int (if x1 ≤ x0 then (if x0 = x1 then (0 : Int32) else (1 : Int32)) else (-1 : Int32))] := by
    have h := Option.some.inj h
    subst h
    exact j_iret C E dJ6_compare_7cf53_19
  refine jv_icmp_ge C 9 dJ6_compare_7cf53_2 (by decide) (fun hc => ?_) (fun hc => ?_)
  · try simp only [if_pos hc] at hj_1
    refine j_iload_n C dJ6_compare_7cf53_9 rfl ?_
    refine j_iload_n C dJ6_compare_7cf53_10 rfl ?_
    refine jv_icmp_ne C 18 dJ6_compare_7cf53_11 (by decide) (fun hc => ?_) (fun hc => ?_)
    · try simp only [if_pos hc] at hj_1
      refine j_iconst C (0) dJ6_compare_7cf53_14 ki_0 ?_
      refine j_goto C 19 dJ6_compare_7cf53_15 (by decide) ?_
      exact j_lw hj_1 rfl
    · try simp only [if_neg hc] at hj_1
      refine j_iconst C (1) dJ6_compare_7cf53_18 ki_1 ?_
      exact j_lw hj_1 rfl
  · try simp only [if_neg hc] at hj_1
    refine j_iconst C (-1) dJ6_compare_7cf53_5 ki_m1 ?_
    refine j_goto C 19 dJ6_compare_7cf53_6 (by decide) ?_
    exact j_lw hj_1 rfl

def w_X7_isOpen (D : va_G) (q_this : Nat) (w_froms w_tos w_lengths w_kinds w_figures : Value) (v_closed : Int32) (v_size : Int32) (v_home : Int32) : va_W := [(q_this, .inr (6, [w_froms, w_tos, w_lengths, w_kinds, w_figures, .int v_closed, .int v_size, .int v_home]))]
theorem w_X7_isOpen_g0 {D : va_G} {q_this : Nat} {w_froms : Value} {w_tos : Value} {w_lengths : Value} {w_kinds : Value} {w_figures : Value} {v_closed : Int32} {v_size : Int32} {v_home : Int32} : (w_X7_isOpen D q_this w_froms w_tos w_lengths w_kinds w_figures v_closed v_size v_home)[0]? = some (q_this, .inr (6, [w_froms, w_tos, w_lengths, w_kinds, w_figures, .int v_closed, .int v_size, .int v_home])) := rfl
theorem w_X7_isOpen_s0 {D : va_G} {q_this : Nat} {w_froms : Value} {w_tos : Value} {w_lengths : Value} {w_kinds : Value} {w_figures : Value} {v_closed : Int32} {v_size : Int32} {v_home : Int32} {v_closed' : Int32} {v_size' : Int32} {v_home' : Int32} : (w_X7_isOpen D q_this w_froms w_tos w_lengths w_kinds w_figures v_closed v_size v_home).set 0 (q_this, .inr (6, [w_froms, w_tos, w_lengths, w_kinds, w_figures, .int v_closed', .int v_size', .int v_home'])) = (w_X7_isOpen D q_this w_froms w_tos w_lengths w_kinds w_figures v_closed' v_size' v_home') := rfl
theorem w_X7_isOpen_a {D : va_G} {q_this : Nat} {w_froms : Value} {w_tos : Value} {w_lengths : Value} {w_kinds : Value} {w_figures : Value} {v_closed : Int32} {v_size : Int32} {v_home : Int32} : (w_X7_isOpen D q_this w_froms w_tos w_lengths w_kinds w_figures v_closed v_size v_home).map (fun q => q.1) = [q_this] := rfl
def f_X7_isOpen (x1 : Int32) (v_closed : Int32) : Option Int32 :=
  gb (if ((v_closed >>> (x1 &&& 31)) &&& (1 : Int32)) = 0 then (1 : Int32) else (0 : Int32)) (some (if ((v_closed >>> (x1 &&& 31)) &&& (1 : Int32)) = 0 then (1 : Int32) else (0 : Int32)))
set_option maxRecDepth 100000 in
set_option maxHeartbeats 4000000 in
theorem c_X7_isOpen (l : Launch) (D : va_G) {q_this : Nat} {w_froms w_tos w_lengths w_kinds w_figures : Value} {v_closed : Int32} {v_size : Int32} {v_home : Int32} {x1 : Int32} {o : Int32} (h : f_X7_isOpen x1 v_closed = some o) : CT l D yX7_isOpen cX7_isOpen 2 (Option.some FieldType.boolean) 0 [.ref q_this, .int x1] (w_X7_isOpen D q_this w_froms w_tos w_lengths w_kinds w_figures v_closed v_size v_home) (w_X7_isOpen D q_this w_froms w_tos w_lengths w_kinds w_figures v_closed v_size v_home) (some (.int o)) := by
  refine CT.of mk_X7_isOpen (Nat.le_of_ble_eq_true rfl) (fun g hl hD C E => ?_)
  subst hl
  subst hD
  unfold f_X7_isOpen at h
  refine j_aload_n C dX7_isOpen_0 rfl ?_
  refine j_get C 0 w_X7_isOpen_g0 rfl inX7 5 (by decide) kw_53 rfl rfl dX7_isOpen_1 ?_
  refine j_iload_n C dX7_isOpen_4 rfl ?_
  refine j_ishr C dX7_isOpen_5 ?_
  refine j_iconst C (1) dX7_isOpen_6 ki_1 ?_
  refine j_iand C dX7_isOpen_7 ?_
  have hj_1 : J g (w_X7_isOpen (gD g) q_this w_froms w_tos w_lengths w_kinds w_figures v_closed v_size v_home) [] 16 [.int (if ((v_closed >>> (x1 &&& 31)) &&& (1 : Int32)) = 0 then (1 : Int32) else (0 : Int32))] := by
    obtain ⟨hz, h⟩ := of_gb h
    have h := Option.some.inj h
    subst h
    exact j_zret C E hz.1 dX7_isOpen_16
  refine jv_if_ne C 15 dX7_isOpen_8 (by decide) (fun hc => ?_) (fun hc => ?_)
  · try simp only [if_pos hc] at hj_1
    refine j_iconst C (1) dX7_isOpen_11 ki_1 ?_
    refine j_goto C 16 dX7_isOpen_12 (by decide) ?_
    exact j_lw hj_1 rfl
  · try simp only [if_neg hc] at hj_1
    refine j_iconst C (0) dX7_isOpen_15 ki_0 ?_
    exact j_lw hj_1 rfl

def w_X7_has (D : va_G) (q_this : Nat) (w_froms w_tos w_lengths w_kinds w_figures : Value) (v_closed : Int32) (v_size : Int32) (v_home : Int32) : va_W := [(q_this, .inr (6, [w_froms, w_tos, w_lengths, w_kinds, w_figures, .int v_closed, .int v_size, .int v_home]))]
theorem w_X7_has_g0 {D : va_G} {q_this : Nat} {w_froms : Value} {w_tos : Value} {w_lengths : Value} {w_kinds : Value} {w_figures : Value} {v_closed : Int32} {v_size : Int32} {v_home : Int32} : (w_X7_has D q_this w_froms w_tos w_lengths w_kinds w_figures v_closed v_size v_home)[0]? = some (q_this, .inr (6, [w_froms, w_tos, w_lengths, w_kinds, w_figures, .int v_closed, .int v_size, .int v_home])) := rfl
theorem w_X7_has_s0 {D : va_G} {q_this : Nat} {w_froms : Value} {w_tos : Value} {w_lengths : Value} {w_kinds : Value} {w_figures : Value} {v_closed : Int32} {v_size : Int32} {v_home : Int32} {v_closed' : Int32} {v_size' : Int32} {v_home' : Int32} : (w_X7_has D q_this w_froms w_tos w_lengths w_kinds w_figures v_closed v_size v_home).set 0 (q_this, .inr (6, [w_froms, w_tos, w_lengths, w_kinds, w_figures, .int v_closed', .int v_size', .int v_home'])) = (w_X7_has D q_this w_froms w_tos w_lengths w_kinds w_figures v_closed' v_size' v_home') := rfl
theorem w_X7_has_a {D : va_G} {q_this : Nat} {w_froms : Value} {w_tos : Value} {w_lengths : Value} {w_kinds : Value} {w_figures : Value} {v_closed : Int32} {v_size : Int32} {v_home : Int32} : (w_X7_has D q_this w_froms w_tos w_lengths w_kinds w_figures v_closed v_size v_home).map (fun q => q.1) = [q_this] := rfl
def f_X7_has (x1 : Int32) (v_size : Int32) : Option Int32 :=
  gb (if x1 < 0 then (0 : Int32) else (if v_size ≤ x1 then (0 : Int32) else (1 : Int32))) (some (if x1 < 0 then (0 : Int32) else (if v_size ≤ x1 then (0 : Int32) else (1 : Int32))))
set_option maxRecDepth 100000 in
set_option maxHeartbeats 4000000 in
theorem c_X7_has (l : Launch) (D : va_G) {q_this : Nat} {w_froms w_tos w_lengths w_kinds w_figures : Value} {v_closed : Int32} {v_size : Int32} {v_home : Int32} {x1 : Int32} {o : Int32} (h : f_X7_has x1 v_size = some o) : CT l D yX7_has cX7_has 2 (Option.some FieldType.boolean) 0 [.ref q_this, .int x1] (w_X7_has D q_this w_froms w_tos w_lengths w_kinds w_figures v_closed v_size v_home) (w_X7_has D q_this w_froms w_tos w_lengths w_kinds w_figures v_closed v_size v_home) (some (.int o)) := by
  refine CT.of mk_X7_has (Nat.le_of_ble_eq_true rfl) (fun g hl hD C E => ?_)
  subst hl
  subst hD
  unfold f_X7_has at h
  refine j_iload_n C dX7_has_0 rfl ?_
  have hj_1 : J g (w_X7_has (gD g) q_this w_froms w_tos w_lengths w_kinds w_figures v_closed v_size v_home) [] 17 [.int (if x1 < 0 then (0 : Int32) else (if v_size ≤ x1 then (0 : Int32) else (1 : Int32)))] := by
    obtain ⟨hz, h⟩ := of_gb h
    have h := Option.some.inj h
    subst h
    exact j_zret C E hz.1 dX7_has_17
  refine jv_if_lt C 16 dX7_has_1 (by decide) (fun hc => ?_) (fun hc => ?_)
  · try simp only [if_pos hc] at hj_1
    refine j_iconst C (0) dX7_has_16 ki_0 ?_
    exact j_lw hj_1 rfl
  · try simp only [if_neg hc] at hj_1
    refine j_iload_n C dX7_has_4 rfl ?_
    refine j_aload_n C dX7_has_5 rfl ?_
    refine j_get C 0 w_X7_has_g0 rfl inX7 6 (by decide) kw_54 rfl rfl dX7_has_6 ?_
    refine jv_icmp_ge C 16 dX7_has_9 (by decide) (fun hc => ?_) (fun hc => ?_)
    · try simp only [if_pos hc] at hj_1
      refine j_iconst C (0) dX7_has_16 ki_0 ?_
      exact j_lw hj_1 rfl
    · try simp only [if_neg hc] at hj_1
      refine j_iconst C (1) dX7_has_12 ki_1 ?_
      refine j_goto C 17 dX7_has_13 (by decide) ?_
      exact j_lw hj_1 rfl

def w_X7_hasRoom (D : va_G) (q_this : Nat) (w_froms w_tos w_lengths w_kinds w_figures : Value) (v_closed : Int32) (v_size : Int32) (v_home : Int32) : va_W := [(q_this, .inr (6, [w_froms, w_tos, w_lengths, w_kinds, w_figures, .int v_closed, .int v_size, .int v_home]))]
theorem w_X7_hasRoom_g0 {D : va_G} {q_this : Nat} {w_froms : Value} {w_tos : Value} {w_lengths : Value} {w_kinds : Value} {w_figures : Value} {v_closed : Int32} {v_size : Int32} {v_home : Int32} : (w_X7_hasRoom D q_this w_froms w_tos w_lengths w_kinds w_figures v_closed v_size v_home)[0]? = some (q_this, .inr (6, [w_froms, w_tos, w_lengths, w_kinds, w_figures, .int v_closed, .int v_size, .int v_home])) := rfl
theorem w_X7_hasRoom_s0 {D : va_G} {q_this : Nat} {w_froms : Value} {w_tos : Value} {w_lengths : Value} {w_kinds : Value} {w_figures : Value} {v_closed : Int32} {v_size : Int32} {v_home : Int32} {v_closed' : Int32} {v_size' : Int32} {v_home' : Int32} : (w_X7_hasRoom D q_this w_froms w_tos w_lengths w_kinds w_figures v_closed v_size v_home).set 0 (q_this, .inr (6, [w_froms, w_tos, w_lengths, w_kinds, w_figures, .int v_closed', .int v_size', .int v_home'])) = (w_X7_hasRoom D q_this w_froms w_tos w_lengths w_kinds w_figures v_closed' v_size' v_home') := rfl
theorem w_X7_hasRoom_a {D : va_G} {q_this : Nat} {w_froms : Value} {w_tos : Value} {w_lengths : Value} {w_kinds : Value} {w_figures : Value} {v_closed : Int32} {v_size : Int32} {v_home : Int32} : (w_X7_hasRoom D q_this w_froms w_tos w_lengths w_kinds w_figures v_closed v_size v_home).map (fun q => q.1) = [q_this] := rfl
def f_X7_hasRoom (v_size : Int32) : Option Int32 :=
  gb (if (8 : Int32) ≤ v_size then (0 : Int32) else (1 : Int32)) (some (if (8 : Int32) ≤ v_size then (0 : Int32) else (1 : Int32)))
set_option maxRecDepth 100000 in
set_option maxHeartbeats 4000000 in
theorem c_X7_hasRoom (l : Launch) (D : va_G) {q_this : Nat} {w_froms w_tos w_lengths w_kinds w_figures : Value} {v_closed : Int32} {v_size : Int32} {v_home : Int32} {o : Int32} (h : f_X7_hasRoom v_size = some o) : CT l D yX7_hasRoom cX7_hasRoom 1 (Option.some FieldType.boolean) 0 [.ref q_this] (w_X7_hasRoom D q_this w_froms w_tos w_lengths w_kinds w_figures v_closed v_size v_home) (w_X7_hasRoom D q_this w_froms w_tos w_lengths w_kinds w_figures v_closed v_size v_home) (some (.int o)) := by
  refine CT.of mk_X7_hasRoom (Nat.le_of_ble_eq_true rfl) (fun g hl hD C E => ?_)
  subst hl
  subst hD
  unfold f_X7_hasRoom at h
  refine j_aload_n C dX7_hasRoom_0 rfl ?_
  refine j_get C 0 w_X7_hasRoom_g0 rfl inX7 6 (by decide) kw_54 rfl rfl dX7_hasRoom_1 ?_
  refine j_bipush C (8) dX7_hasRoom_4 kb_8 ?_
  have hj_1 : J g (w_X7_hasRoom (gD g) q_this w_froms w_tos w_lengths w_kinds w_figures v_closed v_size v_home) [] 14 [.int (if (8 : Int32) ≤ v_size then (0 : Int32) else (1 : Int32))] := by
    obtain ⟨hz, h⟩ := of_gb h
    have h := Option.some.inj h
    subst h
    exact j_zret C E hz.1 dX7_hasRoom_14
  refine jv_icmp_ge C 13 dX7_hasRoom_6 (by decide) (fun hc => ?_) (fun hc => ?_)
  · try simp only [if_pos hc] at hj_1
    refine j_iconst C (0) dX7_hasRoom_13 ki_0 ?_
    exact j_lw hj_1 rfl
  · try simp only [if_neg hc] at hj_1
    refine j_iconst C (1) dX7_hasRoom_9 ki_1 ?_
    refine j_goto C 14 dX7_hasRoom_10 (by decide) ?_
    exact j_lw hj_1 rfl

def w_X7_add (D : va_G) (q_this q_froms q_tos q_lengths q_kinds q_figures : Nat) (v_closed : Int32) (v_size : Int32) (v_home : Int32) (v_froms : (Nat → Int32)) (v_tos : (Nat → Int32)) (v_lengths : (Nat → Int32)) (v_kinds : (Nat → Int32)) (v_figures : (Nat → Int32)) : va_W := [(q_this, .inr (6, [.ref q_froms, .ref q_tos, .ref q_lengths, .ref q_kinds, .ref q_figures, .int v_closed, .int v_size, .int v_home])), (q_froms, .inl (D.1 100, 8, .inl v_froms)), (q_tos, .inl (D.1 100, 8, .inl v_tos)), (q_lengths, .inl (D.1 100, 8, .inl v_lengths)), (q_kinds, .inl (D.1 100, 8, .inl v_kinds)), (q_figures, .inl (D.1 100, 8, .inl v_figures))]
theorem w_X7_add_g0 {D : va_G} {q_this : Nat} {q_froms : Nat} {q_tos : Nat} {q_lengths : Nat} {q_kinds : Nat} {q_figures : Nat} {v_closed : Int32} {v_size : Int32} {v_home : Int32} {v_froms : (Nat → Int32)} {v_tos : (Nat → Int32)} {v_lengths : (Nat → Int32)} {v_kinds : (Nat → Int32)} {v_figures : (Nat → Int32)} : (w_X7_add D q_this q_froms q_tos q_lengths q_kinds q_figures v_closed v_size v_home v_froms v_tos v_lengths v_kinds v_figures)[0]? = some (q_this, .inr (6, [.ref q_froms, .ref q_tos, .ref q_lengths, .ref q_kinds, .ref q_figures, .int v_closed, .int v_size, .int v_home])) := rfl
theorem w_X7_add_s0 {D : va_G} {q_this : Nat} {q_froms : Nat} {q_tos : Nat} {q_lengths : Nat} {q_kinds : Nat} {q_figures : Nat} {v_closed : Int32} {v_size : Int32} {v_home : Int32} {v_froms : (Nat → Int32)} {v_tos : (Nat → Int32)} {v_lengths : (Nat → Int32)} {v_kinds : (Nat → Int32)} {v_figures : (Nat → Int32)} {v_closed' : Int32} {v_size' : Int32} {v_home' : Int32} : (w_X7_add D q_this q_froms q_tos q_lengths q_kinds q_figures v_closed v_size v_home v_froms v_tos v_lengths v_kinds v_figures).set 0 (q_this, .inr (6, [.ref q_froms, .ref q_tos, .ref q_lengths, .ref q_kinds, .ref q_figures, .int v_closed', .int v_size', .int v_home'])) = (w_X7_add D q_this q_froms q_tos q_lengths q_kinds q_figures v_closed' v_size' v_home' v_froms v_tos v_lengths v_kinds v_figures) := rfl
theorem w_X7_add_g1 {D : va_G} {q_this : Nat} {q_froms : Nat} {q_tos : Nat} {q_lengths : Nat} {q_kinds : Nat} {q_figures : Nat} {v_closed : Int32} {v_size : Int32} {v_home : Int32} {v_froms : (Nat → Int32)} {v_tos : (Nat → Int32)} {v_lengths : (Nat → Int32)} {v_kinds : (Nat → Int32)} {v_figures : (Nat → Int32)} : (w_X7_add D q_this q_froms q_tos q_lengths q_kinds q_figures v_closed v_size v_home v_froms v_tos v_lengths v_kinds v_figures)[1]? = some (q_froms, .inl (D.1 100, 8, .inl v_froms)) := rfl
theorem w_X7_add_s1 {D : va_G} {q_this : Nat} {q_froms : Nat} {q_tos : Nat} {q_lengths : Nat} {q_kinds : Nat} {q_figures : Nat} {v_closed : Int32} {v_size : Int32} {v_home : Int32} {v_froms : (Nat → Int32)} {v_tos : (Nat → Int32)} {v_lengths : (Nat → Int32)} {v_kinds : (Nat → Int32)} {v_figures : (Nat → Int32)} {v_froms' : (Nat → Int32)} : (w_X7_add D q_this q_froms q_tos q_lengths q_kinds q_figures v_closed v_size v_home v_froms v_tos v_lengths v_kinds v_figures).set 1 (q_froms, .inl (D.1 100, 8, .inl v_froms')) = (w_X7_add D q_this q_froms q_tos q_lengths q_kinds q_figures v_closed v_size v_home v_froms' v_tos v_lengths v_kinds v_figures) := rfl
theorem w_X7_add_g2 {D : va_G} {q_this : Nat} {q_froms : Nat} {q_tos : Nat} {q_lengths : Nat} {q_kinds : Nat} {q_figures : Nat} {v_closed : Int32} {v_size : Int32} {v_home : Int32} {v_froms : (Nat → Int32)} {v_tos : (Nat → Int32)} {v_lengths : (Nat → Int32)} {v_kinds : (Nat → Int32)} {v_figures : (Nat → Int32)} : (w_X7_add D q_this q_froms q_tos q_lengths q_kinds q_figures v_closed v_size v_home v_froms v_tos v_lengths v_kinds v_figures)[2]? = some (q_tos, .inl (D.1 100, 8, .inl v_tos)) := rfl
theorem w_X7_add_s2 {D : va_G} {q_this : Nat} {q_froms : Nat} {q_tos : Nat} {q_lengths : Nat} {q_kinds : Nat} {q_figures : Nat} {v_closed : Int32} {v_size : Int32} {v_home : Int32} {v_froms : (Nat → Int32)} {v_tos : (Nat → Int32)} {v_lengths : (Nat → Int32)} {v_kinds : (Nat → Int32)} {v_figures : (Nat → Int32)} {v_tos' : (Nat → Int32)} : (w_X7_add D q_this q_froms q_tos q_lengths q_kinds q_figures v_closed v_size v_home v_froms v_tos v_lengths v_kinds v_figures).set 2 (q_tos, .inl (D.1 100, 8, .inl v_tos')) = (w_X7_add D q_this q_froms q_tos q_lengths q_kinds q_figures v_closed v_size v_home v_froms v_tos' v_lengths v_kinds v_figures) := rfl
theorem w_X7_add_g3 {D : va_G} {q_this : Nat} {q_froms : Nat} {q_tos : Nat} {q_lengths : Nat} {q_kinds : Nat} {q_figures : Nat} {v_closed : Int32} {v_size : Int32} {v_home : Int32} {v_froms : (Nat → Int32)} {v_tos : (Nat → Int32)} {v_lengths : (Nat → Int32)} {v_kinds : (Nat → Int32)} {v_figures : (Nat → Int32)} : (w_X7_add D q_this q_froms q_tos q_lengths q_kinds q_figures v_closed v_size v_home v_froms v_tos v_lengths v_kinds v_figures)[3]? = some (q_lengths, .inl (D.1 100, 8, .inl v_lengths)) := rfl
theorem w_X7_add_s3 {D : va_G} {q_this : Nat} {q_froms : Nat} {q_tos : Nat} {q_lengths : Nat} {q_kinds : Nat} {q_figures : Nat} {v_closed : Int32} {v_size : Int32} {v_home : Int32} {v_froms : (Nat → Int32)} {v_tos : (Nat → Int32)} {v_lengths : (Nat → Int32)} {v_kinds : (Nat → Int32)} {v_figures : (Nat → Int32)} {v_lengths' : (Nat → Int32)} : (w_X7_add D q_this q_froms q_tos q_lengths q_kinds q_figures v_closed v_size v_home v_froms v_tos v_lengths v_kinds v_figures).set 3 (q_lengths, .inl (D.1 100, 8, .inl v_lengths')) = (w_X7_add D q_this q_froms q_tos q_lengths q_kinds q_figures v_closed v_size v_home v_froms v_tos v_lengths' v_kinds v_figures) := rfl
theorem w_X7_add_g4 {D : va_G} {q_this : Nat} {q_froms : Nat} {q_tos : Nat} {q_lengths : Nat} {q_kinds : Nat} {q_figures : Nat} {v_closed : Int32} {v_size : Int32} {v_home : Int32} {v_froms : (Nat → Int32)} {v_tos : (Nat → Int32)} {v_lengths : (Nat → Int32)} {v_kinds : (Nat → Int32)} {v_figures : (Nat → Int32)} : (w_X7_add D q_this q_froms q_tos q_lengths q_kinds q_figures v_closed v_size v_home v_froms v_tos v_lengths v_kinds v_figures)[4]? = some (q_kinds, .inl (D.1 100, 8, .inl v_kinds)) := rfl
theorem w_X7_add_s4 {D : va_G} {q_this : Nat} {q_froms : Nat} {q_tos : Nat} {q_lengths : Nat} {q_kinds : Nat} {q_figures : Nat} {v_closed : Int32} {v_size : Int32} {v_home : Int32} {v_froms : (Nat → Int32)} {v_tos : (Nat → Int32)} {v_lengths : (Nat → Int32)} {v_kinds : (Nat → Int32)} {v_figures : (Nat → Int32)} {v_kinds' : (Nat → Int32)} : (w_X7_add D q_this q_froms q_tos q_lengths q_kinds q_figures v_closed v_size v_home v_froms v_tos v_lengths v_kinds v_figures).set 4 (q_kinds, .inl (D.1 100, 8, .inl v_kinds')) = (w_X7_add D q_this q_froms q_tos q_lengths q_kinds q_figures v_closed v_size v_home v_froms v_tos v_lengths v_kinds' v_figures) := rfl
theorem w_X7_add_g5 {D : va_G} {q_this : Nat} {q_froms : Nat} {q_tos : Nat} {q_lengths : Nat} {q_kinds : Nat} {q_figures : Nat} {v_closed : Int32} {v_size : Int32} {v_home : Int32} {v_froms : (Nat → Int32)} {v_tos : (Nat → Int32)} {v_lengths : (Nat → Int32)} {v_kinds : (Nat → Int32)} {v_figures : (Nat → Int32)} : (w_X7_add D q_this q_froms q_tos q_lengths q_kinds q_figures v_closed v_size v_home v_froms v_tos v_lengths v_kinds v_figures)[5]? = some (q_figures, .inl (D.1 100, 8, .inl v_figures)) := rfl
theorem w_X7_add_s5 {D : va_G} {q_this : Nat} {q_froms : Nat} {q_tos : Nat} {q_lengths : Nat} {q_kinds : Nat} {q_figures : Nat} {v_closed : Int32} {v_size : Int32} {v_home : Int32} {v_froms : (Nat → Int32)} {v_tos : (Nat → Int32)} {v_lengths : (Nat → Int32)} {v_kinds : (Nat → Int32)} {v_figures : (Nat → Int32)} {v_figures' : (Nat → Int32)} : (w_X7_add D q_this q_froms q_tos q_lengths q_kinds q_figures v_closed v_size v_home v_froms v_tos v_lengths v_kinds v_figures).set 5 (q_figures, .inl (D.1 100, 8, .inl v_figures')) = (w_X7_add D q_this q_froms q_tos q_lengths q_kinds q_figures v_closed v_size v_home v_froms v_tos v_lengths v_kinds v_figures') := rfl
theorem w_X7_add_a {D : va_G} {q_this : Nat} {q_froms : Nat} {q_tos : Nat} {q_lengths : Nat} {q_kinds : Nat} {q_figures : Nat} {v_closed : Int32} {v_size : Int32} {v_home : Int32} {v_froms : (Nat → Int32)} {v_tos : (Nat → Int32)} {v_lengths : (Nat → Int32)} {v_kinds : (Nat → Int32)} {v_figures : (Nat → Int32)} : (w_X7_add D q_this q_froms q_tos q_lengths q_kinds q_figures v_closed v_size v_home v_froms v_tos v_lengths v_kinds v_figures).map (fun q => q.1) = [q_this, q_froms, q_tos, q_lengths, q_kinds, q_figures] := rfl
def f_X7_add (x1 : Int32) (x2 : Int32) (x3 : Int32) (v_closed : Int32) (v_size : Int32) (v_froms : (Nat → Int32)) (v_tos : (Nat → Int32)) (v_lengths : (Nat → Int32)) (v_kinds : (Nat → Int32)) (v_figures : (Nat → Int32)) : Option (Int32 × Int32 × (Nat → Int32) × (Nat → Int32) × (Nat → Int32) × (Nat → Int32) × (Nat → Int32)) :=
  (f_X7_hasRoom v_size).bind (fun r_hasRoom_1 => (if r_hasRoom_1 = 0 then some (v_closed, v_size, v_froms, v_tos, v_lengths, v_kinds, v_figures) else ga v_size 8 (ga v_size 8 (ga v_size 8 (ga v_size 8 (ga v_size 8 (some (v_closed &&& (((1 : Int32) <<< (v_size &&& 31)) ^^^ (-1 : Int32)), v_size + (1 : Int32), upd v_froms (Int32.toNatClampNeg v_size) x1, upd v_tos (Int32.toNatClampNeg v_size) x2, upd v_lengths (Int32.toNatClampNeg v_size) x3, upd v_kinds (Int32.toNatClampNeg v_size) (0 : Int32), upd v_figures (Int32.toNatClampNeg v_size) (0 : Int32)))))))))
set_option maxRecDepth 100000 in
set_option maxHeartbeats 4000000 in
theorem c_X7_add (l : Launch) (D : va_G) {q_this q_froms q_tos q_lengths q_kinds q_figures : Nat} {v_closed : Int32} {v_size : Int32} {v_home : Int32} {v_froms : (Nat → Int32)} {v_tos : (Nat → Int32)} {v_lengths : (Nat → Int32)} {v_kinds : (Nat → Int32)} {v_figures : (Nat → Int32)} {x1 : Int32} {x2 : Int32} {x3 : Int32} {o : (Int32 × Int32 × (Nat → Int32) × (Nat → Int32) × (Nat → Int32) × (Nat → Int32) × (Nat → Int32))} (h : f_X7_add x1 x2 x3 v_closed v_size v_froms v_tos v_lengths v_kinds v_figures = some o) : CT l D yX7_add cX7_add 4 (Option.none : Option FieldType) 1 [.ref q_this, .int x1, .int x2, .int x3] (w_X7_add D q_this q_froms q_tos q_lengths q_kinds q_figures v_closed v_size v_home v_froms v_tos v_lengths v_kinds v_figures) (w_X7_add D q_this q_froms q_tos q_lengths q_kinds q_figures o.1 o.2.1 v_home o.2.2.1 o.2.2.2.1 o.2.2.2.2.1 o.2.2.2.2.2.1 o.2.2.2.2.2.2) (none) := by
  refine CT.of mk_X7_add (Nat.le_of_ble_eq_true rfl) (fun g hl hD C E => ?_)
  subst hl
  subst hD
  unfold f_X7_add at h
  refine j_aload_n C dX7_add_0 rfl ?_
  obtain ⟨r_hasRoom_1, h_1, h⟩ := of_bind h
  refine j_callV1 C mk_X7_hasRoom ms_X7_hasRoom kw_443 (c_X7_hasRoom (gl g) (gD g) h_1) (by decide) 0 w_X7_add_g0 rfl [0] (hC_cons w_X7_add_g0 hC_nil) rfl (w_X7_hasRoom_a.trans w_X7_hasRoom_a.symm) rfl rfl (Nat.le_of_ble_eq_true rfl) dX7_add_1 (wput_cons w_X7_add_s0 wput_nil) ?_
  refine j_if_eq C h 84 dX7_add_4 (by decide) (fun hc h => ?_) (fun hc h => ?_)
  · have h := Option.some.inj h
    subst h
    exact j_vret C E dX7_add_84
  · refine j_aload_n C dX7_add_7 rfl ?_
    refine j_get C 0 w_X7_add_g0 rfl inX7 0 (by decide) kw_36 rfl rfl dX7_add_8 ?_
    refine j_aload_n C dX7_add_11 rfl ?_
    refine j_get C 0 w_X7_add_g0 rfl inX7 6 (by decide) kw_54 rfl rfl dX7_add_12 ?_
    refine j_iload_n C dX7_add_15 rfl ?_
    refine j_iastore 1 C h w_X7_add_g1 rfl dX7_add_16 (fun h => ?_)
    refine j_ws w_X7_add_s1 ?_
    refine j_aload_n C dX7_add_17 rfl ?_
    refine j_get C 0 w_X7_add_g0 rfl inX7 1 (by decide) kw_40 rfl rfl dX7_add_18 ?_
    refine j_aload_n C dX7_add_21 rfl ?_
    refine j_get C 0 w_X7_add_g0 rfl inX7 6 (by decide) kw_54 rfl rfl dX7_add_22 ?_
    refine j_iload_n C dX7_add_25 rfl ?_
    refine j_iastore 2 C h w_X7_add_g2 rfl dX7_add_26 (fun h => ?_)
    refine j_ws w_X7_add_s2 ?_
    refine j_aload_n C dX7_add_27 rfl ?_
    refine j_get C 0 w_X7_add_g0 rfl inX7 2 (by decide) kw_44 rfl rfl dX7_add_28 ?_
    refine j_aload_n C dX7_add_31 rfl ?_
    refine j_get C 0 w_X7_add_g0 rfl inX7 6 (by decide) kw_54 rfl rfl dX7_add_32 ?_
    refine j_iload_n C dX7_add_35 rfl ?_
    refine j_iastore 3 C h w_X7_add_g3 rfl dX7_add_36 (fun h => ?_)
    refine j_ws w_X7_add_s3 ?_
    refine j_aload_n C dX7_add_37 rfl ?_
    refine j_get C 0 w_X7_add_g0 rfl inX7 3 (by decide) kw_47 rfl rfl dX7_add_38 ?_
    refine j_aload_n C dX7_add_41 rfl ?_
    refine j_get C 0 w_X7_add_g0 rfl inX7 6 (by decide) kw_54 rfl rfl dX7_add_42 ?_
    refine j_iconst C (0) dX7_add_45 ki_0 ?_
    refine j_iastore 4 C h w_X7_add_g4 rfl dX7_add_46 (fun h => ?_)
    refine j_ws w_X7_add_s4 ?_
    refine j_aload_n C dX7_add_47 rfl ?_
    refine j_get C 0 w_X7_add_g0 rfl inX7 4 (by decide) kw_50 rfl rfl dX7_add_48 ?_
    refine j_aload_n C dX7_add_51 rfl ?_
    refine j_get C 0 w_X7_add_g0 rfl inX7 6 (by decide) kw_54 rfl rfl dX7_add_52 ?_
    refine j_iconst C (0) dX7_add_55 ki_0 ?_
    refine j_iastore 5 C h w_X7_add_g5 rfl dX7_add_56 (fun h => ?_)
    refine j_ws w_X7_add_s5 ?_
    refine j_aload_n C dX7_add_57 rfl ?_
    refine j_dup C dX7_add_58 rfl ?_
    refine j_get C 0 w_X7_add_g0 rfl inX7 5 (by decide) kw_53 rfl rfl dX7_add_59 ?_
    refine j_iconst C (1) dX7_add_62 ki_1 ?_
    refine j_aload_n C dX7_add_63 rfl ?_
    refine j_get C 0 w_X7_add_g0 rfl inX7 6 (by decide) kw_54 rfl rfl dX7_add_64 ?_
    refine j_ishl C dX7_add_67 ?_
    refine j_iconst C (-1) dX7_add_68 ki_m1 ?_
    refine j_ixor C dX7_add_69 ?_
    refine j_iand C dX7_add_70 ?_
    refine j_put C 0 w_X7_add_g0 rfl inX7 tyX7_ok nmX7 5 (by decide) kw_53 rfl rfl rfl rfl (Nat.le_of_ble_eq_true rfl) dX7_add_71 ?_
    refine j_ws w_X7_add_s0 ?_
    refine j_aload_n C dX7_add_74 rfl ?_
    refine j_dup C dX7_add_75 rfl ?_
    refine j_get C 0 w_X7_add_g0 rfl inX7 6 (by decide) kw_54 rfl rfl dX7_add_76 ?_
    refine j_iconst C (1) dX7_add_79 ki_1 ?_
    refine j_iadd C dX7_add_80 ?_
    refine j_put C 0 w_X7_add_g0 rfl inX7 tyX7_ok nmX7 6 (by decide) kw_54 rfl rfl rfl rfl (Nat.le_of_ble_eq_true rfl) dX7_add_81 ?_
    refine j_ws w_X7_add_s0 ?_
    have h := Option.some.inj h
    subst h
    exact j_vret C E dX7_add_84

def w_X7_openOrClose (D : va_G) (q_this : Nat) (w_froms w_tos w_lengths w_kinds w_figures : Value) (v_closed : Int32) (v_size : Int32) (v_home : Int32) : va_W := [(q_this, .inr (6, [w_froms, w_tos, w_lengths, w_kinds, w_figures, .int v_closed, .int v_size, .int v_home]))]
theorem w_X7_openOrClose_g0 {D : va_G} {q_this : Nat} {w_froms : Value} {w_tos : Value} {w_lengths : Value} {w_kinds : Value} {w_figures : Value} {v_closed : Int32} {v_size : Int32} {v_home : Int32} : (w_X7_openOrClose D q_this w_froms w_tos w_lengths w_kinds w_figures v_closed v_size v_home)[0]? = some (q_this, .inr (6, [w_froms, w_tos, w_lengths, w_kinds, w_figures, .int v_closed, .int v_size, .int v_home])) := rfl
theorem w_X7_openOrClose_s0 {D : va_G} {q_this : Nat} {w_froms : Value} {w_tos : Value} {w_lengths : Value} {w_kinds : Value} {w_figures : Value} {v_closed : Int32} {v_size : Int32} {v_home : Int32} {v_closed' : Int32} {v_size' : Int32} {v_home' : Int32} : (w_X7_openOrClose D q_this w_froms w_tos w_lengths w_kinds w_figures v_closed v_size v_home).set 0 (q_this, .inr (6, [w_froms, w_tos, w_lengths, w_kinds, w_figures, .int v_closed', .int v_size', .int v_home'])) = (w_X7_openOrClose D q_this w_froms w_tos w_lengths w_kinds w_figures v_closed' v_size' v_home') := rfl
theorem w_X7_openOrClose_a {D : va_G} {q_this : Nat} {w_froms : Value} {w_tos : Value} {w_lengths : Value} {w_kinds : Value} {w_figures : Value} {v_closed : Int32} {v_size : Int32} {v_home : Int32} : (w_X7_openOrClose D q_this w_froms w_tos w_lengths w_kinds w_figures v_closed v_size v_home).map (fun q => q.1) = [q_this] := rfl
def f_X7_openOrClose (x1 : Int32) (v_closed : Int32) : Option Int32 :=
  some (v_closed ^^^ ((1 : Int32) <<< (x1 &&& 31)))
set_option maxRecDepth 100000 in
set_option maxHeartbeats 4000000 in
theorem c_X7_openOrClose (l : Launch) (D : va_G) {q_this : Nat} {w_froms w_tos w_lengths w_kinds w_figures : Value} {v_closed : Int32} {v_size : Int32} {v_home : Int32} {x1 : Int32} {o : Int32} (h : f_X7_openOrClose x1 v_closed = some o) : CT l D yX7_openOrClose cX7_openOrClose 2 (Option.none : Option FieldType) 0 [.ref q_this, .int x1] (w_X7_openOrClose D q_this w_froms w_tos w_lengths w_kinds w_figures v_closed v_size v_home) (w_X7_openOrClose D q_this w_froms w_tos w_lengths w_kinds w_figures o v_size v_home) (none) := by
  refine CT.of mk_X7_openOrClose (Nat.le_of_ble_eq_true rfl) (fun g hl hD C E => ?_)
  subst hl
  subst hD
  unfold f_X7_openOrClose at h
  refine j_aload_n C dX7_openOrClose_0 rfl ?_
  refine j_dup C dX7_openOrClose_1 rfl ?_
  refine j_get C 0 w_X7_openOrClose_g0 rfl inX7 5 (by decide) kw_53 rfl rfl dX7_openOrClose_2 ?_
  refine j_iconst C (1) dX7_openOrClose_5 ki_1 ?_
  refine j_iload_n C dX7_openOrClose_6 rfl ?_
  refine j_ishl C dX7_openOrClose_7 ?_
  refine j_ixor C dX7_openOrClose_8 ?_
  refine j_put C 0 w_X7_openOrClose_g0 rfl inX7 tyX7_ok nmX7 5 (by decide) kw_53 rfl rfl rfl rfl (Nat.le_of_ble_eq_true rfl) dX7_openOrClose_9 ?_
  refine j_ws w_X7_openOrClose_s0 ?_
  have h := Option.some.inj h
  subst h
  exact j_vret C E dX7_openOrClose_12

def w_X7_close (D : va_G) (q_this : Nat) (w_froms w_tos w_lengths w_kinds w_figures : Value) (v_closed : Int32) (v_size : Int32) (v_home : Int32) : va_W := [(q_this, .inr (6, [w_froms, w_tos, w_lengths, w_kinds, w_figures, .int v_closed, .int v_size, .int v_home]))]
theorem w_X7_close_g0 {D : va_G} {q_this : Nat} {w_froms : Value} {w_tos : Value} {w_lengths : Value} {w_kinds : Value} {w_figures : Value} {v_closed : Int32} {v_size : Int32} {v_home : Int32} : (w_X7_close D q_this w_froms w_tos w_lengths w_kinds w_figures v_closed v_size v_home)[0]? = some (q_this, .inr (6, [w_froms, w_tos, w_lengths, w_kinds, w_figures, .int v_closed, .int v_size, .int v_home])) := rfl
theorem w_X7_close_s0 {D : va_G} {q_this : Nat} {w_froms : Value} {w_tos : Value} {w_lengths : Value} {w_kinds : Value} {w_figures : Value} {v_closed : Int32} {v_size : Int32} {v_home : Int32} {v_closed' : Int32} {v_size' : Int32} {v_home' : Int32} : (w_X7_close D q_this w_froms w_tos w_lengths w_kinds w_figures v_closed v_size v_home).set 0 (q_this, .inr (6, [w_froms, w_tos, w_lengths, w_kinds, w_figures, .int v_closed', .int v_size', .int v_home'])) = (w_X7_close D q_this w_froms w_tos w_lengths w_kinds w_figures v_closed' v_size' v_home') := rfl
theorem w_X7_close_a {D : va_G} {q_this : Nat} {w_froms : Value} {w_tos : Value} {w_lengths : Value} {w_kinds : Value} {w_figures : Value} {v_closed : Int32} {v_size : Int32} {v_home : Int32} : (w_X7_close D q_this w_froms w_tos w_lengths w_kinds w_figures v_closed v_size v_home).map (fun q => q.1) = [q_this] := rfl
def f_X7_close (x1 : Int32) (v_closed : Int32) : Option Int32 :=
  some (v_closed ||| x1)
set_option maxRecDepth 100000 in
set_option maxHeartbeats 4000000 in
theorem c_X7_close (l : Launch) (D : va_G) {q_this : Nat} {w_froms w_tos w_lengths w_kinds w_figures : Value} {v_closed : Int32} {v_size : Int32} {v_home : Int32} {x1 : Int32} {o : Int32} (h : f_X7_close x1 v_closed = some o) : CT l D yX7_close cX7_close 2 (Option.none : Option FieldType) 0 [.ref q_this, .int x1] (w_X7_close D q_this w_froms w_tos w_lengths w_kinds w_figures v_closed v_size v_home) (w_X7_close D q_this w_froms w_tos w_lengths w_kinds w_figures o v_size v_home) (none) := by
  refine CT.of mk_X7_close (Nat.le_of_ble_eq_true rfl) (fun g hl hD C E => ?_)
  subst hl
  subst hD
  unfold f_X7_close at h
  refine j_aload_n C dX7_close_0 rfl ?_
  refine j_dup C dX7_close_1 rfl ?_
  refine j_get C 0 w_X7_close_g0 rfl inX7 5 (by decide) kw_53 rfl rfl dX7_close_2 ?_
  refine j_iload_n C dX7_close_5 rfl ?_
  refine j_ior C dX7_close_6 ?_
  refine j_put C 0 w_X7_close_g0 rfl inX7 tyX7_ok nmX7 5 (by decide) kw_53 rfl rfl rfl rfl (Nat.le_of_ble_eq_true rfl) dX7_close_7 ?_
  refine j_ws w_X7_close_s0 ?_
  have h := Option.some.inj h
  subst h
  exact j_vret C E dX7_close_10

def w_X7_turnRound (D : va_G) (q_this q_froms q_tos : Nat) (w_lengths w_kinds w_figures : Value) (v_closed : Int32) (v_size : Int32) (v_home : Int32) (v_froms : (Nat → Int32)) (v_tos : (Nat → Int32)) : va_W := [(q_this, .inr (6, [.ref q_froms, .ref q_tos, w_lengths, w_kinds, w_figures, .int v_closed, .int v_size, .int v_home])), (q_froms, .inl (D.1 100, 8, .inl v_froms)), (q_tos, .inl (D.1 100, 8, .inl v_tos))]
theorem w_X7_turnRound_g0 {D : va_G} {q_this : Nat} {q_froms : Nat} {q_tos : Nat} {w_lengths : Value} {w_kinds : Value} {w_figures : Value} {v_closed : Int32} {v_size : Int32} {v_home : Int32} {v_froms : (Nat → Int32)} {v_tos : (Nat → Int32)} : (w_X7_turnRound D q_this q_froms q_tos w_lengths w_kinds w_figures v_closed v_size v_home v_froms v_tos)[0]? = some (q_this, .inr (6, [.ref q_froms, .ref q_tos, w_lengths, w_kinds, w_figures, .int v_closed, .int v_size, .int v_home])) := rfl
theorem w_X7_turnRound_s0 {D : va_G} {q_this : Nat} {q_froms : Nat} {q_tos : Nat} {w_lengths : Value} {w_kinds : Value} {w_figures : Value} {v_closed : Int32} {v_size : Int32} {v_home : Int32} {v_froms : (Nat → Int32)} {v_tos : (Nat → Int32)} {v_closed' : Int32} {v_size' : Int32} {v_home' : Int32} : (w_X7_turnRound D q_this q_froms q_tos w_lengths w_kinds w_figures v_closed v_size v_home v_froms v_tos).set 0 (q_this, .inr (6, [.ref q_froms, .ref q_tos, w_lengths, w_kinds, w_figures, .int v_closed', .int v_size', .int v_home'])) = (w_X7_turnRound D q_this q_froms q_tos w_lengths w_kinds w_figures v_closed' v_size' v_home' v_froms v_tos) := rfl
theorem w_X7_turnRound_g1 {D : va_G} {q_this : Nat} {q_froms : Nat} {q_tos : Nat} {w_lengths : Value} {w_kinds : Value} {w_figures : Value} {v_closed : Int32} {v_size : Int32} {v_home : Int32} {v_froms : (Nat → Int32)} {v_tos : (Nat → Int32)} : (w_X7_turnRound D q_this q_froms q_tos w_lengths w_kinds w_figures v_closed v_size v_home v_froms v_tos)[1]? = some (q_froms, .inl (D.1 100, 8, .inl v_froms)) := rfl
theorem w_X7_turnRound_s1 {D : va_G} {q_this : Nat} {q_froms : Nat} {q_tos : Nat} {w_lengths : Value} {w_kinds : Value} {w_figures : Value} {v_closed : Int32} {v_size : Int32} {v_home : Int32} {v_froms : (Nat → Int32)} {v_tos : (Nat → Int32)} {v_froms' : (Nat → Int32)} : (w_X7_turnRound D q_this q_froms q_tos w_lengths w_kinds w_figures v_closed v_size v_home v_froms v_tos).set 1 (q_froms, .inl (D.1 100, 8, .inl v_froms')) = (w_X7_turnRound D q_this q_froms q_tos w_lengths w_kinds w_figures v_closed v_size v_home v_froms' v_tos) := rfl
theorem w_X7_turnRound_g2 {D : va_G} {q_this : Nat} {q_froms : Nat} {q_tos : Nat} {w_lengths : Value} {w_kinds : Value} {w_figures : Value} {v_closed : Int32} {v_size : Int32} {v_home : Int32} {v_froms : (Nat → Int32)} {v_tos : (Nat → Int32)} : (w_X7_turnRound D q_this q_froms q_tos w_lengths w_kinds w_figures v_closed v_size v_home v_froms v_tos)[2]? = some (q_tos, .inl (D.1 100, 8, .inl v_tos)) := rfl
theorem w_X7_turnRound_s2 {D : va_G} {q_this : Nat} {q_froms : Nat} {q_tos : Nat} {w_lengths : Value} {w_kinds : Value} {w_figures : Value} {v_closed : Int32} {v_size : Int32} {v_home : Int32} {v_froms : (Nat → Int32)} {v_tos : (Nat → Int32)} {v_tos' : (Nat → Int32)} : (w_X7_turnRound D q_this q_froms q_tos w_lengths w_kinds w_figures v_closed v_size v_home v_froms v_tos).set 2 (q_tos, .inl (D.1 100, 8, .inl v_tos')) = (w_X7_turnRound D q_this q_froms q_tos w_lengths w_kinds w_figures v_closed v_size v_home v_froms v_tos') := rfl
theorem w_X7_turnRound_a {D : va_G} {q_this : Nat} {q_froms : Nat} {q_tos : Nat} {w_lengths : Value} {w_kinds : Value} {w_figures : Value} {v_closed : Int32} {v_size : Int32} {v_home : Int32} {v_froms : (Nat → Int32)} {v_tos : (Nat → Int32)} : (w_X7_turnRound D q_this q_froms q_tos w_lengths w_kinds w_figures v_closed v_size v_home v_froms v_tos).map (fun q => q.1) = [q_this, q_froms, q_tos] := rfl
def f_X7_turnRound (x1 : Int32) (v_froms : (Nat → Int32)) (v_tos : (Nat → Int32)) : Option ((Nat → Int32) × (Nat → Int32)) :=
  ga x1 8 (ga x1 8 (ga x1 8 (ga x1 8 (some (upd v_froms (Int32.toNatClampNeg x1) (v_tos (Int32.toNatClampNeg x1)), upd v_tos (Int32.toNatClampNeg x1) (v_froms (Int32.toNatClampNeg x1)))))))
set_option maxRecDepth 100000 in
set_option maxHeartbeats 4000000 in
theorem c_X7_turnRound (l : Launch) (D : va_G) {q_this q_froms q_tos : Nat} {w_lengths w_kinds w_figures : Value} {v_closed : Int32} {v_size : Int32} {v_home : Int32} {v_froms : (Nat → Int32)} {v_tos : (Nat → Int32)} {x1 : Int32} {o : ((Nat → Int32) × (Nat → Int32))} (h : f_X7_turnRound x1 v_froms v_tos = some o) : CT l D yX7_turnRound cX7_turnRound 3 (Option.none : Option FieldType) 0 [.ref q_this, .int x1] (w_X7_turnRound D q_this q_froms q_tos w_lengths w_kinds w_figures v_closed v_size v_home v_froms v_tos) (w_X7_turnRound D q_this q_froms q_tos w_lengths w_kinds w_figures v_closed v_size v_home o.1 o.2) (none) := by
  refine CT.of mk_X7_turnRound (Nat.le_of_ble_eq_true rfl) (fun g hl hD C E => ?_)
  subst hl
  subst hD
  unfold f_X7_turnRound at h
  refine j_aload_n C dX7_turnRound_0 rfl ?_
  refine j_get C 0 w_X7_turnRound_g0 rfl inX7 0 (by decide) kw_36 rfl rfl dX7_turnRound_1 ?_
  refine j_iload_n C dX7_turnRound_4 rfl ?_
  refine j_iaload 1 C h w_X7_turnRound_g1 rfl dX7_turnRound_5 (fun h => ?_)
  refine j_istore_n C dX7_turnRound_6 (by decide) ?_
  refine j_aload_n C dX7_turnRound_7 rfl ?_
  refine j_get C 0 w_X7_turnRound_g0 rfl inX7 0 (by decide) kw_36 rfl rfl dX7_turnRound_8 ?_
  refine j_iload_n C dX7_turnRound_11 rfl ?_
  refine j_aload_n C dX7_turnRound_12 rfl ?_
  refine j_get C 0 w_X7_turnRound_g0 rfl inX7 1 (by decide) kw_40 rfl rfl dX7_turnRound_13 ?_
  refine j_iload_n C dX7_turnRound_16 rfl ?_
  refine j_iaload 2 C h w_X7_turnRound_g2 rfl dX7_turnRound_17 (fun h => ?_)
  refine j_iastore 1 C h w_X7_turnRound_g1 rfl dX7_turnRound_18 (fun h => ?_)
  refine j_ws w_X7_turnRound_s1 ?_
  refine j_aload_n C dX7_turnRound_19 rfl ?_
  refine j_get C 0 w_X7_turnRound_g0 rfl inX7 1 (by decide) kw_40 rfl rfl dX7_turnRound_20 ?_
  refine j_iload_n C dX7_turnRound_23 rfl ?_
  refine j_iload_n C dX7_turnRound_24 rfl ?_
  refine j_iastore 2 C h w_X7_turnRound_g2 rfl dX7_turnRound_25 (fun h => ?_)
  refine j_ws w_X7_turnRound_s2 ?_
  have h := Option.some.inj h
  subst h
  exact j_vret C E dX7_turnRound_26

def w_X7_touches (D : va_G) (q_this q_froms q_tos : Nat) (w_lengths w_kinds w_figures : Value) (v_closed : Int32) (v_size : Int32) (v_home : Int32) (v_froms : (Nat → Int32)) (v_tos : (Nat → Int32)) : va_W := [(q_this, .inr (6, [.ref q_froms, .ref q_tos, w_lengths, w_kinds, w_figures, .int v_closed, .int v_size, .int v_home])), (q_froms, .inl (D.1 100, 8, .inl v_froms)), (q_tos, .inl (D.1 100, 8, .inl v_tos))]
theorem w_X7_touches_g0 {D : va_G} {q_this : Nat} {q_froms : Nat} {q_tos : Nat} {w_lengths : Value} {w_kinds : Value} {w_figures : Value} {v_closed : Int32} {v_size : Int32} {v_home : Int32} {v_froms : (Nat → Int32)} {v_tos : (Nat → Int32)} : (w_X7_touches D q_this q_froms q_tos w_lengths w_kinds w_figures v_closed v_size v_home v_froms v_tos)[0]? = some (q_this, .inr (6, [.ref q_froms, .ref q_tos, w_lengths, w_kinds, w_figures, .int v_closed, .int v_size, .int v_home])) := rfl
theorem w_X7_touches_s0 {D : va_G} {q_this : Nat} {q_froms : Nat} {q_tos : Nat} {w_lengths : Value} {w_kinds : Value} {w_figures : Value} {v_closed : Int32} {v_size : Int32} {v_home : Int32} {v_froms : (Nat → Int32)} {v_tos : (Nat → Int32)} {v_closed' : Int32} {v_size' : Int32} {v_home' : Int32} : (w_X7_touches D q_this q_froms q_tos w_lengths w_kinds w_figures v_closed v_size v_home v_froms v_tos).set 0 (q_this, .inr (6, [.ref q_froms, .ref q_tos, w_lengths, w_kinds, w_figures, .int v_closed', .int v_size', .int v_home'])) = (w_X7_touches D q_this q_froms q_tos w_lengths w_kinds w_figures v_closed' v_size' v_home' v_froms v_tos) := rfl
theorem w_X7_touches_g1 {D : va_G} {q_this : Nat} {q_froms : Nat} {q_tos : Nat} {w_lengths : Value} {w_kinds : Value} {w_figures : Value} {v_closed : Int32} {v_size : Int32} {v_home : Int32} {v_froms : (Nat → Int32)} {v_tos : (Nat → Int32)} : (w_X7_touches D q_this q_froms q_tos w_lengths w_kinds w_figures v_closed v_size v_home v_froms v_tos)[1]? = some (q_froms, .inl (D.1 100, 8, .inl v_froms)) := rfl
theorem w_X7_touches_s1 {D : va_G} {q_this : Nat} {q_froms : Nat} {q_tos : Nat} {w_lengths : Value} {w_kinds : Value} {w_figures : Value} {v_closed : Int32} {v_size : Int32} {v_home : Int32} {v_froms : (Nat → Int32)} {v_tos : (Nat → Int32)} {v_froms' : (Nat → Int32)} : (w_X7_touches D q_this q_froms q_tos w_lengths w_kinds w_figures v_closed v_size v_home v_froms v_tos).set 1 (q_froms, .inl (D.1 100, 8, .inl v_froms')) = (w_X7_touches D q_this q_froms q_tos w_lengths w_kinds w_figures v_closed v_size v_home v_froms' v_tos) := rfl
theorem w_X7_touches_g2 {D : va_G} {q_this : Nat} {q_froms : Nat} {q_tos : Nat} {w_lengths : Value} {w_kinds : Value} {w_figures : Value} {v_closed : Int32} {v_size : Int32} {v_home : Int32} {v_froms : (Nat → Int32)} {v_tos : (Nat → Int32)} : (w_X7_touches D q_this q_froms q_tos w_lengths w_kinds w_figures v_closed v_size v_home v_froms v_tos)[2]? = some (q_tos, .inl (D.1 100, 8, .inl v_tos)) := rfl
theorem w_X7_touches_s2 {D : va_G} {q_this : Nat} {q_froms : Nat} {q_tos : Nat} {w_lengths : Value} {w_kinds : Value} {w_figures : Value} {v_closed : Int32} {v_size : Int32} {v_home : Int32} {v_froms : (Nat → Int32)} {v_tos : (Nat → Int32)} {v_tos' : (Nat → Int32)} : (w_X7_touches D q_this q_froms q_tos w_lengths w_kinds w_figures v_closed v_size v_home v_froms v_tos).set 2 (q_tos, .inl (D.1 100, 8, .inl v_tos')) = (w_X7_touches D q_this q_froms q_tos w_lengths w_kinds w_figures v_closed v_size v_home v_froms v_tos') := rfl
theorem w_X7_touches_a {D : va_G} {q_this : Nat} {q_froms : Nat} {q_tos : Nat} {w_lengths : Value} {w_kinds : Value} {w_figures : Value} {v_closed : Int32} {v_size : Int32} {v_home : Int32} {v_froms : (Nat → Int32)} {v_tos : (Nat → Int32)} : (w_X7_touches D q_this q_froms q_tos w_lengths w_kinds w_figures v_closed v_size v_home v_froms v_tos).map (fun q => q.1) = [q_this, q_froms, q_tos] := rfl
def f_X7_touches (x1 : Int32) (x2 : Int32) (v_froms : (Nat → Int32)) (v_tos : (Nat → Int32)) : Option Int32 :=
  ga x1 8 ((if (v_froms (Int32.toNatClampNeg x1)) = x2 then some (1 : Int32) else ga x1 8 (gb (if (v_tos (Int32.toNatClampNeg x1)) = x2 then (1 : Int32) else (0 : Int32)) (some (if (v_tos (Int32.toNatClampNeg x1)) = x2 then (1 : Int32) else (0 : Int32))))))
set_option maxRecDepth 100000 in
set_option maxHeartbeats 4000000 in
theorem c_X7_touches (l : Launch) (D : va_G) {q_this q_froms q_tos : Nat} {w_lengths w_kinds w_figures : Value} {v_closed : Int32} {v_size : Int32} {v_home : Int32} {v_froms : (Nat → Int32)} {v_tos : (Nat → Int32)} {x1 : Int32} {x2 : Int32} {o : Int32} (h : f_X7_touches x1 x2 v_froms v_tos = some o) : CT l D yX7_touches cX7_touches 3 (Option.some FieldType.boolean) 0 [.ref q_this, .int x1, .int x2] (w_X7_touches D q_this q_froms q_tos w_lengths w_kinds w_figures v_closed v_size v_home v_froms v_tos) (w_X7_touches D q_this q_froms q_tos w_lengths w_kinds w_figures v_closed v_size v_home v_froms v_tos) (some (.int o)) := by
  refine CT.of mk_X7_touches (Nat.le_of_ble_eq_true rfl) (fun g hl hD C E => ?_)
  subst hl
  subst hD
  unfold f_X7_touches at h
  refine j_aload_n C dX7_touches_0 rfl ?_
  refine j_get C 0 w_X7_touches_g0 rfl inX7 0 (by decide) kw_36 rfl rfl dX7_touches_1 ?_
  refine j_iload_n C dX7_touches_4 rfl ?_
  refine j_iaload 1 C h w_X7_touches_g1 rfl dX7_touches_5 (fun h => ?_)
  refine j_iload_n C dX7_touches_6 rfl ?_
  refine j_icmp_eq C h 20 dX7_touches_7 (by decide) (fun hc h => ?_) (fun hc h => ?_)
  · refine j_iconst C (1) dX7_touches_20 ki_1 ?_
    refine j_goto C 25 dX7_touches_21 (by decide) ?_
    have h := Option.some.inj h
    subst h
    exact j_zret C E rfl dX7_touches_25
  · refine j_aload_n C dX7_touches_10 rfl ?_
    refine j_get C 0 w_X7_touches_g0 rfl inX7 1 (by decide) kw_40 rfl rfl dX7_touches_11 ?_
    refine j_iload_n C dX7_touches_14 rfl ?_
    refine j_iaload 2 C h w_X7_touches_g2 rfl dX7_touches_15 (fun h => ?_)
    refine j_iload_n C dX7_touches_16 rfl ?_
    have hj_1 : J g (w_X7_touches (gD g) q_this q_froms q_tos w_lengths w_kinds w_figures v_closed v_size v_home v_froms v_tos) [] 25 [.int (if (v_tos (Int32.toNatClampNeg x1)) = x2 then (1 : Int32) else (0 : Int32))] := by
      obtain ⟨hz, h⟩ := of_gb h
      have h := Option.some.inj h
      subst h
      exact j_zret C E hz.1 dX7_touches_25
    refine jv_icmp_ne C 24 dX7_touches_17 (by decide) (fun hc => ?_) (fun hc => ?_)
    · try simp only [if_pos hc] at hj_1
      refine j_iconst C (1) dX7_touches_20 ki_1 ?_
      refine j_goto C 25 dX7_touches_21 (by decide) ?_
      exact j_lw hj_1 rfl
    · try simp only [if_neg hc] at hj_1
      refine j_iconst C (0) dX7_touches_24 ki_0 ?_
      exact j_lw hj_1 rfl

def w_X7_otherEnd (D : va_G) (q_this q_froms q_tos : Nat) (w_lengths w_kinds w_figures : Value) (v_closed : Int32) (v_size : Int32) (v_home : Int32) (v_froms : (Nat → Int32)) (v_tos : (Nat → Int32)) : va_W := [(q_this, .inr (6, [.ref q_froms, .ref q_tos, w_lengths, w_kinds, w_figures, .int v_closed, .int v_size, .int v_home])), (q_froms, .inl (D.1 100, 8, .inl v_froms)), (q_tos, .inl (D.1 100, 8, .inl v_tos))]
theorem w_X7_otherEnd_g0 {D : va_G} {q_this : Nat} {q_froms : Nat} {q_tos : Nat} {w_lengths : Value} {w_kinds : Value} {w_figures : Value} {v_closed : Int32} {v_size : Int32} {v_home : Int32} {v_froms : (Nat → Int32)} {v_tos : (Nat → Int32)} : (w_X7_otherEnd D q_this q_froms q_tos w_lengths w_kinds w_figures v_closed v_size v_home v_froms v_tos)[0]? = some (q_this, .inr (6, [.ref q_froms, .ref q_tos, w_lengths, w_kinds, w_figures, .int v_closed, .int v_size, .int v_home])) := rfl
theorem w_X7_otherEnd_s0 {D : va_G} {q_this : Nat} {q_froms : Nat} {q_tos : Nat} {w_lengths : Value} {w_kinds : Value} {w_figures : Value} {v_closed : Int32} {v_size : Int32} {v_home : Int32} {v_froms : (Nat → Int32)} {v_tos : (Nat → Int32)} {v_closed' : Int32} {v_size' : Int32} {v_home' : Int32} : (w_X7_otherEnd D q_this q_froms q_tos w_lengths w_kinds w_figures v_closed v_size v_home v_froms v_tos).set 0 (q_this, .inr (6, [.ref q_froms, .ref q_tos, w_lengths, w_kinds, w_figures, .int v_closed', .int v_size', .int v_home'])) = (w_X7_otherEnd D q_this q_froms q_tos w_lengths w_kinds w_figures v_closed' v_size' v_home' v_froms v_tos) := rfl
theorem w_X7_otherEnd_g1 {D : va_G} {q_this : Nat} {q_froms : Nat} {q_tos : Nat} {w_lengths : Value} {w_kinds : Value} {w_figures : Value} {v_closed : Int32} {v_size : Int32} {v_home : Int32} {v_froms : (Nat → Int32)} {v_tos : (Nat → Int32)} : (w_X7_otherEnd D q_this q_froms q_tos w_lengths w_kinds w_figures v_closed v_size v_home v_froms v_tos)[1]? = some (q_froms, .inl (D.1 100, 8, .inl v_froms)) := rfl
theorem w_X7_otherEnd_s1 {D : va_G} {q_this : Nat} {q_froms : Nat} {q_tos : Nat} {w_lengths : Value} {w_kinds : Value} {w_figures : Value} {v_closed : Int32} {v_size : Int32} {v_home : Int32} {v_froms : (Nat → Int32)} {v_tos : (Nat → Int32)} {v_froms' : (Nat → Int32)} : (w_X7_otherEnd D q_this q_froms q_tos w_lengths w_kinds w_figures v_closed v_size v_home v_froms v_tos).set 1 (q_froms, .inl (D.1 100, 8, .inl v_froms')) = (w_X7_otherEnd D q_this q_froms q_tos w_lengths w_kinds w_figures v_closed v_size v_home v_froms' v_tos) := rfl
theorem w_X7_otherEnd_g2 {D : va_G} {q_this : Nat} {q_froms : Nat} {q_tos : Nat} {w_lengths : Value} {w_kinds : Value} {w_figures : Value} {v_closed : Int32} {v_size : Int32} {v_home : Int32} {v_froms : (Nat → Int32)} {v_tos : (Nat → Int32)} : (w_X7_otherEnd D q_this q_froms q_tos w_lengths w_kinds w_figures v_closed v_size v_home v_froms v_tos)[2]? = some (q_tos, .inl (D.1 100, 8, .inl v_tos)) := rfl
theorem w_X7_otherEnd_s2 {D : va_G} {q_this : Nat} {q_froms : Nat} {q_tos : Nat} {w_lengths : Value} {w_kinds : Value} {w_figures : Value} {v_closed : Int32} {v_size : Int32} {v_home : Int32} {v_froms : (Nat → Int32)} {v_tos : (Nat → Int32)} {v_tos' : (Nat → Int32)} : (w_X7_otherEnd D q_this q_froms q_tos w_lengths w_kinds w_figures v_closed v_size v_home v_froms v_tos).set 2 (q_tos, .inl (D.1 100, 8, .inl v_tos')) = (w_X7_otherEnd D q_this q_froms q_tos w_lengths w_kinds w_figures v_closed v_size v_home v_froms v_tos') := rfl
theorem w_X7_otherEnd_a {D : va_G} {q_this : Nat} {q_froms : Nat} {q_tos : Nat} {w_lengths : Value} {w_kinds : Value} {w_figures : Value} {v_closed : Int32} {v_size : Int32} {v_home : Int32} {v_froms : (Nat → Int32)} {v_tos : (Nat → Int32)} : (w_X7_otherEnd D q_this q_froms q_tos w_lengths w_kinds w_figures v_closed v_size v_home v_froms v_tos).map (fun q => q.1) = [q_this, q_froms, q_tos] := rfl
def f_X7_otherEnd (x1 : Int32) (x2 : Int32) (v_froms : (Nat → Int32)) (v_tos : (Nat → Int32)) : Option Int32 :=
  ga x1 8 ((if (v_froms (Int32.toNatClampNeg x1)) = x2 then ga x1 8 (some (v_tos (Int32.toNatClampNeg x1))) else ga x1 8 (some (v_froms (Int32.toNatClampNeg x1)))))
set_option maxRecDepth 100000 in
set_option maxHeartbeats 4000000 in
theorem c_X7_otherEnd (l : Launch) (D : va_G) {q_this q_froms q_tos : Nat} {w_lengths w_kinds w_figures : Value} {v_closed : Int32} {v_size : Int32} {v_home : Int32} {v_froms : (Nat → Int32)} {v_tos : (Nat → Int32)} {x1 : Int32} {x2 : Int32} {o : Int32} (h : f_X7_otherEnd x1 x2 v_froms v_tos = some o) : CT l D yX7_otherEnd cX7_otherEnd 3 (Option.some FieldType.int) 0 [.ref q_this, .int x1, .int x2] (w_X7_otherEnd D q_this q_froms q_tos w_lengths w_kinds w_figures v_closed v_size v_home v_froms v_tos) (w_X7_otherEnd D q_this q_froms q_tos w_lengths w_kinds w_figures v_closed v_size v_home v_froms v_tos) (some (.int o)) := by
  refine CT.of mk_X7_otherEnd (Nat.le_of_ble_eq_true rfl) (fun g hl hD C E => ?_)
  subst hl
  subst hD
  unfold f_X7_otherEnd at h
  refine j_aload_n C dX7_otherEnd_0 rfl ?_
  refine j_get C 0 w_X7_otherEnd_g0 rfl inX7 0 (by decide) kw_36 rfl rfl dX7_otherEnd_1 ?_
  refine j_iload_n C dX7_otherEnd_4 rfl ?_
  refine j_iaload 1 C h w_X7_otherEnd_g1 rfl dX7_otherEnd_5 (fun h => ?_)
  refine j_iload_n C dX7_otherEnd_6 rfl ?_
  refine j_icmp_ne C h 19 dX7_otherEnd_7 (by decide) (fun hc h => ?_) (fun hc h => ?_)
  · refine j_aload_n C dX7_otherEnd_10 rfl ?_
    refine j_get C 0 w_X7_otherEnd_g0 rfl inX7 1 (by decide) kw_40 rfl rfl dX7_otherEnd_11 ?_
    refine j_iload_n C dX7_otherEnd_14 rfl ?_
    refine j_iaload 2 C h w_X7_otherEnd_g2 rfl dX7_otherEnd_15 (fun h => ?_)
    refine j_goto C 25 dX7_otherEnd_16 (by decide) ?_
    have h := Option.some.inj h
    subst h
    exact j_iret C E dX7_otherEnd_25
  · refine j_aload_n C dX7_otherEnd_19 rfl ?_
    refine j_get C 0 w_X7_otherEnd_g0 rfl inX7 0 (by decide) kw_36 rfl rfl dX7_otherEnd_20 ?_
    refine j_iload_n C dX7_otherEnd_23 rfl ?_
    refine j_iaload 1 C h w_X7_otherEnd_g1 rfl dX7_otherEnd_24 (fun h => ?_)
    have h := Option.some.inj h
    subst h
    exact j_iret C E dX7_otherEnd_25

def w_X7_openStreets (D : va_G) (q_this : Nat) (w_froms w_tos w_lengths w_kinds w_figures : Value) (v_closed : Int32) (v_size : Int32) (v_home : Int32) : va_W := [(q_this, .inr (6, [w_froms, w_tos, w_lengths, w_kinds, w_figures, .int v_closed, .int v_size, .int v_home]))]
theorem w_X7_openStreets_g0 {D : va_G} {q_this : Nat} {w_froms : Value} {w_tos : Value} {w_lengths : Value} {w_kinds : Value} {w_figures : Value} {v_closed : Int32} {v_size : Int32} {v_home : Int32} : (w_X7_openStreets D q_this w_froms w_tos w_lengths w_kinds w_figures v_closed v_size v_home)[0]? = some (q_this, .inr (6, [w_froms, w_tos, w_lengths, w_kinds, w_figures, .int v_closed, .int v_size, .int v_home])) := rfl
theorem w_X7_openStreets_s0 {D : va_G} {q_this : Nat} {w_froms : Value} {w_tos : Value} {w_lengths : Value} {w_kinds : Value} {w_figures : Value} {v_closed : Int32} {v_size : Int32} {v_home : Int32} {v_closed' : Int32} {v_size' : Int32} {v_home' : Int32} : (w_X7_openStreets D q_this w_froms w_tos w_lengths w_kinds w_figures v_closed v_size v_home).set 0 (q_this, .inr (6, [w_froms, w_tos, w_lengths, w_kinds, w_figures, .int v_closed', .int v_size', .int v_home'])) = (w_X7_openStreets D q_this w_froms w_tos w_lengths w_kinds w_figures v_closed' v_size' v_home') := rfl
theorem w_X7_openStreets_a {D : va_G} {q_this : Nat} {w_froms : Value} {w_tos : Value} {w_lengths : Value} {w_kinds : Value} {w_figures : Value} {v_closed : Int32} {v_size : Int32} {v_home : Int32} : (w_X7_openStreets D q_this w_froms w_tos w_lengths w_kinds w_figures v_closed v_size v_home).map (fun q => q.1) = [q_this] := rfl
def f_X7_openStreets (v_closed : Int32) (v_size : Int32) : Option Int32 :=
  some ((((1 : Int32) <<< (v_size &&& 31)) - (1 : Int32)) &&& (v_closed ^^^ (-1 : Int32)))
set_option maxRecDepth 100000 in
set_option maxHeartbeats 4000000 in
theorem c_X7_openStreets (l : Launch) (D : va_G) {q_this : Nat} {w_froms w_tos w_lengths w_kinds w_figures : Value} {v_closed : Int32} {v_size : Int32} {v_home : Int32} {o : Int32} (h : f_X7_openStreets v_closed v_size = some o) : CT l D yX7_openStreets cX7_openStreets 1 (Option.some FieldType.int) 0 [.ref q_this] (w_X7_openStreets D q_this w_froms w_tos w_lengths w_kinds w_figures v_closed v_size v_home) (w_X7_openStreets D q_this w_froms w_tos w_lengths w_kinds w_figures v_closed v_size v_home) (some (.int o)) := by
  refine CT.of mk_X7_openStreets (Nat.le_of_ble_eq_true rfl) (fun g hl hD C E => ?_)
  subst hl
  subst hD
  unfold f_X7_openStreets at h
  refine j_iconst C (1) dX7_openStreets_0 ki_1 ?_
  refine j_aload_n C dX7_openStreets_1 rfl ?_
  refine j_get C 0 w_X7_openStreets_g0 rfl inX7 6 (by decide) kw_54 rfl rfl dX7_openStreets_2 ?_
  refine j_ishl C dX7_openStreets_5 ?_
  refine j_iconst C (1) dX7_openStreets_6 ki_1 ?_
  refine j_isub C dX7_openStreets_7 ?_
  refine j_aload_n C dX7_openStreets_8 rfl ?_
  refine j_get C 0 w_X7_openStreets_g0 rfl inX7 5 (by decide) kw_53 rfl rfl dX7_openStreets_9 ?_
  refine j_iconst C (-1) dX7_openStreets_12 ki_m1 ?_
  refine j_ixor C dX7_openStreets_13 ?_
  refine j_iand C dX7_openStreets_14 ?_
  have h := Option.some.inj h
  subst h
  exact j_iret C E dX7_openStreets_15

def w_X7_lengthsTogether (D : va_G) (q_this q_lengths : Nat) (w_froms w_tos w_kinds w_figures : Value) (v_closed : Int32) (v_size : Int32) (v_home : Int32) (v_lengths : (Nat → Int32)) : va_W := [(q_this, .inr (6, [w_froms, w_tos, .ref q_lengths, w_kinds, w_figures, .int v_closed, .int v_size, .int v_home])), (q_lengths, .inl (D.1 100, 8, .inl v_lengths))]
theorem w_X7_lengthsTogether_g0 {D : va_G} {q_this : Nat} {q_lengths : Nat} {w_froms : Value} {w_tos : Value} {w_kinds : Value} {w_figures : Value} {v_closed : Int32} {v_size : Int32} {v_home : Int32} {v_lengths : (Nat → Int32)} : (w_X7_lengthsTogether D q_this q_lengths w_froms w_tos w_kinds w_figures v_closed v_size v_home v_lengths)[0]? = some (q_this, .inr (6, [w_froms, w_tos, .ref q_lengths, w_kinds, w_figures, .int v_closed, .int v_size, .int v_home])) := rfl
theorem w_X7_lengthsTogether_s0 {D : va_G} {q_this : Nat} {q_lengths : Nat} {w_froms : Value} {w_tos : Value} {w_kinds : Value} {w_figures : Value} {v_closed : Int32} {v_size : Int32} {v_home : Int32} {v_lengths : (Nat → Int32)} {v_closed' : Int32} {v_size' : Int32} {v_home' : Int32} : (w_X7_lengthsTogether D q_this q_lengths w_froms w_tos w_kinds w_figures v_closed v_size v_home v_lengths).set 0 (q_this, .inr (6, [w_froms, w_tos, .ref q_lengths, w_kinds, w_figures, .int v_closed', .int v_size', .int v_home'])) = (w_X7_lengthsTogether D q_this q_lengths w_froms w_tos w_kinds w_figures v_closed' v_size' v_home' v_lengths) := rfl
theorem w_X7_lengthsTogether_g1 {D : va_G} {q_this : Nat} {q_lengths : Nat} {w_froms : Value} {w_tos : Value} {w_kinds : Value} {w_figures : Value} {v_closed : Int32} {v_size : Int32} {v_home : Int32} {v_lengths : (Nat → Int32)} : (w_X7_lengthsTogether D q_this q_lengths w_froms w_tos w_kinds w_figures v_closed v_size v_home v_lengths)[1]? = some (q_lengths, .inl (D.1 100, 8, .inl v_lengths)) := rfl
theorem w_X7_lengthsTogether_s1 {D : va_G} {q_this : Nat} {q_lengths : Nat} {w_froms : Value} {w_tos : Value} {w_kinds : Value} {w_figures : Value} {v_closed : Int32} {v_size : Int32} {v_home : Int32} {v_lengths : (Nat → Int32)} {v_lengths' : (Nat → Int32)} : (w_X7_lengthsTogether D q_this q_lengths w_froms w_tos w_kinds w_figures v_closed v_size v_home v_lengths).set 1 (q_lengths, .inl (D.1 100, 8, .inl v_lengths')) = (w_X7_lengthsTogether D q_this q_lengths w_froms w_tos w_kinds w_figures v_closed v_size v_home v_lengths') := rfl
theorem w_X7_lengthsTogether_a {D : va_G} {q_this : Nat} {q_lengths : Nat} {w_froms : Value} {w_tos : Value} {w_kinds : Value} {w_figures : Value} {v_closed : Int32} {v_size : Int32} {v_home : Int32} {v_lengths : (Nat → Int32)} : (w_X7_lengthsTogether D q_this q_lengths w_froms w_tos w_kinds w_figures v_closed v_size v_home v_lengths).map (fun q => q.1) = [q_this, q_lengths] := rfl
def f_X7_lengthsTogether_b4 (v_size : Int32) (x2_4 : Int32) (x1_4 : Int32) (v_lengths : (Nat → Int32)) : Option ((Int32 × Int32) ⊕ Int32) :=
  (if v_size ≤ x2_4 then some (.inr x1_4) else ga x2_4 8 (some (.inl (x1_4 + (v_lengths (Int32.toNatClampNeg x2_4)), x2_4 + (1 : Int32)))))
def f_X7_lengthsTogether (N : Nat) (v_size : Int32) (v_lengths : (Nat → Int32)) : Option Int32 :=
  (lp (fun s_4 => f_X7_lengthsTogether_b4 v_size s_4.2 s_4.1 v_lengths) N ((0 : Int32), (0 : Int32))).bind (fun e_4 => some e_4)
set_option maxRecDepth 100000 in
set_option maxHeartbeats 4000000 in
theorem c_X7_lengthsTogether (l : Launch) (D : va_G) (N : Nat) {q_this q_lengths : Nat} {w_froms w_tos w_kinds w_figures : Value} {v_closed : Int32} {v_size : Int32} {v_home : Int32} {v_lengths : (Nat → Int32)} {o : Int32} (h : f_X7_lengthsTogether N v_size v_lengths = some o) : CT l D yX7_lengthsTogether cX7_lengthsTogether 3 (Option.some FieldType.int) 0 [.ref q_this] (w_X7_lengthsTogether D q_this q_lengths w_froms w_tos w_kinds w_figures v_closed v_size v_home v_lengths) (w_X7_lengthsTogether D q_this q_lengths w_froms w_tos w_kinds w_figures v_closed v_size v_home v_lengths) (some (.int o)) := by
  refine CT.of mk_X7_lengthsTogether (Nat.le_of_ble_eq_true rfl) (fun g hl hD C E => ?_)
  subst hl
  subst hD
  unfold f_X7_lengthsTogether at h
  refine j_iconst C (0) dX7_lengthsTogether_0 ki_0 ?_
  refine j_istore_n C dX7_lengthsTogether_1 (by decide) ?_
  refine j_iconst C (0) dX7_lengthsTogether_2 ki_0 ?_
  refine j_istore_n C dX7_lengthsTogether_3 (by decide) ?_
  obtain ⟨e_4, hl_4, h⟩ := of_bind h
  have ha_4 : J g (w_X7_lengthsTogether (gD g) q_this q_lengths w_froms w_tos w_kinds w_figures v_closed v_size v_home v_lengths) [(1, .int (e_4))] 27 [] := by
    refine j_iload_n C dX7_lengthsTogether_27 rfl ?_
    have h := Option.some.inj h
    subst h
    exact j_iret C E dX7_lengthsTogether_28
  refine j_lv (lv' := [(0, .ref q_this), (1, .int ((0 : Int32))), (2, .int ((0 : Int32)))]) rfl ?_
  refine lp_ind hl_4 (fun s_4 => J g (w_X7_lengthsTogether (gD g) q_this q_lengths w_froms w_tos w_kinds w_figures v_closed v_size v_home v_lengths) [(0, .ref q_this), (1, .int (s_4.1)), (2, .int (s_4.2))] 4 []) (fun s_4 r_4 h hc_4 hx_4 => ?_)
  unfold f_X7_lengthsTogether_b4 at h
  refine j_iload_n C dX7_lengthsTogether_4 rfl ?_
  refine j_aload_n C dX7_lengthsTogether_5 rfl ?_
  refine j_get C 0 w_X7_lengthsTogether_g0 rfl inX7 6 (by decide) kw_54 rfl rfl dX7_lengthsTogether_6 ?_
  refine j_icmp_ge C h 27 dX7_lengthsTogether_9 (by decide) (fun hc h => ?_) (fun hc h => ?_)
  · have h := Option.some.inj h
    subst h
    have h9 := hx_4 _ rfl
    subst h9
    exact j_lw ha_4 rfl
  · refine j_iload_n C dX7_lengthsTogether_12 rfl ?_
    refine j_aload_n C dX7_lengthsTogether_13 rfl ?_
    refine j_get C 0 w_X7_lengthsTogether_g0 rfl inX7 2 (by decide) kw_44 rfl rfl dX7_lengthsTogether_14 ?_
    refine j_iload_n C dX7_lengthsTogether_17 rfl ?_
    refine j_iaload 1 C h w_X7_lengthsTogether_g1 rfl dX7_lengthsTogether_18 (fun h => ?_)
    refine j_iadd C dX7_lengthsTogether_19 ?_
    refine j_istore_n C dX7_lengthsTogether_20 (by decide) ?_
    refine j_inc C (1) dX7_lengthsTogether_21 rfl ki_1 (by decide) ?_
    refine j_goto C 4 dX7_lengthsTogether_24 (by decide) ?_
    have h := Option.some.inj h
    subst h
    have hc9 := hc_4 _ rfl
    exact j_lw hc9 rfl

def w_X7_streetsAt (D : va_G) (q_this q_froms q_tos : Nat) (w_lengths w_kinds w_figures : Value) (v_closed : Int32) (v_size : Int32) (v_home : Int32) (v_froms : (Nat → Int32)) (v_tos : (Nat → Int32)) : va_W := [(q_this, .inr (6, [.ref q_froms, .ref q_tos, w_lengths, w_kinds, w_figures, .int v_closed, .int v_size, .int v_home])), (q_froms, .inl (D.1 100, 8, .inl v_froms)), (q_tos, .inl (D.1 100, 8, .inl v_tos))]
theorem w_X7_streetsAt_g0 {D : va_G} {q_this : Nat} {q_froms : Nat} {q_tos : Nat} {w_lengths : Value} {w_kinds : Value} {w_figures : Value} {v_closed : Int32} {v_size : Int32} {v_home : Int32} {v_froms : (Nat → Int32)} {v_tos : (Nat → Int32)} : (w_X7_streetsAt D q_this q_froms q_tos w_lengths w_kinds w_figures v_closed v_size v_home v_froms v_tos)[0]? = some (q_this, .inr (6, [.ref q_froms, .ref q_tos, w_lengths, w_kinds, w_figures, .int v_closed, .int v_size, .int v_home])) := rfl
theorem w_X7_streetsAt_s0 {D : va_G} {q_this : Nat} {q_froms : Nat} {q_tos : Nat} {w_lengths : Value} {w_kinds : Value} {w_figures : Value} {v_closed : Int32} {v_size : Int32} {v_home : Int32} {v_froms : (Nat → Int32)} {v_tos : (Nat → Int32)} {v_closed' : Int32} {v_size' : Int32} {v_home' : Int32} : (w_X7_streetsAt D q_this q_froms q_tos w_lengths w_kinds w_figures v_closed v_size v_home v_froms v_tos).set 0 (q_this, .inr (6, [.ref q_froms, .ref q_tos, w_lengths, w_kinds, w_figures, .int v_closed', .int v_size', .int v_home'])) = (w_X7_streetsAt D q_this q_froms q_tos w_lengths w_kinds w_figures v_closed' v_size' v_home' v_froms v_tos) := rfl
theorem w_X7_streetsAt_g1 {D : va_G} {q_this : Nat} {q_froms : Nat} {q_tos : Nat} {w_lengths : Value} {w_kinds : Value} {w_figures : Value} {v_closed : Int32} {v_size : Int32} {v_home : Int32} {v_froms : (Nat → Int32)} {v_tos : (Nat → Int32)} : (w_X7_streetsAt D q_this q_froms q_tos w_lengths w_kinds w_figures v_closed v_size v_home v_froms v_tos)[1]? = some (q_froms, .inl (D.1 100, 8, .inl v_froms)) := rfl
theorem w_X7_streetsAt_s1 {D : va_G} {q_this : Nat} {q_froms : Nat} {q_tos : Nat} {w_lengths : Value} {w_kinds : Value} {w_figures : Value} {v_closed : Int32} {v_size : Int32} {v_home : Int32} {v_froms : (Nat → Int32)} {v_tos : (Nat → Int32)} {v_froms' : (Nat → Int32)} : (w_X7_streetsAt D q_this q_froms q_tos w_lengths w_kinds w_figures v_closed v_size v_home v_froms v_tos).set 1 (q_froms, .inl (D.1 100, 8, .inl v_froms')) = (w_X7_streetsAt D q_this q_froms q_tos w_lengths w_kinds w_figures v_closed v_size v_home v_froms' v_tos) := rfl
theorem w_X7_streetsAt_g2 {D : va_G} {q_this : Nat} {q_froms : Nat} {q_tos : Nat} {w_lengths : Value} {w_kinds : Value} {w_figures : Value} {v_closed : Int32} {v_size : Int32} {v_home : Int32} {v_froms : (Nat → Int32)} {v_tos : (Nat → Int32)} : (w_X7_streetsAt D q_this q_froms q_tos w_lengths w_kinds w_figures v_closed v_size v_home v_froms v_tos)[2]? = some (q_tos, .inl (D.1 100, 8, .inl v_tos)) := rfl
theorem w_X7_streetsAt_s2 {D : va_G} {q_this : Nat} {q_froms : Nat} {q_tos : Nat} {w_lengths : Value} {w_kinds : Value} {w_figures : Value} {v_closed : Int32} {v_size : Int32} {v_home : Int32} {v_froms : (Nat → Int32)} {v_tos : (Nat → Int32)} {v_tos' : (Nat → Int32)} : (w_X7_streetsAt D q_this q_froms q_tos w_lengths w_kinds w_figures v_closed v_size v_home v_froms v_tos).set 2 (q_tos, .inl (D.1 100, 8, .inl v_tos')) = (w_X7_streetsAt D q_this q_froms q_tos w_lengths w_kinds w_figures v_closed v_size v_home v_froms v_tos') := rfl
theorem w_X7_streetsAt_a {D : va_G} {q_this : Nat} {q_froms : Nat} {q_tos : Nat} {w_lengths : Value} {w_kinds : Value} {w_figures : Value} {v_closed : Int32} {v_size : Int32} {v_home : Int32} {v_froms : (Nat → Int32)} {v_tos : (Nat → Int32)} : (w_X7_streetsAt D q_this q_froms q_tos w_lengths w_kinds w_figures v_closed v_size v_home v_froms v_tos).map (fun q => q.1) = [q_this, q_froms, q_tos] := rfl
def f_X7_streetsAt_b4 (v_size : Int32) (x3_4 : Int32) (x2_4 : Int32) (x1 : Int32) (v_froms : (Nat → Int32)) (v_tos : (Nat → Int32)) : Option ((Int32 × Int32) ⊕ Int32) :=
  (if v_size ≤ x3_4 then some (.inr x2_4) else (f_X7_touches x3_4 x1 v_froms v_tos).bind (fun r_touches_1 => some (.inl (if r_touches_1 = 0 then x2_4 else (x2_4 ||| ((1 : Int32) <<< (x3_4 &&& 31))), x3_4 + (1 : Int32)))))
def f_X7_streetsAt (N : Nat) (x1 : Int32) (v_size : Int32) (v_froms : (Nat → Int32)) (v_tos : (Nat → Int32)) : Option Int32 :=
  (lp (fun s_4 => f_X7_streetsAt_b4 v_size s_4.2 s_4.1 x1 v_froms v_tos) N ((0 : Int32), (0 : Int32))).bind (fun e_4 => some e_4)
set_option maxRecDepth 100000 in
set_option maxHeartbeats 4000000 in
theorem c_X7_streetsAt (l : Launch) (D : va_G) (N : Nat) {q_this q_froms q_tos : Nat} {w_lengths w_kinds w_figures : Value} {v_closed : Int32} {v_size : Int32} {v_home : Int32} {v_froms : (Nat → Int32)} {v_tos : (Nat → Int32)} {x1 : Int32} {o : Int32} (h : f_X7_streetsAt N x1 v_size v_froms v_tos = some o) : CT l D yX7_streetsAt cX7_streetsAt 4 (Option.some FieldType.int) 1 [.ref q_this, .int x1] (w_X7_streetsAt D q_this q_froms q_tos w_lengths w_kinds w_figures v_closed v_size v_home v_froms v_tos) (w_X7_streetsAt D q_this q_froms q_tos w_lengths w_kinds w_figures v_closed v_size v_home v_froms v_tos) (some (.int o)) := by
  refine CT.of mk_X7_streetsAt (Nat.le_of_ble_eq_true rfl) (fun g hl hD C E => ?_)
  subst hl
  subst hD
  unfold f_X7_streetsAt at h
  refine j_iconst C (0) dX7_streetsAt_0 ki_0 ?_
  refine j_istore_n C dX7_streetsAt_1 (by decide) ?_
  refine j_iconst C (0) dX7_streetsAt_2 ki_0 ?_
  refine j_istore_n C dX7_streetsAt_3 (by decide) ?_
  obtain ⟨e_4, hl_4, h⟩ := of_bind h
  have ha_4 : J g (w_X7_streetsAt (gD g) q_this q_froms q_tos w_lengths w_kinds w_figures v_closed v_size v_home v_froms v_tos) [(2, .int (e_4))] 33 [] := by
    refine j_iload_n C dX7_streetsAt_33 rfl ?_
    have h := Option.some.inj h
    subst h
    exact j_iret C E dX7_streetsAt_34
  refine j_lv (lv' := [(0, .ref q_this), (1, .int (x1)), (2, .int ((0 : Int32))), (3, .int ((0 : Int32)))]) rfl ?_
  refine lp_ind hl_4 (fun s_4 => J g (w_X7_streetsAt (gD g) q_this q_froms q_tos w_lengths w_kinds w_figures v_closed v_size v_home v_froms v_tos) [(0, .ref q_this), (1, .int (x1)), (2, .int (s_4.1)), (3, .int (s_4.2))] 4 []) (fun s_4 r_4 h hc_4 hx_4 => ?_)
  unfold f_X7_streetsAt_b4 at h
  refine j_iload_n C dX7_streetsAt_4 rfl ?_
  refine j_aload_n C dX7_streetsAt_5 rfl ?_
  refine j_get C 0 w_X7_streetsAt_g0 rfl inX7 6 (by decide) kw_54 rfl rfl dX7_streetsAt_6 ?_
  refine j_icmp_ge C h 33 dX7_streetsAt_9 (by decide) (fun hc h => ?_) (fun hc h => ?_)
  · have h := Option.some.inj h
    subst h
    have h9 := hx_4 _ rfl
    subst h9
    exact j_lw ha_4 rfl
  · refine j_aload_n C dX7_streetsAt_12 rfl ?_
    refine j_iload_n C dX7_streetsAt_13 rfl ?_
    refine j_iload_n C dX7_streetsAt_14 rfl ?_
    obtain ⟨r_touches_1, h_1, h⟩ := of_bind h
    refine j_callV1 C mk_X7_touches ms_X7_touches kw_547 (c_X7_touches (gl g) (gD g) h_1) (by decide) 0 w_X7_streetsAt_g0 rfl [0, 1, 2] (hC_cons w_X7_streetsAt_g0 (hC_cons w_X7_streetsAt_g1 (hC_cons w_X7_streetsAt_g2 hC_nil))) rfl (w_X7_touches_a.trans w_X7_touches_a.symm) rfl rfl (Nat.le_of_ble_eq_true rfl) dX7_streetsAt_15 (wput_cons w_X7_streetsAt_s0 (wput_cons w_X7_streetsAt_s1 (wput_cons w_X7_streetsAt_s2 wput_nil))) ?_
    have hj_2 : J g (w_X7_streetsAt (gD g) q_this q_froms q_tos w_lengths w_kinds w_figures v_closed v_size v_home v_froms v_tos) [(0, .ref q_this), (1, .int (x1)), (2, .int (if r_touches_1 = 0 then s_4.1 else (s_4.1 ||| ((1 : Int32) <<< (s_4.2 &&& 31))))), (3, .int (s_4.2))] 27 [] := by
      refine j_inc C (1) dX7_streetsAt_27 rfl ki_1 (by decide) ?_
      refine j_goto C 4 dX7_streetsAt_30 (by decide) ?_
      have h := Option.some.inj h
      subst h
      have hc9 := hc_4 _ rfl
      exact j_lw hc9 rfl
    refine jv_if_eq C 27 dX7_streetsAt_18 (by decide) (fun hc => ?_) (fun hc => ?_)
    · try simp only [if_pos hc] at hj_2
      exact j_lw hj_2 rfl
    · try simp only [if_neg hc] at hj_2
      refine j_iload_n C dX7_streetsAt_21 rfl ?_
      refine j_iconst C (1) dX7_streetsAt_22 ki_1 ?_
      refine j_iload_n C dX7_streetsAt_23 rfl ?_
      refine j_ishl C dX7_streetsAt_24 ?_
      refine j_ior C dX7_streetsAt_25 ?_
      refine j_istore_n C dX7_streetsAt_26 (by decide) ?_
      exact j_lw hj_2 rfl

def w_X7_takeOver (D : va_G) (q_this q_froms q_tos q_lengths q_kinds q_figures q_p1 q_p1_froms q_p1_tos q_p1_lengths q_p1_kinds q_p1_figures : Nat) (v_closed : Int32) (v_size : Int32) (v_home : Int32) (v_froms : (Nat → Int32)) (v_tos : (Nat → Int32)) (v_lengths : (Nat → Int32)) (v_kinds : (Nat → Int32)) (v_figures : (Nat → Int32)) (v_p1_closed : Int32) (v_p1_size : Int32) (v_p1_home : Int32) (v_p1_froms : (Nat → Int32)) (v_p1_tos : (Nat → Int32)) (v_p1_lengths : (Nat → Int32)) (v_p1_kinds : (Nat → Int32)) (v_p1_figures : (Nat → Int32)) : va_W := [(q_this, .inr (6, [.ref q_froms, .ref q_tos, .ref q_lengths, .ref q_kinds, .ref q_figures, .int v_closed, .int v_size, .int v_home])), (q_froms, .inl (D.1 100, 8, .inl v_froms)), (q_tos, .inl (D.1 100, 8, .inl v_tos)), (q_lengths, .inl (D.1 100, 8, .inl v_lengths)), (q_kinds, .inl (D.1 100, 8, .inl v_kinds)), (q_figures, .inl (D.1 100, 8, .inl v_figures)), (q_p1, .inr (6, [.ref q_p1_froms, .ref q_p1_tos, .ref q_p1_lengths, .ref q_p1_kinds, .ref q_p1_figures, .int v_p1_closed, .int v_p1_size, .int v_p1_home])), (q_p1_froms, .inl (D.1 100, 8, .inl v_p1_froms)), (q_p1_tos, .inl (D.1 100, 8, .inl v_p1_tos)), (q_p1_lengths, .inl (D.1 100, 8, .inl v_p1_lengths)), (q_p1_kinds, .inl (D.1 100, 8, .inl v_p1_kinds)), (q_p1_figures, .inl (D.1 100, 8, .inl v_p1_figures))]
theorem w_X7_takeOver_g0 {D : va_G} {q_this : Nat} {q_froms : Nat} {q_tos : Nat} {q_lengths : Nat} {q_kinds : Nat} {q_figures : Nat} {q_p1 : Nat} {q_p1_froms : Nat} {q_p1_tos : Nat} {q_p1_lengths : Nat} {q_p1_kinds : Nat} {q_p1_figures : Nat} {v_closed : Int32} {v_size : Int32} {v_home : Int32} {v_froms : (Nat → Int32)} {v_tos : (Nat → Int32)} {v_lengths : (Nat → Int32)} {v_kinds : (Nat → Int32)} {v_figures : (Nat → Int32)} {v_p1_closed : Int32} {v_p1_size : Int32} {v_p1_home : Int32} {v_p1_froms : (Nat → Int32)} {v_p1_tos : (Nat → Int32)} {v_p1_lengths : (Nat → Int32)} {v_p1_kinds : (Nat → Int32)} {v_p1_figures : (Nat → Int32)} : (w_X7_takeOver D q_this q_froms q_tos q_lengths q_kinds q_figures q_p1 q_p1_froms q_p1_tos q_p1_lengths q_p1_kinds q_p1_figures v_closed v_size v_home v_froms v_tos v_lengths v_kinds v_figures v_p1_closed v_p1_size v_p1_home v_p1_froms v_p1_tos v_p1_lengths v_p1_kinds v_p1_figures)[0]? = some (q_this, .inr (6, [.ref q_froms, .ref q_tos, .ref q_lengths, .ref q_kinds, .ref q_figures, .int v_closed, .int v_size, .int v_home])) := rfl
theorem w_X7_takeOver_s0 {D : va_G} {q_this : Nat} {q_froms : Nat} {q_tos : Nat} {q_lengths : Nat} {q_kinds : Nat} {q_figures : Nat} {q_p1 : Nat} {q_p1_froms : Nat} {q_p1_tos : Nat} {q_p1_lengths : Nat} {q_p1_kinds : Nat} {q_p1_figures : Nat} {v_closed : Int32} {v_size : Int32} {v_home : Int32} {v_froms : (Nat → Int32)} {v_tos : (Nat → Int32)} {v_lengths : (Nat → Int32)} {v_kinds : (Nat → Int32)} {v_figures : (Nat → Int32)} {v_p1_closed : Int32} {v_p1_size : Int32} {v_p1_home : Int32} {v_p1_froms : (Nat → Int32)} {v_p1_tos : (Nat → Int32)} {v_p1_lengths : (Nat → Int32)} {v_p1_kinds : (Nat → Int32)} {v_p1_figures : (Nat → Int32)} {v_closed' : Int32} {v_size' : Int32} {v_home' : Int32} : (w_X7_takeOver D q_this q_froms q_tos q_lengths q_kinds q_figures q_p1 q_p1_froms q_p1_tos q_p1_lengths q_p1_kinds q_p1_figures v_closed v_size v_home v_froms v_tos v_lengths v_kinds v_figures v_p1_closed v_p1_size v_p1_home v_p1_froms v_p1_tos v_p1_lengths v_p1_kinds v_p1_figures).set 0 (q_this, .inr (6, [.ref q_froms, .ref q_tos, .ref q_lengths, .ref q_kinds, .ref q_figures, .int v_closed', .int v_size', .int v_home'])) = (w_X7_takeOver D q_this q_froms q_tos q_lengths q_kinds q_figures q_p1 q_p1_froms q_p1_tos q_p1_lengths q_p1_kinds q_p1_figures v_closed' v_size' v_home' v_froms v_tos v_lengths v_kinds v_figures v_p1_closed v_p1_size v_p1_home v_p1_froms v_p1_tos v_p1_lengths v_p1_kinds v_p1_figures) := rfl
theorem w_X7_takeOver_g1 {D : va_G} {q_this : Nat} {q_froms : Nat} {q_tos : Nat} {q_lengths : Nat} {q_kinds : Nat} {q_figures : Nat} {q_p1 : Nat} {q_p1_froms : Nat} {q_p1_tos : Nat} {q_p1_lengths : Nat} {q_p1_kinds : Nat} {q_p1_figures : Nat} {v_closed : Int32} {v_size : Int32} {v_home : Int32} {v_froms : (Nat → Int32)} {v_tos : (Nat → Int32)} {v_lengths : (Nat → Int32)} {v_kinds : (Nat → Int32)} {v_figures : (Nat → Int32)} {v_p1_closed : Int32} {v_p1_size : Int32} {v_p1_home : Int32} {v_p1_froms : (Nat → Int32)} {v_p1_tos : (Nat → Int32)} {v_p1_lengths : (Nat → Int32)} {v_p1_kinds : (Nat → Int32)} {v_p1_figures : (Nat → Int32)} : (w_X7_takeOver D q_this q_froms q_tos q_lengths q_kinds q_figures q_p1 q_p1_froms q_p1_tos q_p1_lengths q_p1_kinds q_p1_figures v_closed v_size v_home v_froms v_tos v_lengths v_kinds v_figures v_p1_closed v_p1_size v_p1_home v_p1_froms v_p1_tos v_p1_lengths v_p1_kinds v_p1_figures)[1]? = some (q_froms, .inl (D.1 100, 8, .inl v_froms)) := rfl
theorem w_X7_takeOver_s1 {D : va_G} {q_this : Nat} {q_froms : Nat} {q_tos : Nat} {q_lengths : Nat} {q_kinds : Nat} {q_figures : Nat} {q_p1 : Nat} {q_p1_froms : Nat} {q_p1_tos : Nat} {q_p1_lengths : Nat} {q_p1_kinds : Nat} {q_p1_figures : Nat} {v_closed : Int32} {v_size : Int32} {v_home : Int32} {v_froms : (Nat → Int32)} {v_tos : (Nat → Int32)} {v_lengths : (Nat → Int32)} {v_kinds : (Nat → Int32)} {v_figures : (Nat → Int32)} {v_p1_closed : Int32} {v_p1_size : Int32} {v_p1_home : Int32} {v_p1_froms : (Nat → Int32)} {v_p1_tos : (Nat → Int32)} {v_p1_lengths : (Nat → Int32)} {v_p1_kinds : (Nat → Int32)} {v_p1_figures : (Nat → Int32)} {v_froms' : (Nat → Int32)} : (w_X7_takeOver D q_this q_froms q_tos q_lengths q_kinds q_figures q_p1 q_p1_froms q_p1_tos q_p1_lengths q_p1_kinds q_p1_figures v_closed v_size v_home v_froms v_tos v_lengths v_kinds v_figures v_p1_closed v_p1_size v_p1_home v_p1_froms v_p1_tos v_p1_lengths v_p1_kinds v_p1_figures).set 1 (q_froms, .inl (D.1 100, 8, .inl v_froms')) = (w_X7_takeOver D q_this q_froms q_tos q_lengths q_kinds q_figures q_p1 q_p1_froms q_p1_tos q_p1_lengths q_p1_kinds q_p1_figures v_closed v_size v_home v_froms' v_tos v_lengths v_kinds v_figures v_p1_closed v_p1_size v_p1_home v_p1_froms v_p1_tos v_p1_lengths v_p1_kinds v_p1_figures) := rfl
theorem w_X7_takeOver_g2 {D : va_G} {q_this : Nat} {q_froms : Nat} {q_tos : Nat} {q_lengths : Nat} {q_kinds : Nat} {q_figures : Nat} {q_p1 : Nat} {q_p1_froms : Nat} {q_p1_tos : Nat} {q_p1_lengths : Nat} {q_p1_kinds : Nat} {q_p1_figures : Nat} {v_closed : Int32} {v_size : Int32} {v_home : Int32} {v_froms : (Nat → Int32)} {v_tos : (Nat → Int32)} {v_lengths : (Nat → Int32)} {v_kinds : (Nat → Int32)} {v_figures : (Nat → Int32)} {v_p1_closed : Int32} {v_p1_size : Int32} {v_p1_home : Int32} {v_p1_froms : (Nat → Int32)} {v_p1_tos : (Nat → Int32)} {v_p1_lengths : (Nat → Int32)} {v_p1_kinds : (Nat → Int32)} {v_p1_figures : (Nat → Int32)} : (w_X7_takeOver D q_this q_froms q_tos q_lengths q_kinds q_figures q_p1 q_p1_froms q_p1_tos q_p1_lengths q_p1_kinds q_p1_figures v_closed v_size v_home v_froms v_tos v_lengths v_kinds v_figures v_p1_closed v_p1_size v_p1_home v_p1_froms v_p1_tos v_p1_lengths v_p1_kinds v_p1_figures)[2]? = some (q_tos, .inl (D.1 100, 8, .inl v_tos)) := rfl
theorem w_X7_takeOver_s2 {D : va_G} {q_this : Nat} {q_froms : Nat} {q_tos : Nat} {q_lengths : Nat} {q_kinds : Nat} {q_figures : Nat} {q_p1 : Nat} {q_p1_froms : Nat} {q_p1_tos : Nat} {q_p1_lengths : Nat} {q_p1_kinds : Nat} {q_p1_figures : Nat} {v_closed : Int32} {v_size : Int32} {v_home : Int32} {v_froms : (Nat → Int32)} {v_tos : (Nat → Int32)} {v_lengths : (Nat → Int32)} {v_kinds : (Nat → Int32)} {v_figures : (Nat → Int32)} {v_p1_closed : Int32} {v_p1_size : Int32} {v_p1_home : Int32} {v_p1_froms : (Nat → Int32)} {v_p1_tos : (Nat → Int32)} {v_p1_lengths : (Nat → Int32)} {v_p1_kinds : (Nat → Int32)} {v_p1_figures : (Nat → Int32)} {v_tos' : (Nat → Int32)} : (w_X7_takeOver D q_this q_froms q_tos q_lengths q_kinds q_figures q_p1 q_p1_froms q_p1_tos q_p1_lengths q_p1_kinds q_p1_figures v_closed v_size v_home v_froms v_tos v_lengths v_kinds v_figures v_p1_closed v_p1_size v_p1_home v_p1_froms v_p1_tos v_p1_lengths v_p1_kinds v_p1_figures).set 2 (q_tos, .inl (D.1 100, 8, .inl v_tos')) = (w_X7_takeOver D q_this q_froms q_tos q_lengths q_kinds q_figures q_p1 q_p1_froms q_p1_tos q_p1_lengths q_p1_kinds q_p1_figures v_closed v_size v_home v_froms v_tos' v_lengths v_kinds v_figures v_p1_closed v_p1_size v_p1_home v_p1_froms v_p1_tos v_p1_lengths v_p1_kinds v_p1_figures) := rfl
theorem w_X7_takeOver_g3 {D : va_G} {q_this : Nat} {q_froms : Nat} {q_tos : Nat} {q_lengths : Nat} {q_kinds : Nat} {q_figures : Nat} {q_p1 : Nat} {q_p1_froms : Nat} {q_p1_tos : Nat} {q_p1_lengths : Nat} {q_p1_kinds : Nat} {q_p1_figures : Nat} {v_closed : Int32} {v_size : Int32} {v_home : Int32} {v_froms : (Nat → Int32)} {v_tos : (Nat → Int32)} {v_lengths : (Nat → Int32)} {v_kinds : (Nat → Int32)} {v_figures : (Nat → Int32)} {v_p1_closed : Int32} {v_p1_size : Int32} {v_p1_home : Int32} {v_p1_froms : (Nat → Int32)} {v_p1_tos : (Nat → Int32)} {v_p1_lengths : (Nat → Int32)} {v_p1_kinds : (Nat → Int32)} {v_p1_figures : (Nat → Int32)} : (w_X7_takeOver D q_this q_froms q_tos q_lengths q_kinds q_figures q_p1 q_p1_froms q_p1_tos q_p1_lengths q_p1_kinds q_p1_figures v_closed v_size v_home v_froms v_tos v_lengths v_kinds v_figures v_p1_closed v_p1_size v_p1_home v_p1_froms v_p1_tos v_p1_lengths v_p1_kinds v_p1_figures)[3]? = some (q_lengths, .inl (D.1 100, 8, .inl v_lengths)) := rfl
theorem w_X7_takeOver_s3 {D : va_G} {q_this : Nat} {q_froms : Nat} {q_tos : Nat} {q_lengths : Nat} {q_kinds : Nat} {q_figures : Nat} {q_p1 : Nat} {q_p1_froms : Nat} {q_p1_tos : Nat} {q_p1_lengths : Nat} {q_p1_kinds : Nat} {q_p1_figures : Nat} {v_closed : Int32} {v_size : Int32} {v_home : Int32} {v_froms : (Nat → Int32)} {v_tos : (Nat → Int32)} {v_lengths : (Nat → Int32)} {v_kinds : (Nat → Int32)} {v_figures : (Nat → Int32)} {v_p1_closed : Int32} {v_p1_size : Int32} {v_p1_home : Int32} {v_p1_froms : (Nat → Int32)} {v_p1_tos : (Nat → Int32)} {v_p1_lengths : (Nat → Int32)} {v_p1_kinds : (Nat → Int32)} {v_p1_figures : (Nat → Int32)} {v_lengths' : (Nat → Int32)} : (w_X7_takeOver D q_this q_froms q_tos q_lengths q_kinds q_figures q_p1 q_p1_froms q_p1_tos q_p1_lengths q_p1_kinds q_p1_figures v_closed v_size v_home v_froms v_tos v_lengths v_kinds v_figures v_p1_closed v_p1_size v_p1_home v_p1_froms v_p1_tos v_p1_lengths v_p1_kinds v_p1_figures).set 3 (q_lengths, .inl (D.1 100, 8, .inl v_lengths')) = (w_X7_takeOver D q_this q_froms q_tos q_lengths q_kinds q_figures q_p1 q_p1_froms q_p1_tos q_p1_lengths q_p1_kinds q_p1_figures v_closed v_size v_home v_froms v_tos v_lengths' v_kinds v_figures v_p1_closed v_p1_size v_p1_home v_p1_froms v_p1_tos v_p1_lengths v_p1_kinds v_p1_figures) := rfl
theorem w_X7_takeOver_g4 {D : va_G} {q_this : Nat} {q_froms : Nat} {q_tos : Nat} {q_lengths : Nat} {q_kinds : Nat} {q_figures : Nat} {q_p1 : Nat} {q_p1_froms : Nat} {q_p1_tos : Nat} {q_p1_lengths : Nat} {q_p1_kinds : Nat} {q_p1_figures : Nat} {v_closed : Int32} {v_size : Int32} {v_home : Int32} {v_froms : (Nat → Int32)} {v_tos : (Nat → Int32)} {v_lengths : (Nat → Int32)} {v_kinds : (Nat → Int32)} {v_figures : (Nat → Int32)} {v_p1_closed : Int32} {v_p1_size : Int32} {v_p1_home : Int32} {v_p1_froms : (Nat → Int32)} {v_p1_tos : (Nat → Int32)} {v_p1_lengths : (Nat → Int32)} {v_p1_kinds : (Nat → Int32)} {v_p1_figures : (Nat → Int32)} : (w_X7_takeOver D q_this q_froms q_tos q_lengths q_kinds q_figures q_p1 q_p1_froms q_p1_tos q_p1_lengths q_p1_kinds q_p1_figures v_closed v_size v_home v_froms v_tos v_lengths v_kinds v_figures v_p1_closed v_p1_size v_p1_home v_p1_froms v_p1_tos v_p1_lengths v_p1_kinds v_p1_figures)[4]? = some (q_kinds, .inl (D.1 100, 8, .inl v_kinds)) := rfl
theorem w_X7_takeOver_s4 {D : va_G} {q_this : Nat} {q_froms : Nat} {q_tos : Nat} {q_lengths : Nat} {q_kinds : Nat} {q_figures : Nat} {q_p1 : Nat} {q_p1_froms : Nat} {q_p1_tos : Nat} {q_p1_lengths : Nat} {q_p1_kinds : Nat} {q_p1_figures : Nat} {v_closed : Int32} {v_size : Int32} {v_home : Int32} {v_froms : (Nat → Int32)} {v_tos : (Nat → Int32)} {v_lengths : (Nat → Int32)} {v_kinds : (Nat → Int32)} {v_figures : (Nat → Int32)} {v_p1_closed : Int32} {v_p1_size : Int32} {v_p1_home : Int32} {v_p1_froms : (Nat → Int32)} {v_p1_tos : (Nat → Int32)} {v_p1_lengths : (Nat → Int32)} {v_p1_kinds : (Nat → Int32)} {v_p1_figures : (Nat → Int32)} {v_kinds' : (Nat → Int32)} : (w_X7_takeOver D q_this q_froms q_tos q_lengths q_kinds q_figures q_p1 q_p1_froms q_p1_tos q_p1_lengths q_p1_kinds q_p1_figures v_closed v_size v_home v_froms v_tos v_lengths v_kinds v_figures v_p1_closed v_p1_size v_p1_home v_p1_froms v_p1_tos v_p1_lengths v_p1_kinds v_p1_figures).set 4 (q_kinds, .inl (D.1 100, 8, .inl v_kinds')) = (w_X7_takeOver D q_this q_froms q_tos q_lengths q_kinds q_figures q_p1 q_p1_froms q_p1_tos q_p1_lengths q_p1_kinds q_p1_figures v_closed v_size v_home v_froms v_tos v_lengths v_kinds' v_figures v_p1_closed v_p1_size v_p1_home v_p1_froms v_p1_tos v_p1_lengths v_p1_kinds v_p1_figures) := rfl
theorem w_X7_takeOver_g5 {D : va_G} {q_this : Nat} {q_froms : Nat} {q_tos : Nat} {q_lengths : Nat} {q_kinds : Nat} {q_figures : Nat} {q_p1 : Nat} {q_p1_froms : Nat} {q_p1_tos : Nat} {q_p1_lengths : Nat} {q_p1_kinds : Nat} {q_p1_figures : Nat} {v_closed : Int32} {v_size : Int32} {v_home : Int32} {v_froms : (Nat → Int32)} {v_tos : (Nat → Int32)} {v_lengths : (Nat → Int32)} {v_kinds : (Nat → Int32)} {v_figures : (Nat → Int32)} {v_p1_closed : Int32} {v_p1_size : Int32} {v_p1_home : Int32} {v_p1_froms : (Nat → Int32)} {v_p1_tos : (Nat → Int32)} {v_p1_lengths : (Nat → Int32)} {v_p1_kinds : (Nat → Int32)} {v_p1_figures : (Nat → Int32)} : (w_X7_takeOver D q_this q_froms q_tos q_lengths q_kinds q_figures q_p1 q_p1_froms q_p1_tos q_p1_lengths q_p1_kinds q_p1_figures v_closed v_size v_home v_froms v_tos v_lengths v_kinds v_figures v_p1_closed v_p1_size v_p1_home v_p1_froms v_p1_tos v_p1_lengths v_p1_kinds v_p1_figures)[5]? = some (q_figures, .inl (D.1 100, 8, .inl v_figures)) := rfl
theorem w_X7_takeOver_s5 {D : va_G} {q_this : Nat} {q_froms : Nat} {q_tos : Nat} {q_lengths : Nat} {q_kinds : Nat} {q_figures : Nat} {q_p1 : Nat} {q_p1_froms : Nat} {q_p1_tos : Nat} {q_p1_lengths : Nat} {q_p1_kinds : Nat} {q_p1_figures : Nat} {v_closed : Int32} {v_size : Int32} {v_home : Int32} {v_froms : (Nat → Int32)} {v_tos : (Nat → Int32)} {v_lengths : (Nat → Int32)} {v_kinds : (Nat → Int32)} {v_figures : (Nat → Int32)} {v_p1_closed : Int32} {v_p1_size : Int32} {v_p1_home : Int32} {v_p1_froms : (Nat → Int32)} {v_p1_tos : (Nat → Int32)} {v_p1_lengths : (Nat → Int32)} {v_p1_kinds : (Nat → Int32)} {v_p1_figures : (Nat → Int32)} {v_figures' : (Nat → Int32)} : (w_X7_takeOver D q_this q_froms q_tos q_lengths q_kinds q_figures q_p1 q_p1_froms q_p1_tos q_p1_lengths q_p1_kinds q_p1_figures v_closed v_size v_home v_froms v_tos v_lengths v_kinds v_figures v_p1_closed v_p1_size v_p1_home v_p1_froms v_p1_tos v_p1_lengths v_p1_kinds v_p1_figures).set 5 (q_figures, .inl (D.1 100, 8, .inl v_figures')) = (w_X7_takeOver D q_this q_froms q_tos q_lengths q_kinds q_figures q_p1 q_p1_froms q_p1_tos q_p1_lengths q_p1_kinds q_p1_figures v_closed v_size v_home v_froms v_tos v_lengths v_kinds v_figures' v_p1_closed v_p1_size v_p1_home v_p1_froms v_p1_tos v_p1_lengths v_p1_kinds v_p1_figures) := rfl
theorem w_X7_takeOver_g6 {D : va_G} {q_this : Nat} {q_froms : Nat} {q_tos : Nat} {q_lengths : Nat} {q_kinds : Nat} {q_figures : Nat} {q_p1 : Nat} {q_p1_froms : Nat} {q_p1_tos : Nat} {q_p1_lengths : Nat} {q_p1_kinds : Nat} {q_p1_figures : Nat} {v_closed : Int32} {v_size : Int32} {v_home : Int32} {v_froms : (Nat → Int32)} {v_tos : (Nat → Int32)} {v_lengths : (Nat → Int32)} {v_kinds : (Nat → Int32)} {v_figures : (Nat → Int32)} {v_p1_closed : Int32} {v_p1_size : Int32} {v_p1_home : Int32} {v_p1_froms : (Nat → Int32)} {v_p1_tos : (Nat → Int32)} {v_p1_lengths : (Nat → Int32)} {v_p1_kinds : (Nat → Int32)} {v_p1_figures : (Nat → Int32)} : (w_X7_takeOver D q_this q_froms q_tos q_lengths q_kinds q_figures q_p1 q_p1_froms q_p1_tos q_p1_lengths q_p1_kinds q_p1_figures v_closed v_size v_home v_froms v_tos v_lengths v_kinds v_figures v_p1_closed v_p1_size v_p1_home v_p1_froms v_p1_tos v_p1_lengths v_p1_kinds v_p1_figures)[6]? = some (q_p1, .inr (6, [.ref q_p1_froms, .ref q_p1_tos, .ref q_p1_lengths, .ref q_p1_kinds, .ref q_p1_figures, .int v_p1_closed, .int v_p1_size, .int v_p1_home])) := rfl
theorem w_X7_takeOver_s6 {D : va_G} {q_this : Nat} {q_froms : Nat} {q_tos : Nat} {q_lengths : Nat} {q_kinds : Nat} {q_figures : Nat} {q_p1 : Nat} {q_p1_froms : Nat} {q_p1_tos : Nat} {q_p1_lengths : Nat} {q_p1_kinds : Nat} {q_p1_figures : Nat} {v_closed : Int32} {v_size : Int32} {v_home : Int32} {v_froms : (Nat → Int32)} {v_tos : (Nat → Int32)} {v_lengths : (Nat → Int32)} {v_kinds : (Nat → Int32)} {v_figures : (Nat → Int32)} {v_p1_closed : Int32} {v_p1_size : Int32} {v_p1_home : Int32} {v_p1_froms : (Nat → Int32)} {v_p1_tos : (Nat → Int32)} {v_p1_lengths : (Nat → Int32)} {v_p1_kinds : (Nat → Int32)} {v_p1_figures : (Nat → Int32)} {v_p1_closed' : Int32} {v_p1_size' : Int32} {v_p1_home' : Int32} : (w_X7_takeOver D q_this q_froms q_tos q_lengths q_kinds q_figures q_p1 q_p1_froms q_p1_tos q_p1_lengths q_p1_kinds q_p1_figures v_closed v_size v_home v_froms v_tos v_lengths v_kinds v_figures v_p1_closed v_p1_size v_p1_home v_p1_froms v_p1_tos v_p1_lengths v_p1_kinds v_p1_figures).set 6 (q_p1, .inr (6, [.ref q_p1_froms, .ref q_p1_tos, .ref q_p1_lengths, .ref q_p1_kinds, .ref q_p1_figures, .int v_p1_closed', .int v_p1_size', .int v_p1_home'])) = (w_X7_takeOver D q_this q_froms q_tos q_lengths q_kinds q_figures q_p1 q_p1_froms q_p1_tos q_p1_lengths q_p1_kinds q_p1_figures v_closed v_size v_home v_froms v_tos v_lengths v_kinds v_figures v_p1_closed' v_p1_size' v_p1_home' v_p1_froms v_p1_tos v_p1_lengths v_p1_kinds v_p1_figures) := rfl
theorem w_X7_takeOver_g7 {D : va_G} {q_this : Nat} {q_froms : Nat} {q_tos : Nat} {q_lengths : Nat} {q_kinds : Nat} {q_figures : Nat} {q_p1 : Nat} {q_p1_froms : Nat} {q_p1_tos : Nat} {q_p1_lengths : Nat} {q_p1_kinds : Nat} {q_p1_figures : Nat} {v_closed : Int32} {v_size : Int32} {v_home : Int32} {v_froms : (Nat → Int32)} {v_tos : (Nat → Int32)} {v_lengths : (Nat → Int32)} {v_kinds : (Nat → Int32)} {v_figures : (Nat → Int32)} {v_p1_closed : Int32} {v_p1_size : Int32} {v_p1_home : Int32} {v_p1_froms : (Nat → Int32)} {v_p1_tos : (Nat → Int32)} {v_p1_lengths : (Nat → Int32)} {v_p1_kinds : (Nat → Int32)} {v_p1_figures : (Nat → Int32)} : (w_X7_takeOver D q_this q_froms q_tos q_lengths q_kinds q_figures q_p1 q_p1_froms q_p1_tos q_p1_lengths q_p1_kinds q_p1_figures v_closed v_size v_home v_froms v_tos v_lengths v_kinds v_figures v_p1_closed v_p1_size v_p1_home v_p1_froms v_p1_tos v_p1_lengths v_p1_kinds v_p1_figures)[7]? = some (q_p1_froms, .inl (D.1 100, 8, .inl v_p1_froms)) := rfl
theorem w_X7_takeOver_s7 {D : va_G} {q_this : Nat} {q_froms : Nat} {q_tos : Nat} {q_lengths : Nat} {q_kinds : Nat} {q_figures : Nat} {q_p1 : Nat} {q_p1_froms : Nat} {q_p1_tos : Nat} {q_p1_lengths : Nat} {q_p1_kinds : Nat} {q_p1_figures : Nat} {v_closed : Int32} {v_size : Int32} {v_home : Int32} {v_froms : (Nat → Int32)} {v_tos : (Nat → Int32)} {v_lengths : (Nat → Int32)} {v_kinds : (Nat → Int32)} {v_figures : (Nat → Int32)} {v_p1_closed : Int32} {v_p1_size : Int32} {v_p1_home : Int32} {v_p1_froms : (Nat → Int32)} {v_p1_tos : (Nat → Int32)} {v_p1_lengths : (Nat → Int32)} {v_p1_kinds : (Nat → Int32)} {v_p1_figures : (Nat → Int32)} {v_p1_froms' : (Nat → Int32)} : (w_X7_takeOver D q_this q_froms q_tos q_lengths q_kinds q_figures q_p1 q_p1_froms q_p1_tos q_p1_lengths q_p1_kinds q_p1_figures v_closed v_size v_home v_froms v_tos v_lengths v_kinds v_figures v_p1_closed v_p1_size v_p1_home v_p1_froms v_p1_tos v_p1_lengths v_p1_kinds v_p1_figures).set 7 (q_p1_froms, .inl (D.1 100, 8, .inl v_p1_froms')) = (w_X7_takeOver D q_this q_froms q_tos q_lengths q_kinds q_figures q_p1 q_p1_froms q_p1_tos q_p1_lengths q_p1_kinds q_p1_figures v_closed v_size v_home v_froms v_tos v_lengths v_kinds v_figures v_p1_closed v_p1_size v_p1_home v_p1_froms' v_p1_tos v_p1_lengths v_p1_kinds v_p1_figures) := rfl
theorem w_X7_takeOver_g8 {D : va_G} {q_this : Nat} {q_froms : Nat} {q_tos : Nat} {q_lengths : Nat} {q_kinds : Nat} {q_figures : Nat} {q_p1 : Nat} {q_p1_froms : Nat} {q_p1_tos : Nat} {q_p1_lengths : Nat} {q_p1_kinds : Nat} {q_p1_figures : Nat} {v_closed : Int32} {v_size : Int32} {v_home : Int32} {v_froms : (Nat → Int32)} {v_tos : (Nat → Int32)} {v_lengths : (Nat → Int32)} {v_kinds : (Nat → Int32)} {v_figures : (Nat → Int32)} {v_p1_closed : Int32} {v_p1_size : Int32} {v_p1_home : Int32} {v_p1_froms : (Nat → Int32)} {v_p1_tos : (Nat → Int32)} {v_p1_lengths : (Nat → Int32)} {v_p1_kinds : (Nat → Int32)} {v_p1_figures : (Nat → Int32)} : (w_X7_takeOver D q_this q_froms q_tos q_lengths q_kinds q_figures q_p1 q_p1_froms q_p1_tos q_p1_lengths q_p1_kinds q_p1_figures v_closed v_size v_home v_froms v_tos v_lengths v_kinds v_figures v_p1_closed v_p1_size v_p1_home v_p1_froms v_p1_tos v_p1_lengths v_p1_kinds v_p1_figures)[8]? = some (q_p1_tos, .inl (D.1 100, 8, .inl v_p1_tos)) := rfl
theorem w_X7_takeOver_s8 {D : va_G} {q_this : Nat} {q_froms : Nat} {q_tos : Nat} {q_lengths : Nat} {q_kinds : Nat} {q_figures : Nat} {q_p1 : Nat} {q_p1_froms : Nat} {q_p1_tos : Nat} {q_p1_lengths : Nat} {q_p1_kinds : Nat} {q_p1_figures : Nat} {v_closed : Int32} {v_size : Int32} {v_home : Int32} {v_froms : (Nat → Int32)} {v_tos : (Nat → Int32)} {v_lengths : (Nat → Int32)} {v_kinds : (Nat → Int32)} {v_figures : (Nat → Int32)} {v_p1_closed : Int32} {v_p1_size : Int32} {v_p1_home : Int32} {v_p1_froms : (Nat → Int32)} {v_p1_tos : (Nat → Int32)} {v_p1_lengths : (Nat → Int32)} {v_p1_kinds : (Nat → Int32)} {v_p1_figures : (Nat → Int32)} {v_p1_tos' : (Nat → Int32)} : (w_X7_takeOver D q_this q_froms q_tos q_lengths q_kinds q_figures q_p1 q_p1_froms q_p1_tos q_p1_lengths q_p1_kinds q_p1_figures v_closed v_size v_home v_froms v_tos v_lengths v_kinds v_figures v_p1_closed v_p1_size v_p1_home v_p1_froms v_p1_tos v_p1_lengths v_p1_kinds v_p1_figures).set 8 (q_p1_tos, .inl (D.1 100, 8, .inl v_p1_tos')) = (w_X7_takeOver D q_this q_froms q_tos q_lengths q_kinds q_figures q_p1 q_p1_froms q_p1_tos q_p1_lengths q_p1_kinds q_p1_figures v_closed v_size v_home v_froms v_tos v_lengths v_kinds v_figures v_p1_closed v_p1_size v_p1_home v_p1_froms v_p1_tos' v_p1_lengths v_p1_kinds v_p1_figures) := rfl
theorem w_X7_takeOver_g9 {D : va_G} {q_this : Nat} {q_froms : Nat} {q_tos : Nat} {q_lengths : Nat} {q_kinds : Nat} {q_figures : Nat} {q_p1 : Nat} {q_p1_froms : Nat} {q_p1_tos : Nat} {q_p1_lengths : Nat} {q_p1_kinds : Nat} {q_p1_figures : Nat} {v_closed : Int32} {v_size : Int32} {v_home : Int32} {v_froms : (Nat → Int32)} {v_tos : (Nat → Int32)} {v_lengths : (Nat → Int32)} {v_kinds : (Nat → Int32)} {v_figures : (Nat → Int32)} {v_p1_closed : Int32} {v_p1_size : Int32} {v_p1_home : Int32} {v_p1_froms : (Nat → Int32)} {v_p1_tos : (Nat → Int32)} {v_p1_lengths : (Nat → Int32)} {v_p1_kinds : (Nat → Int32)} {v_p1_figures : (Nat → Int32)} : (w_X7_takeOver D q_this q_froms q_tos q_lengths q_kinds q_figures q_p1 q_p1_froms q_p1_tos q_p1_lengths q_p1_kinds q_p1_figures v_closed v_size v_home v_froms v_tos v_lengths v_kinds v_figures v_p1_closed v_p1_size v_p1_home v_p1_froms v_p1_tos v_p1_lengths v_p1_kinds v_p1_figures)[9]? = some (q_p1_lengths, .inl (D.1 100, 8, .inl v_p1_lengths)) := rfl
theorem w_X7_takeOver_s9 {D : va_G} {q_this : Nat} {q_froms : Nat} {q_tos : Nat} {q_lengths : Nat} {q_kinds : Nat} {q_figures : Nat} {q_p1 : Nat} {q_p1_froms : Nat} {q_p1_tos : Nat} {q_p1_lengths : Nat} {q_p1_kinds : Nat} {q_p1_figures : Nat} {v_closed : Int32} {v_size : Int32} {v_home : Int32} {v_froms : (Nat → Int32)} {v_tos : (Nat → Int32)} {v_lengths : (Nat → Int32)} {v_kinds : (Nat → Int32)} {v_figures : (Nat → Int32)} {v_p1_closed : Int32} {v_p1_size : Int32} {v_p1_home : Int32} {v_p1_froms : (Nat → Int32)} {v_p1_tos : (Nat → Int32)} {v_p1_lengths : (Nat → Int32)} {v_p1_kinds : (Nat → Int32)} {v_p1_figures : (Nat → Int32)} {v_p1_lengths' : (Nat → Int32)} : (w_X7_takeOver D q_this q_froms q_tos q_lengths q_kinds q_figures q_p1 q_p1_froms q_p1_tos q_p1_lengths q_p1_kinds q_p1_figures v_closed v_size v_home v_froms v_tos v_lengths v_kinds v_figures v_p1_closed v_p1_size v_p1_home v_p1_froms v_p1_tos v_p1_lengths v_p1_kinds v_p1_figures).set 9 (q_p1_lengths, .inl (D.1 100, 8, .inl v_p1_lengths')) = (w_X7_takeOver D q_this q_froms q_tos q_lengths q_kinds q_figures q_p1 q_p1_froms q_p1_tos q_p1_lengths q_p1_kinds q_p1_figures v_closed v_size v_home v_froms v_tos v_lengths v_kinds v_figures v_p1_closed v_p1_size v_p1_home v_p1_froms v_p1_tos v_p1_lengths' v_p1_kinds v_p1_figures) := rfl
theorem w_X7_takeOver_g10 {D : va_G} {q_this : Nat} {q_froms : Nat} {q_tos : Nat} {q_lengths : Nat} {q_kinds : Nat} {q_figures : Nat} {q_p1 : Nat} {q_p1_froms : Nat} {q_p1_tos : Nat} {q_p1_lengths : Nat} {q_p1_kinds : Nat} {q_p1_figures : Nat} {v_closed : Int32} {v_size : Int32} {v_home : Int32} {v_froms : (Nat → Int32)} {v_tos : (Nat → Int32)} {v_lengths : (Nat → Int32)} {v_kinds : (Nat → Int32)} {v_figures : (Nat → Int32)} {v_p1_closed : Int32} {v_p1_size : Int32} {v_p1_home : Int32} {v_p1_froms : (Nat → Int32)} {v_p1_tos : (Nat → Int32)} {v_p1_lengths : (Nat → Int32)} {v_p1_kinds : (Nat → Int32)} {v_p1_figures : (Nat → Int32)} : (w_X7_takeOver D q_this q_froms q_tos q_lengths q_kinds q_figures q_p1 q_p1_froms q_p1_tos q_p1_lengths q_p1_kinds q_p1_figures v_closed v_size v_home v_froms v_tos v_lengths v_kinds v_figures v_p1_closed v_p1_size v_p1_home v_p1_froms v_p1_tos v_p1_lengths v_p1_kinds v_p1_figures)[10]? = some (q_p1_kinds, .inl (D.1 100, 8, .inl v_p1_kinds)) := rfl
theorem w_X7_takeOver_s10 {D : va_G} {q_this : Nat} {q_froms : Nat} {q_tos : Nat} {q_lengths : Nat} {q_kinds : Nat} {q_figures : Nat} {q_p1 : Nat} {q_p1_froms : Nat} {q_p1_tos : Nat} {q_p1_lengths : Nat} {q_p1_kinds : Nat} {q_p1_figures : Nat} {v_closed : Int32} {v_size : Int32} {v_home : Int32} {v_froms : (Nat → Int32)} {v_tos : (Nat → Int32)} {v_lengths : (Nat → Int32)} {v_kinds : (Nat → Int32)} {v_figures : (Nat → Int32)} {v_p1_closed : Int32} {v_p1_size : Int32} {v_p1_home : Int32} {v_p1_froms : (Nat → Int32)} {v_p1_tos : (Nat → Int32)} {v_p1_lengths : (Nat → Int32)} {v_p1_kinds : (Nat → Int32)} {v_p1_figures : (Nat → Int32)} {v_p1_kinds' : (Nat → Int32)} : (w_X7_takeOver D q_this q_froms q_tos q_lengths q_kinds q_figures q_p1 q_p1_froms q_p1_tos q_p1_lengths q_p1_kinds q_p1_figures v_closed v_size v_home v_froms v_tos v_lengths v_kinds v_figures v_p1_closed v_p1_size v_p1_home v_p1_froms v_p1_tos v_p1_lengths v_p1_kinds v_p1_figures).set 10 (q_p1_kinds, .inl (D.1 100, 8, .inl v_p1_kinds')) = (w_X7_takeOver D q_this q_froms q_tos q_lengths q_kinds q_figures q_p1 q_p1_froms q_p1_tos q_p1_lengths q_p1_kinds q_p1_figures v_closed v_size v_home v_froms v_tos v_lengths v_kinds v_figures v_p1_closed v_p1_size v_p1_home v_p1_froms v_p1_tos v_p1_lengths v_p1_kinds' v_p1_figures) := rfl
theorem w_X7_takeOver_g11 {D : va_G} {q_this : Nat} {q_froms : Nat} {q_tos : Nat} {q_lengths : Nat} {q_kinds : Nat} {q_figures : Nat} {q_p1 : Nat} {q_p1_froms : Nat} {q_p1_tos : Nat} {q_p1_lengths : Nat} {q_p1_kinds : Nat} {q_p1_figures : Nat} {v_closed : Int32} {v_size : Int32} {v_home : Int32} {v_froms : (Nat → Int32)} {v_tos : (Nat → Int32)} {v_lengths : (Nat → Int32)} {v_kinds : (Nat → Int32)} {v_figures : (Nat → Int32)} {v_p1_closed : Int32} {v_p1_size : Int32} {v_p1_home : Int32} {v_p1_froms : (Nat → Int32)} {v_p1_tos : (Nat → Int32)} {v_p1_lengths : (Nat → Int32)} {v_p1_kinds : (Nat → Int32)} {v_p1_figures : (Nat → Int32)} : (w_X7_takeOver D q_this q_froms q_tos q_lengths q_kinds q_figures q_p1 q_p1_froms q_p1_tos q_p1_lengths q_p1_kinds q_p1_figures v_closed v_size v_home v_froms v_tos v_lengths v_kinds v_figures v_p1_closed v_p1_size v_p1_home v_p1_froms v_p1_tos v_p1_lengths v_p1_kinds v_p1_figures)[11]? = some (q_p1_figures, .inl (D.1 100, 8, .inl v_p1_figures)) := rfl
theorem w_X7_takeOver_s11 {D : va_G} {q_this : Nat} {q_froms : Nat} {q_tos : Nat} {q_lengths : Nat} {q_kinds : Nat} {q_figures : Nat} {q_p1 : Nat} {q_p1_froms : Nat} {q_p1_tos : Nat} {q_p1_lengths : Nat} {q_p1_kinds : Nat} {q_p1_figures : Nat} {v_closed : Int32} {v_size : Int32} {v_home : Int32} {v_froms : (Nat → Int32)} {v_tos : (Nat → Int32)} {v_lengths : (Nat → Int32)} {v_kinds : (Nat → Int32)} {v_figures : (Nat → Int32)} {v_p1_closed : Int32} {v_p1_size : Int32} {v_p1_home : Int32} {v_p1_froms : (Nat → Int32)} {v_p1_tos : (Nat → Int32)} {v_p1_lengths : (Nat → Int32)} {v_p1_kinds : (Nat → Int32)} {v_p1_figures : (Nat → Int32)} {v_p1_figures' : (Nat → Int32)} : (w_X7_takeOver D q_this q_froms q_tos q_lengths q_kinds q_figures q_p1 q_p1_froms q_p1_tos q_p1_lengths q_p1_kinds q_p1_figures v_closed v_size v_home v_froms v_tos v_lengths v_kinds v_figures v_p1_closed v_p1_size v_p1_home v_p1_froms v_p1_tos v_p1_lengths v_p1_kinds v_p1_figures).set 11 (q_p1_figures, .inl (D.1 100, 8, .inl v_p1_figures')) = (w_X7_takeOver D q_this q_froms q_tos q_lengths q_kinds q_figures q_p1 q_p1_froms q_p1_tos q_p1_lengths q_p1_kinds q_p1_figures v_closed v_size v_home v_froms v_tos v_lengths v_kinds v_figures v_p1_closed v_p1_size v_p1_home v_p1_froms v_p1_tos v_p1_lengths v_p1_kinds v_p1_figures') := rfl
theorem w_X7_takeOver_a {D : va_G} {q_this : Nat} {q_froms : Nat} {q_tos : Nat} {q_lengths : Nat} {q_kinds : Nat} {q_figures : Nat} {q_p1 : Nat} {q_p1_froms : Nat} {q_p1_tos : Nat} {q_p1_lengths : Nat} {q_p1_kinds : Nat} {q_p1_figures : Nat} {v_closed : Int32} {v_size : Int32} {v_home : Int32} {v_froms : (Nat → Int32)} {v_tos : (Nat → Int32)} {v_lengths : (Nat → Int32)} {v_kinds : (Nat → Int32)} {v_figures : (Nat → Int32)} {v_p1_closed : Int32} {v_p1_size : Int32} {v_p1_home : Int32} {v_p1_froms : (Nat → Int32)} {v_p1_tos : (Nat → Int32)} {v_p1_lengths : (Nat → Int32)} {v_p1_kinds : (Nat → Int32)} {v_p1_figures : (Nat → Int32)} : (w_X7_takeOver D q_this q_froms q_tos q_lengths q_kinds q_figures q_p1 q_p1_froms q_p1_tos q_p1_lengths q_p1_kinds q_p1_figures v_closed v_size v_home v_froms v_tos v_lengths v_kinds v_figures v_p1_closed v_p1_size v_p1_home v_p1_froms v_p1_tos v_p1_lengths v_p1_kinds v_p1_figures).map (fun q => q.1) = [q_this, q_froms, q_tos, q_lengths, q_kinds, q_figures, q_p1, q_p1_froms, q_p1_tos, q_p1_lengths, q_p1_kinds, q_p1_figures] := rfl
def f_X7_takeOver (v_closed : Int32) (v_size : Int32) (v_home : Int32) (v_froms : (Nat → Int32)) (v_tos : (Nat → Int32)) (v_lengths : (Nat → Int32)) (v_kinds : (Nat → Int32)) (v_figures : (Nat → Int32)) (v_p1_closed : Int32) (v_p1_size : Int32) (v_p1_home : Int32) (v_p1_froms : (Nat → Int32)) (v_p1_tos : (Nat → Int32)) (v_p1_lengths : (Nat → Int32)) (v_p1_kinds : (Nat → Int32)) (v_p1_figures : (Nat → Int32)) : Option (Int32 × Int32 × Int32 × (Nat → Int32) × (Nat → Int32) × (Nat → Int32) × (Nat → Int32) × (Nat → Int32)) :=
  gcp (0 : Int32) (0 : Int32) (8 : Int32) 8 8 (gcp (0 : Int32) (0 : Int32) (8 : Int32) 8 8 (gcp (0 : Int32) (0 : Int32) (8 : Int32) 8 8 (gcp (0 : Int32) (0 : Int32) (8 : Int32) 8 8 (gcp (0 : Int32) (0 : Int32) (8 : Int32) 8 8 (some (v_p1_closed, v_p1_size, v_p1_home, va_cpy v_p1_froms v_froms (Int32.toNatClampNeg (0 : Int32)) (Int32.toNatClampNeg (0 : Int32)) (Int32.toNatClampNeg (8 : Int32)), va_cpy v_p1_tos v_tos (Int32.toNatClampNeg (0 : Int32)) (Int32.toNatClampNeg (0 : Int32)) (Int32.toNatClampNeg (8 : Int32)), va_cpy v_p1_lengths v_lengths (Int32.toNatClampNeg (0 : Int32)) (Int32.toNatClampNeg (0 : Int32)) (Int32.toNatClampNeg (8 : Int32)), va_cpy v_p1_kinds v_kinds (Int32.toNatClampNeg (0 : Int32)) (Int32.toNatClampNeg (0 : Int32)) (Int32.toNatClampNeg (8 : Int32)), va_cpy v_p1_figures v_figures (Int32.toNatClampNeg (0 : Int32)) (Int32.toNatClampNeg (0 : Int32)) (Int32.toNatClampNeg (8 : Int32))))))))
set_option maxRecDepth 100000 in
set_option maxHeartbeats 4000000 in
theorem c_X7_takeOver (l : Launch) (D : va_G) {q_this q_froms q_tos q_lengths q_kinds q_figures q_p1 q_p1_froms q_p1_tos q_p1_lengths q_p1_kinds q_p1_figures : Nat} {v_closed : Int32} {v_size : Int32} {v_home : Int32} {v_froms : (Nat → Int32)} {v_tos : (Nat → Int32)} {v_lengths : (Nat → Int32)} {v_kinds : (Nat → Int32)} {v_figures : (Nat → Int32)} {v_p1_closed : Int32} {v_p1_size : Int32} {v_p1_home : Int32} {v_p1_froms : (Nat → Int32)} {v_p1_tos : (Nat → Int32)} {v_p1_lengths : (Nat → Int32)} {v_p1_kinds : (Nat → Int32)} {v_p1_figures : (Nat → Int32)} {o : (Int32 × Int32 × Int32 × (Nat → Int32) × (Nat → Int32) × (Nat → Int32) × (Nat → Int32) × (Nat → Int32))} (h : f_X7_takeOver v_closed v_size v_home v_froms v_tos v_lengths v_kinds v_figures v_p1_closed v_p1_size v_p1_home v_p1_froms v_p1_tos v_p1_lengths v_p1_kinds v_p1_figures = some o) : CT l D yX7_takeOver cX7_takeOver 2 (Option.none : Option FieldType) 1 [.ref q_this, .ref q_p1] (w_X7_takeOver D q_this q_froms q_tos q_lengths q_kinds q_figures q_p1 q_p1_froms q_p1_tos q_p1_lengths q_p1_kinds q_p1_figures v_closed v_size v_home v_froms v_tos v_lengths v_kinds v_figures v_p1_closed v_p1_size v_p1_home v_p1_froms v_p1_tos v_p1_lengths v_p1_kinds v_p1_figures) (w_X7_takeOver D q_this q_froms q_tos q_lengths q_kinds q_figures q_p1 q_p1_froms q_p1_tos q_p1_lengths q_p1_kinds q_p1_figures o.1 o.2.1 o.2.2.1 o.2.2.2.1 o.2.2.2.2.1 o.2.2.2.2.2.1 o.2.2.2.2.2.2.1 o.2.2.2.2.2.2.2 v_p1_closed v_p1_size v_p1_home v_p1_froms v_p1_tos v_p1_lengths v_p1_kinds v_p1_figures) (none) := by
  refine CT.of mk_X7_takeOver (Nat.le_of_ble_eq_true rfl) (fun g hl hD C E => ?_)
  subst hl
  subst hD
  unfold f_X7_takeOver at h
  refine j_aload_n C dX7_takeOver_0 rfl ?_
  refine j_get C 6 w_X7_takeOver_g6 rfl inX7 0 (by decide) kw_36 rfl rfl dX7_takeOver_1 ?_
  refine j_iconst C (0) dX7_takeOver_4 ki_0 ?_
  refine j_aload_n C dX7_takeOver_5 rfl ?_
  refine j_get C 0 w_X7_takeOver_g0 rfl inX7 0 (by decide) kw_36 rfl rfl dX7_takeOver_6 ?_
  refine j_iconst C (0) dX7_takeOver_9 ki_0 ?_
  refine j_bipush C (8) dX7_takeOver_10 kb_8 ?_
  refine j_acopy 7 1 C h (by decide) kw_409 kw_411 kw_410 kw_15 w_X7_takeOver_g7 w_X7_takeOver_g1 rfl rfl (Nat.le_of_ble_eq_true rfl) dX7_takeOver_12 (fun h => ?_)
  refine j_ws w_X7_takeOver_s1 ?_
  refine j_aload_n C dX7_takeOver_15 rfl ?_
  refine j_get C 6 w_X7_takeOver_g6 rfl inX7 1 (by decide) kw_40 rfl rfl dX7_takeOver_16 ?_
  refine j_iconst C (0) dX7_takeOver_19 ki_0 ?_
  refine j_aload_n C dX7_takeOver_20 rfl ?_
  refine j_get C 0 w_X7_takeOver_g0 rfl inX7 1 (by decide) kw_40 rfl rfl dX7_takeOver_21 ?_
  refine j_iconst C (0) dX7_takeOver_24 ki_0 ?_
  refine j_bipush C (8) dX7_takeOver_25 kb_8 ?_
  refine j_acopy 8 2 C h (by decide) kw_409 kw_411 kw_410 kw_15 w_X7_takeOver_g8 w_X7_takeOver_g2 rfl rfl (Nat.le_of_ble_eq_true rfl) dX7_takeOver_27 (fun h => ?_)
  refine j_ws w_X7_takeOver_s2 ?_
  refine j_aload_n C dX7_takeOver_30 rfl ?_
  refine j_get C 6 w_X7_takeOver_g6 rfl inX7 2 (by decide) kw_44 rfl rfl dX7_takeOver_31 ?_
  refine j_iconst C (0) dX7_takeOver_34 ki_0 ?_
  refine j_aload_n C dX7_takeOver_35 rfl ?_
  refine j_get C 0 w_X7_takeOver_g0 rfl inX7 2 (by decide) kw_44 rfl rfl dX7_takeOver_36 ?_
  refine j_iconst C (0) dX7_takeOver_39 ki_0 ?_
  refine j_bipush C (8) dX7_takeOver_40 kb_8 ?_
  refine j_acopy 9 3 C h (by decide) kw_409 kw_411 kw_410 kw_15 w_X7_takeOver_g9 w_X7_takeOver_g3 rfl rfl (Nat.le_of_ble_eq_true rfl) dX7_takeOver_42 (fun h => ?_)
  refine j_ws w_X7_takeOver_s3 ?_
  refine j_aload_n C dX7_takeOver_45 rfl ?_
  refine j_get C 6 w_X7_takeOver_g6 rfl inX7 3 (by decide) kw_47 rfl rfl dX7_takeOver_46 ?_
  refine j_iconst C (0) dX7_takeOver_49 ki_0 ?_
  refine j_aload_n C dX7_takeOver_50 rfl ?_
  refine j_get C 0 w_X7_takeOver_g0 rfl inX7 3 (by decide) kw_47 rfl rfl dX7_takeOver_51 ?_
  refine j_iconst C (0) dX7_takeOver_54 ki_0 ?_
  refine j_bipush C (8) dX7_takeOver_55 kb_8 ?_
  refine j_acopy 10 4 C h (by decide) kw_409 kw_411 kw_410 kw_15 w_X7_takeOver_g10 w_X7_takeOver_g4 rfl rfl (Nat.le_of_ble_eq_true rfl) dX7_takeOver_57 (fun h => ?_)
  refine j_ws w_X7_takeOver_s4 ?_
  refine j_aload_n C dX7_takeOver_60 rfl ?_
  refine j_get C 6 w_X7_takeOver_g6 rfl inX7 4 (by decide) kw_50 rfl rfl dX7_takeOver_61 ?_
  refine j_iconst C (0) dX7_takeOver_64 ki_0 ?_
  refine j_aload_n C dX7_takeOver_65 rfl ?_
  refine j_get C 0 w_X7_takeOver_g0 rfl inX7 4 (by decide) kw_50 rfl rfl dX7_takeOver_66 ?_
  refine j_iconst C (0) dX7_takeOver_69 ki_0 ?_
  refine j_bipush C (8) dX7_takeOver_70 kb_8 ?_
  refine j_acopy 11 5 C h (by decide) kw_409 kw_411 kw_410 kw_15 w_X7_takeOver_g11 w_X7_takeOver_g5 rfl rfl (Nat.le_of_ble_eq_true rfl) dX7_takeOver_72 (fun h => ?_)
  refine j_ws w_X7_takeOver_s5 ?_
  refine j_aload_n C dX7_takeOver_75 rfl ?_
  refine j_aload_n C dX7_takeOver_76 rfl ?_
  refine j_get C 6 w_X7_takeOver_g6 rfl inX7 5 (by decide) kw_53 rfl rfl dX7_takeOver_77 ?_
  refine j_put C 0 w_X7_takeOver_g0 rfl inX7 tyX7_ok nmX7 5 (by decide) kw_53 rfl rfl rfl rfl (Nat.le_of_ble_eq_true rfl) dX7_takeOver_80 ?_
  refine j_ws w_X7_takeOver_s0 ?_
  refine j_aload_n C dX7_takeOver_83 rfl ?_
  refine j_aload_n C dX7_takeOver_84 rfl ?_
  refine j_get C 6 w_X7_takeOver_g6 rfl inX7 6 (by decide) kw_54 rfl rfl dX7_takeOver_85 ?_
  refine j_put C 0 w_X7_takeOver_g0 rfl inX7 tyX7_ok nmX7 6 (by decide) kw_54 rfl rfl rfl rfl (Nat.le_of_ble_eq_true rfl) dX7_takeOver_88 ?_
  refine j_ws w_X7_takeOver_s0 ?_
  refine j_aload_n C dX7_takeOver_91 rfl ?_
  refine j_aload_n C dX7_takeOver_92 rfl ?_
  refine j_get C 6 w_X7_takeOver_g6 rfl inX7 7 (by decide) kw_59 rfl rfl dX7_takeOver_93 ?_
  refine j_put C 0 w_X7_takeOver_g0 rfl inX7 tyX7_ok nmX7 7 (by decide) kw_59 rfl rfl rfl rfl (Nat.le_of_ble_eq_true rfl) dX7_takeOver_96 ?_
  refine j_ws w_X7_takeOver_s0 ?_
  have h := Option.some.inj h
  subst h
  exact j_vret C E dX7_takeOver_99

def w_X7_isLike (D : va_G) (q_this q_froms q_tos q_lengths q_kinds q_figures q_p1 q_p1_froms q_p1_tos q_p1_lengths q_p1_kinds q_p1_figures : Nat) (v_closed : Int32) (v_size : Int32) (v_home : Int32) (v_froms : (Nat → Int32)) (v_tos : (Nat → Int32)) (v_lengths : (Nat → Int32)) (v_kinds : (Nat → Int32)) (v_figures : (Nat → Int32)) (v_p1_closed : Int32) (v_p1_size : Int32) (v_p1_home : Int32) (v_p1_froms : (Nat → Int32)) (v_p1_tos : (Nat → Int32)) (v_p1_lengths : (Nat → Int32)) (v_p1_kinds : (Nat → Int32)) (v_p1_figures : (Nat → Int32)) : va_W := [(q_this, .inr (6, [.ref q_froms, .ref q_tos, .ref q_lengths, .ref q_kinds, .ref q_figures, .int v_closed, .int v_size, .int v_home])), (q_froms, .inl (D.1 100, 8, .inl v_froms)), (q_tos, .inl (D.1 100, 8, .inl v_tos)), (q_lengths, .inl (D.1 100, 8, .inl v_lengths)), (q_kinds, .inl (D.1 100, 8, .inl v_kinds)), (q_figures, .inl (D.1 100, 8, .inl v_figures)), (q_p1, .inr (6, [.ref q_p1_froms, .ref q_p1_tos, .ref q_p1_lengths, .ref q_p1_kinds, .ref q_p1_figures, .int v_p1_closed, .int v_p1_size, .int v_p1_home])), (q_p1_froms, .inl (D.1 100, 8, .inl v_p1_froms)), (q_p1_tos, .inl (D.1 100, 8, .inl v_p1_tos)), (q_p1_lengths, .inl (D.1 100, 8, .inl v_p1_lengths)), (q_p1_kinds, .inl (D.1 100, 8, .inl v_p1_kinds)), (q_p1_figures, .inl (D.1 100, 8, .inl v_p1_figures))]
theorem w_X7_isLike_g0 {D : va_G} {q_this : Nat} {q_froms : Nat} {q_tos : Nat} {q_lengths : Nat} {q_kinds : Nat} {q_figures : Nat} {q_p1 : Nat} {q_p1_froms : Nat} {q_p1_tos : Nat} {q_p1_lengths : Nat} {q_p1_kinds : Nat} {q_p1_figures : Nat} {v_closed : Int32} {v_size : Int32} {v_home : Int32} {v_froms : (Nat → Int32)} {v_tos : (Nat → Int32)} {v_lengths : (Nat → Int32)} {v_kinds : (Nat → Int32)} {v_figures : (Nat → Int32)} {v_p1_closed : Int32} {v_p1_size : Int32} {v_p1_home : Int32} {v_p1_froms : (Nat → Int32)} {v_p1_tos : (Nat → Int32)} {v_p1_lengths : (Nat → Int32)} {v_p1_kinds : (Nat → Int32)} {v_p1_figures : (Nat → Int32)} : (w_X7_isLike D q_this q_froms q_tos q_lengths q_kinds q_figures q_p1 q_p1_froms q_p1_tos q_p1_lengths q_p1_kinds q_p1_figures v_closed v_size v_home v_froms v_tos v_lengths v_kinds v_figures v_p1_closed v_p1_size v_p1_home v_p1_froms v_p1_tos v_p1_lengths v_p1_kinds v_p1_figures)[0]? = some (q_this, .inr (6, [.ref q_froms, .ref q_tos, .ref q_lengths, .ref q_kinds, .ref q_figures, .int v_closed, .int v_size, .int v_home])) := rfl
theorem w_X7_isLike_s0 {D : va_G} {q_this : Nat} {q_froms : Nat} {q_tos : Nat} {q_lengths : Nat} {q_kinds : Nat} {q_figures : Nat} {q_p1 : Nat} {q_p1_froms : Nat} {q_p1_tos : Nat} {q_p1_lengths : Nat} {q_p1_kinds : Nat} {q_p1_figures : Nat} {v_closed : Int32} {v_size : Int32} {v_home : Int32} {v_froms : (Nat → Int32)} {v_tos : (Nat → Int32)} {v_lengths : (Nat → Int32)} {v_kinds : (Nat → Int32)} {v_figures : (Nat → Int32)} {v_p1_closed : Int32} {v_p1_size : Int32} {v_p1_home : Int32} {v_p1_froms : (Nat → Int32)} {v_p1_tos : (Nat → Int32)} {v_p1_lengths : (Nat → Int32)} {v_p1_kinds : (Nat → Int32)} {v_p1_figures : (Nat → Int32)} {v_closed' : Int32} {v_size' : Int32} {v_home' : Int32} : (w_X7_isLike D q_this q_froms q_tos q_lengths q_kinds q_figures q_p1 q_p1_froms q_p1_tos q_p1_lengths q_p1_kinds q_p1_figures v_closed v_size v_home v_froms v_tos v_lengths v_kinds v_figures v_p1_closed v_p1_size v_p1_home v_p1_froms v_p1_tos v_p1_lengths v_p1_kinds v_p1_figures).set 0 (q_this, .inr (6, [.ref q_froms, .ref q_tos, .ref q_lengths, .ref q_kinds, .ref q_figures, .int v_closed', .int v_size', .int v_home'])) = (w_X7_isLike D q_this q_froms q_tos q_lengths q_kinds q_figures q_p1 q_p1_froms q_p1_tos q_p1_lengths q_p1_kinds q_p1_figures v_closed' v_size' v_home' v_froms v_tos v_lengths v_kinds v_figures v_p1_closed v_p1_size v_p1_home v_p1_froms v_p1_tos v_p1_lengths v_p1_kinds v_p1_figures) := rfl
theorem w_X7_isLike_g1 {D : va_G} {q_this : Nat} {q_froms : Nat} {q_tos : Nat} {q_lengths : Nat} {q_kinds : Nat} {q_figures : Nat} {q_p1 : Nat} {q_p1_froms : Nat} {q_p1_tos : Nat} {q_p1_lengths : Nat} {q_p1_kinds : Nat} {q_p1_figures : Nat} {v_closed : Int32} {v_size : Int32} {v_home : Int32} {v_froms : (Nat → Int32)} {v_tos : (Nat → Int32)} {v_lengths : (Nat → Int32)} {v_kinds : (Nat → Int32)} {v_figures : (Nat → Int32)} {v_p1_closed : Int32} {v_p1_size : Int32} {v_p1_home : Int32} {v_p1_froms : (Nat → Int32)} {v_p1_tos : (Nat → Int32)} {v_p1_lengths : (Nat → Int32)} {v_p1_kinds : (Nat → Int32)} {v_p1_figures : (Nat → Int32)} : (w_X7_isLike D q_this q_froms q_tos q_lengths q_kinds q_figures q_p1 q_p1_froms q_p1_tos q_p1_lengths q_p1_kinds q_p1_figures v_closed v_size v_home v_froms v_tos v_lengths v_kinds v_figures v_p1_closed v_p1_size v_p1_home v_p1_froms v_p1_tos v_p1_lengths v_p1_kinds v_p1_figures)[1]? = some (q_froms, .inl (D.1 100, 8, .inl v_froms)) := rfl
theorem w_X7_isLike_s1 {D : va_G} {q_this : Nat} {q_froms : Nat} {q_tos : Nat} {q_lengths : Nat} {q_kinds : Nat} {q_figures : Nat} {q_p1 : Nat} {q_p1_froms : Nat} {q_p1_tos : Nat} {q_p1_lengths : Nat} {q_p1_kinds : Nat} {q_p1_figures : Nat} {v_closed : Int32} {v_size : Int32} {v_home : Int32} {v_froms : (Nat → Int32)} {v_tos : (Nat → Int32)} {v_lengths : (Nat → Int32)} {v_kinds : (Nat → Int32)} {v_figures : (Nat → Int32)} {v_p1_closed : Int32} {v_p1_size : Int32} {v_p1_home : Int32} {v_p1_froms : (Nat → Int32)} {v_p1_tos : (Nat → Int32)} {v_p1_lengths : (Nat → Int32)} {v_p1_kinds : (Nat → Int32)} {v_p1_figures : (Nat → Int32)} {v_froms' : (Nat → Int32)} : (w_X7_isLike D q_this q_froms q_tos q_lengths q_kinds q_figures q_p1 q_p1_froms q_p1_tos q_p1_lengths q_p1_kinds q_p1_figures v_closed v_size v_home v_froms v_tos v_lengths v_kinds v_figures v_p1_closed v_p1_size v_p1_home v_p1_froms v_p1_tos v_p1_lengths v_p1_kinds v_p1_figures).set 1 (q_froms, .inl (D.1 100, 8, .inl v_froms')) = (w_X7_isLike D q_this q_froms q_tos q_lengths q_kinds q_figures q_p1 q_p1_froms q_p1_tos q_p1_lengths q_p1_kinds q_p1_figures v_closed v_size v_home v_froms' v_tos v_lengths v_kinds v_figures v_p1_closed v_p1_size v_p1_home v_p1_froms v_p1_tos v_p1_lengths v_p1_kinds v_p1_figures) := rfl
theorem w_X7_isLike_g2 {D : va_G} {q_this : Nat} {q_froms : Nat} {q_tos : Nat} {q_lengths : Nat} {q_kinds : Nat} {q_figures : Nat} {q_p1 : Nat} {q_p1_froms : Nat} {q_p1_tos : Nat} {q_p1_lengths : Nat} {q_p1_kinds : Nat} {q_p1_figures : Nat} {v_closed : Int32} {v_size : Int32} {v_home : Int32} {v_froms : (Nat → Int32)} {v_tos : (Nat → Int32)} {v_lengths : (Nat → Int32)} {v_kinds : (Nat → Int32)} {v_figures : (Nat → Int32)} {v_p1_closed : Int32} {v_p1_size : Int32} {v_p1_home : Int32} {v_p1_froms : (Nat → Int32)} {v_p1_tos : (Nat → Int32)} {v_p1_lengths : (Nat → Int32)} {v_p1_kinds : (Nat → Int32)} {v_p1_figures : (Nat → Int32)} : (w_X7_isLike D q_this q_froms q_tos q_lengths q_kinds q_figures q_p1 q_p1_froms q_p1_tos q_p1_lengths q_p1_kinds q_p1_figures v_closed v_size v_home v_froms v_tos v_lengths v_kinds v_figures v_p1_closed v_p1_size v_p1_home v_p1_froms v_p1_tos v_p1_lengths v_p1_kinds v_p1_figures)[2]? = some (q_tos, .inl (D.1 100, 8, .inl v_tos)) := rfl
theorem w_X7_isLike_s2 {D : va_G} {q_this : Nat} {q_froms : Nat} {q_tos : Nat} {q_lengths : Nat} {q_kinds : Nat} {q_figures : Nat} {q_p1 : Nat} {q_p1_froms : Nat} {q_p1_tos : Nat} {q_p1_lengths : Nat} {q_p1_kinds : Nat} {q_p1_figures : Nat} {v_closed : Int32} {v_size : Int32} {v_home : Int32} {v_froms : (Nat → Int32)} {v_tos : (Nat → Int32)} {v_lengths : (Nat → Int32)} {v_kinds : (Nat → Int32)} {v_figures : (Nat → Int32)} {v_p1_closed : Int32} {v_p1_size : Int32} {v_p1_home : Int32} {v_p1_froms : (Nat → Int32)} {v_p1_tos : (Nat → Int32)} {v_p1_lengths : (Nat → Int32)} {v_p1_kinds : (Nat → Int32)} {v_p1_figures : (Nat → Int32)} {v_tos' : (Nat → Int32)} : (w_X7_isLike D q_this q_froms q_tos q_lengths q_kinds q_figures q_p1 q_p1_froms q_p1_tos q_p1_lengths q_p1_kinds q_p1_figures v_closed v_size v_home v_froms v_tos v_lengths v_kinds v_figures v_p1_closed v_p1_size v_p1_home v_p1_froms v_p1_tos v_p1_lengths v_p1_kinds v_p1_figures).set 2 (q_tos, .inl (D.1 100, 8, .inl v_tos')) = (w_X7_isLike D q_this q_froms q_tos q_lengths q_kinds q_figures q_p1 q_p1_froms q_p1_tos q_p1_lengths q_p1_kinds q_p1_figures v_closed v_size v_home v_froms v_tos' v_lengths v_kinds v_figures v_p1_closed v_p1_size v_p1_home v_p1_froms v_p1_tos v_p1_lengths v_p1_kinds v_p1_figures) := rfl
theorem w_X7_isLike_g3 {D : va_G} {q_this : Nat} {q_froms : Nat} {q_tos : Nat} {q_lengths : Nat} {q_kinds : Nat} {q_figures : Nat} {q_p1 : Nat} {q_p1_froms : Nat} {q_p1_tos : Nat} {q_p1_lengths : Nat} {q_p1_kinds : Nat} {q_p1_figures : Nat} {v_closed : Int32} {v_size : Int32} {v_home : Int32} {v_froms : (Nat → Int32)} {v_tos : (Nat → Int32)} {v_lengths : (Nat → Int32)} {v_kinds : (Nat → Int32)} {v_figures : (Nat → Int32)} {v_p1_closed : Int32} {v_p1_size : Int32} {v_p1_home : Int32} {v_p1_froms : (Nat → Int32)} {v_p1_tos : (Nat → Int32)} {v_p1_lengths : (Nat → Int32)} {v_p1_kinds : (Nat → Int32)} {v_p1_figures : (Nat → Int32)} : (w_X7_isLike D q_this q_froms q_tos q_lengths q_kinds q_figures q_p1 q_p1_froms q_p1_tos q_p1_lengths q_p1_kinds q_p1_figures v_closed v_size v_home v_froms v_tos v_lengths v_kinds v_figures v_p1_closed v_p1_size v_p1_home v_p1_froms v_p1_tos v_p1_lengths v_p1_kinds v_p1_figures)[3]? = some (q_lengths, .inl (D.1 100, 8, .inl v_lengths)) := rfl
theorem w_X7_isLike_s3 {D : va_G} {q_this : Nat} {q_froms : Nat} {q_tos : Nat} {q_lengths : Nat} {q_kinds : Nat} {q_figures : Nat} {q_p1 : Nat} {q_p1_froms : Nat} {q_p1_tos : Nat} {q_p1_lengths : Nat} {q_p1_kinds : Nat} {q_p1_figures : Nat} {v_closed : Int32} {v_size : Int32} {v_home : Int32} {v_froms : (Nat → Int32)} {v_tos : (Nat → Int32)} {v_lengths : (Nat → Int32)} {v_kinds : (Nat → Int32)} {v_figures : (Nat → Int32)} {v_p1_closed : Int32} {v_p1_size : Int32} {v_p1_home : Int32} {v_p1_froms : (Nat → Int32)} {v_p1_tos : (Nat → Int32)} {v_p1_lengths : (Nat → Int32)} {v_p1_kinds : (Nat → Int32)} {v_p1_figures : (Nat → Int32)} {v_lengths' : (Nat → Int32)} : (w_X7_isLike D q_this q_froms q_tos q_lengths q_kinds q_figures q_p1 q_p1_froms q_p1_tos q_p1_lengths q_p1_kinds q_p1_figures v_closed v_size v_home v_froms v_tos v_lengths v_kinds v_figures v_p1_closed v_p1_size v_p1_home v_p1_froms v_p1_tos v_p1_lengths v_p1_kinds v_p1_figures).set 3 (q_lengths, .inl (D.1 100, 8, .inl v_lengths')) = (w_X7_isLike D q_this q_froms q_tos q_lengths q_kinds q_figures q_p1 q_p1_froms q_p1_tos q_p1_lengths q_p1_kinds q_p1_figures v_closed v_size v_home v_froms v_tos v_lengths' v_kinds v_figures v_p1_closed v_p1_size v_p1_home v_p1_froms v_p1_tos v_p1_lengths v_p1_kinds v_p1_figures) := rfl
theorem w_X7_isLike_g4 {D : va_G} {q_this : Nat} {q_froms : Nat} {q_tos : Nat} {q_lengths : Nat} {q_kinds : Nat} {q_figures : Nat} {q_p1 : Nat} {q_p1_froms : Nat} {q_p1_tos : Nat} {q_p1_lengths : Nat} {q_p1_kinds : Nat} {q_p1_figures : Nat} {v_closed : Int32} {v_size : Int32} {v_home : Int32} {v_froms : (Nat → Int32)} {v_tos : (Nat → Int32)} {v_lengths : (Nat → Int32)} {v_kinds : (Nat → Int32)} {v_figures : (Nat → Int32)} {v_p1_closed : Int32} {v_p1_size : Int32} {v_p1_home : Int32} {v_p1_froms : (Nat → Int32)} {v_p1_tos : (Nat → Int32)} {v_p1_lengths : (Nat → Int32)} {v_p1_kinds : (Nat → Int32)} {v_p1_figures : (Nat → Int32)} : (w_X7_isLike D q_this q_froms q_tos q_lengths q_kinds q_figures q_p1 q_p1_froms q_p1_tos q_p1_lengths q_p1_kinds q_p1_figures v_closed v_size v_home v_froms v_tos v_lengths v_kinds v_figures v_p1_closed v_p1_size v_p1_home v_p1_froms v_p1_tos v_p1_lengths v_p1_kinds v_p1_figures)[4]? = some (q_kinds, .inl (D.1 100, 8, .inl v_kinds)) := rfl
theorem w_X7_isLike_s4 {D : va_G} {q_this : Nat} {q_froms : Nat} {q_tos : Nat} {q_lengths : Nat} {q_kinds : Nat} {q_figures : Nat} {q_p1 : Nat} {q_p1_froms : Nat} {q_p1_tos : Nat} {q_p1_lengths : Nat} {q_p1_kinds : Nat} {q_p1_figures : Nat} {v_closed : Int32} {v_size : Int32} {v_home : Int32} {v_froms : (Nat → Int32)} {v_tos : (Nat → Int32)} {v_lengths : (Nat → Int32)} {v_kinds : (Nat → Int32)} {v_figures : (Nat → Int32)} {v_p1_closed : Int32} {v_p1_size : Int32} {v_p1_home : Int32} {v_p1_froms : (Nat → Int32)} {v_p1_tos : (Nat → Int32)} {v_p1_lengths : (Nat → Int32)} {v_p1_kinds : (Nat → Int32)} {v_p1_figures : (Nat → Int32)} {v_kinds' : (Nat → Int32)} : (w_X7_isLike D q_this q_froms q_tos q_lengths q_kinds q_figures q_p1 q_p1_froms q_p1_tos q_p1_lengths q_p1_kinds q_p1_figures v_closed v_size v_home v_froms v_tos v_lengths v_kinds v_figures v_p1_closed v_p1_size v_p1_home v_p1_froms v_p1_tos v_p1_lengths v_p1_kinds v_p1_figures).set 4 (q_kinds, .inl (D.1 100, 8, .inl v_kinds')) = (w_X7_isLike D q_this q_froms q_tos q_lengths q_kinds q_figures q_p1 q_p1_froms q_p1_tos q_p1_lengths q_p1_kinds q_p1_figures v_closed v_size v_home v_froms v_tos v_lengths v_kinds' v_figures v_p1_closed v_p1_size v_p1_home v_p1_froms v_p1_tos v_p1_lengths v_p1_kinds v_p1_figures) := rfl
theorem w_X7_isLike_g5 {D : va_G} {q_this : Nat} {q_froms : Nat} {q_tos : Nat} {q_lengths : Nat} {q_kinds : Nat} {q_figures : Nat} {q_p1 : Nat} {q_p1_froms : Nat} {q_p1_tos : Nat} {q_p1_lengths : Nat} {q_p1_kinds : Nat} {q_p1_figures : Nat} {v_closed : Int32} {v_size : Int32} {v_home : Int32} {v_froms : (Nat → Int32)} {v_tos : (Nat → Int32)} {v_lengths : (Nat → Int32)} {v_kinds : (Nat → Int32)} {v_figures : (Nat → Int32)} {v_p1_closed : Int32} {v_p1_size : Int32} {v_p1_home : Int32} {v_p1_froms : (Nat → Int32)} {v_p1_tos : (Nat → Int32)} {v_p1_lengths : (Nat → Int32)} {v_p1_kinds : (Nat → Int32)} {v_p1_figures : (Nat → Int32)} : (w_X7_isLike D q_this q_froms q_tos q_lengths q_kinds q_figures q_p1 q_p1_froms q_p1_tos q_p1_lengths q_p1_kinds q_p1_figures v_closed v_size v_home v_froms v_tos v_lengths v_kinds v_figures v_p1_closed v_p1_size v_p1_home v_p1_froms v_p1_tos v_p1_lengths v_p1_kinds v_p1_figures)[5]? = some (q_figures, .inl (D.1 100, 8, .inl v_figures)) := rfl
theorem w_X7_isLike_s5 {D : va_G} {q_this : Nat} {q_froms : Nat} {q_tos : Nat} {q_lengths : Nat} {q_kinds : Nat} {q_figures : Nat} {q_p1 : Nat} {q_p1_froms : Nat} {q_p1_tos : Nat} {q_p1_lengths : Nat} {q_p1_kinds : Nat} {q_p1_figures : Nat} {v_closed : Int32} {v_size : Int32} {v_home : Int32} {v_froms : (Nat → Int32)} {v_tos : (Nat → Int32)} {v_lengths : (Nat → Int32)} {v_kinds : (Nat → Int32)} {v_figures : (Nat → Int32)} {v_p1_closed : Int32} {v_p1_size : Int32} {v_p1_home : Int32} {v_p1_froms : (Nat → Int32)} {v_p1_tos : (Nat → Int32)} {v_p1_lengths : (Nat → Int32)} {v_p1_kinds : (Nat → Int32)} {v_p1_figures : (Nat → Int32)} {v_figures' : (Nat → Int32)} : (w_X7_isLike D q_this q_froms q_tos q_lengths q_kinds q_figures q_p1 q_p1_froms q_p1_tos q_p1_lengths q_p1_kinds q_p1_figures v_closed v_size v_home v_froms v_tos v_lengths v_kinds v_figures v_p1_closed v_p1_size v_p1_home v_p1_froms v_p1_tos v_p1_lengths v_p1_kinds v_p1_figures).set 5 (q_figures, .inl (D.1 100, 8, .inl v_figures')) = (w_X7_isLike D q_this q_froms q_tos q_lengths q_kinds q_figures q_p1 q_p1_froms q_p1_tos q_p1_lengths q_p1_kinds q_p1_figures v_closed v_size v_home v_froms v_tos v_lengths v_kinds v_figures' v_p1_closed v_p1_size v_p1_home v_p1_froms v_p1_tos v_p1_lengths v_p1_kinds v_p1_figures) := rfl
theorem w_X7_isLike_g6 {D : va_G} {q_this : Nat} {q_froms : Nat} {q_tos : Nat} {q_lengths : Nat} {q_kinds : Nat} {q_figures : Nat} {q_p1 : Nat} {q_p1_froms : Nat} {q_p1_tos : Nat} {q_p1_lengths : Nat} {q_p1_kinds : Nat} {q_p1_figures : Nat} {v_closed : Int32} {v_size : Int32} {v_home : Int32} {v_froms : (Nat → Int32)} {v_tos : (Nat → Int32)} {v_lengths : (Nat → Int32)} {v_kinds : (Nat → Int32)} {v_figures : (Nat → Int32)} {v_p1_closed : Int32} {v_p1_size : Int32} {v_p1_home : Int32} {v_p1_froms : (Nat → Int32)} {v_p1_tos : (Nat → Int32)} {v_p1_lengths : (Nat → Int32)} {v_p1_kinds : (Nat → Int32)} {v_p1_figures : (Nat → Int32)} : (w_X7_isLike D q_this q_froms q_tos q_lengths q_kinds q_figures q_p1 q_p1_froms q_p1_tos q_p1_lengths q_p1_kinds q_p1_figures v_closed v_size v_home v_froms v_tos v_lengths v_kinds v_figures v_p1_closed v_p1_size v_p1_home v_p1_froms v_p1_tos v_p1_lengths v_p1_kinds v_p1_figures)[6]? = some (q_p1, .inr (6, [.ref q_p1_froms, .ref q_p1_tos, .ref q_p1_lengths, .ref q_p1_kinds, .ref q_p1_figures, .int v_p1_closed, .int v_p1_size, .int v_p1_home])) := rfl
theorem w_X7_isLike_s6 {D : va_G} {q_this : Nat} {q_froms : Nat} {q_tos : Nat} {q_lengths : Nat} {q_kinds : Nat} {q_figures : Nat} {q_p1 : Nat} {q_p1_froms : Nat} {q_p1_tos : Nat} {q_p1_lengths : Nat} {q_p1_kinds : Nat} {q_p1_figures : Nat} {v_closed : Int32} {v_size : Int32} {v_home : Int32} {v_froms : (Nat → Int32)} {v_tos : (Nat → Int32)} {v_lengths : (Nat → Int32)} {v_kinds : (Nat → Int32)} {v_figures : (Nat → Int32)} {v_p1_closed : Int32} {v_p1_size : Int32} {v_p1_home : Int32} {v_p1_froms : (Nat → Int32)} {v_p1_tos : (Nat → Int32)} {v_p1_lengths : (Nat → Int32)} {v_p1_kinds : (Nat → Int32)} {v_p1_figures : (Nat → Int32)} {v_p1_closed' : Int32} {v_p1_size' : Int32} {v_p1_home' : Int32} : (w_X7_isLike D q_this q_froms q_tos q_lengths q_kinds q_figures q_p1 q_p1_froms q_p1_tos q_p1_lengths q_p1_kinds q_p1_figures v_closed v_size v_home v_froms v_tos v_lengths v_kinds v_figures v_p1_closed v_p1_size v_p1_home v_p1_froms v_p1_tos v_p1_lengths v_p1_kinds v_p1_figures).set 6 (q_p1, .inr (6, [.ref q_p1_froms, .ref q_p1_tos, .ref q_p1_lengths, .ref q_p1_kinds, .ref q_p1_figures, .int v_p1_closed', .int v_p1_size', .int v_p1_home'])) = (w_X7_isLike D q_this q_froms q_tos q_lengths q_kinds q_figures q_p1 q_p1_froms q_p1_tos q_p1_lengths q_p1_kinds q_p1_figures v_closed v_size v_home v_froms v_tos v_lengths v_kinds v_figures v_p1_closed' v_p1_size' v_p1_home' v_p1_froms v_p1_tos v_p1_lengths v_p1_kinds v_p1_figures) := rfl
theorem w_X7_isLike_g7 {D : va_G} {q_this : Nat} {q_froms : Nat} {q_tos : Nat} {q_lengths : Nat} {q_kinds : Nat} {q_figures : Nat} {q_p1 : Nat} {q_p1_froms : Nat} {q_p1_tos : Nat} {q_p1_lengths : Nat} {q_p1_kinds : Nat} {q_p1_figures : Nat} {v_closed : Int32} {v_size : Int32} {v_home : Int32} {v_froms : (Nat → Int32)} {v_tos : (Nat → Int32)} {v_lengths : (Nat → Int32)} {v_kinds : (Nat → Int32)} {v_figures : (Nat → Int32)} {v_p1_closed : Int32} {v_p1_size : Int32} {v_p1_home : Int32} {v_p1_froms : (Nat → Int32)} {v_p1_tos : (Nat → Int32)} {v_p1_lengths : (Nat → Int32)} {v_p1_kinds : (Nat → Int32)} {v_p1_figures : (Nat → Int32)} : (w_X7_isLike D q_this q_froms q_tos q_lengths q_kinds q_figures q_p1 q_p1_froms q_p1_tos q_p1_lengths q_p1_kinds q_p1_figures v_closed v_size v_home v_froms v_tos v_lengths v_kinds v_figures v_p1_closed v_p1_size v_p1_home v_p1_froms v_p1_tos v_p1_lengths v_p1_kinds v_p1_figures)[7]? = some (q_p1_froms, .inl (D.1 100, 8, .inl v_p1_froms)) := rfl
theorem w_X7_isLike_s7 {D : va_G} {q_this : Nat} {q_froms : Nat} {q_tos : Nat} {q_lengths : Nat} {q_kinds : Nat} {q_figures : Nat} {q_p1 : Nat} {q_p1_froms : Nat} {q_p1_tos : Nat} {q_p1_lengths : Nat} {q_p1_kinds : Nat} {q_p1_figures : Nat} {v_closed : Int32} {v_size : Int32} {v_home : Int32} {v_froms : (Nat → Int32)} {v_tos : (Nat → Int32)} {v_lengths : (Nat → Int32)} {v_kinds : (Nat → Int32)} {v_figures : (Nat → Int32)} {v_p1_closed : Int32} {v_p1_size : Int32} {v_p1_home : Int32} {v_p1_froms : (Nat → Int32)} {v_p1_tos : (Nat → Int32)} {v_p1_lengths : (Nat → Int32)} {v_p1_kinds : (Nat → Int32)} {v_p1_figures : (Nat → Int32)} {v_p1_froms' : (Nat → Int32)} : (w_X7_isLike D q_this q_froms q_tos q_lengths q_kinds q_figures q_p1 q_p1_froms q_p1_tos q_p1_lengths q_p1_kinds q_p1_figures v_closed v_size v_home v_froms v_tos v_lengths v_kinds v_figures v_p1_closed v_p1_size v_p1_home v_p1_froms v_p1_tos v_p1_lengths v_p1_kinds v_p1_figures).set 7 (q_p1_froms, .inl (D.1 100, 8, .inl v_p1_froms')) = (w_X7_isLike D q_this q_froms q_tos q_lengths q_kinds q_figures q_p1 q_p1_froms q_p1_tos q_p1_lengths q_p1_kinds q_p1_figures v_closed v_size v_home v_froms v_tos v_lengths v_kinds v_figures v_p1_closed v_p1_size v_p1_home v_p1_froms' v_p1_tos v_p1_lengths v_p1_kinds v_p1_figures) := rfl
theorem w_X7_isLike_g8 {D : va_G} {q_this : Nat} {q_froms : Nat} {q_tos : Nat} {q_lengths : Nat} {q_kinds : Nat} {q_figures : Nat} {q_p1 : Nat} {q_p1_froms : Nat} {q_p1_tos : Nat} {q_p1_lengths : Nat} {q_p1_kinds : Nat} {q_p1_figures : Nat} {v_closed : Int32} {v_size : Int32} {v_home : Int32} {v_froms : (Nat → Int32)} {v_tos : (Nat → Int32)} {v_lengths : (Nat → Int32)} {v_kinds : (Nat → Int32)} {v_figures : (Nat → Int32)} {v_p1_closed : Int32} {v_p1_size : Int32} {v_p1_home : Int32} {v_p1_froms : (Nat → Int32)} {v_p1_tos : (Nat → Int32)} {v_p1_lengths : (Nat → Int32)} {v_p1_kinds : (Nat → Int32)} {v_p1_figures : (Nat → Int32)} : (w_X7_isLike D q_this q_froms q_tos q_lengths q_kinds q_figures q_p1 q_p1_froms q_p1_tos q_p1_lengths q_p1_kinds q_p1_figures v_closed v_size v_home v_froms v_tos v_lengths v_kinds v_figures v_p1_closed v_p1_size v_p1_home v_p1_froms v_p1_tos v_p1_lengths v_p1_kinds v_p1_figures)[8]? = some (q_p1_tos, .inl (D.1 100, 8, .inl v_p1_tos)) := rfl
theorem w_X7_isLike_s8 {D : va_G} {q_this : Nat} {q_froms : Nat} {q_tos : Nat} {q_lengths : Nat} {q_kinds : Nat} {q_figures : Nat} {q_p1 : Nat} {q_p1_froms : Nat} {q_p1_tos : Nat} {q_p1_lengths : Nat} {q_p1_kinds : Nat} {q_p1_figures : Nat} {v_closed : Int32} {v_size : Int32} {v_home : Int32} {v_froms : (Nat → Int32)} {v_tos : (Nat → Int32)} {v_lengths : (Nat → Int32)} {v_kinds : (Nat → Int32)} {v_figures : (Nat → Int32)} {v_p1_closed : Int32} {v_p1_size : Int32} {v_p1_home : Int32} {v_p1_froms : (Nat → Int32)} {v_p1_tos : (Nat → Int32)} {v_p1_lengths : (Nat → Int32)} {v_p1_kinds : (Nat → Int32)} {v_p1_figures : (Nat → Int32)} {v_p1_tos' : (Nat → Int32)} : (w_X7_isLike D q_this q_froms q_tos q_lengths q_kinds q_figures q_p1 q_p1_froms q_p1_tos q_p1_lengths q_p1_kinds q_p1_figures v_closed v_size v_home v_froms v_tos v_lengths v_kinds v_figures v_p1_closed v_p1_size v_p1_home v_p1_froms v_p1_tos v_p1_lengths v_p1_kinds v_p1_figures).set 8 (q_p1_tos, .inl (D.1 100, 8, .inl v_p1_tos')) = (w_X7_isLike D q_this q_froms q_tos q_lengths q_kinds q_figures q_p1 q_p1_froms q_p1_tos q_p1_lengths q_p1_kinds q_p1_figures v_closed v_size v_home v_froms v_tos v_lengths v_kinds v_figures v_p1_closed v_p1_size v_p1_home v_p1_froms v_p1_tos' v_p1_lengths v_p1_kinds v_p1_figures) := rfl
theorem w_X7_isLike_g9 {D : va_G} {q_this : Nat} {q_froms : Nat} {q_tos : Nat} {q_lengths : Nat} {q_kinds : Nat} {q_figures : Nat} {q_p1 : Nat} {q_p1_froms : Nat} {q_p1_tos : Nat} {q_p1_lengths : Nat} {q_p1_kinds : Nat} {q_p1_figures : Nat} {v_closed : Int32} {v_size : Int32} {v_home : Int32} {v_froms : (Nat → Int32)} {v_tos : (Nat → Int32)} {v_lengths : (Nat → Int32)} {v_kinds : (Nat → Int32)} {v_figures : (Nat → Int32)} {v_p1_closed : Int32} {v_p1_size : Int32} {v_p1_home : Int32} {v_p1_froms : (Nat → Int32)} {v_p1_tos : (Nat → Int32)} {v_p1_lengths : (Nat → Int32)} {v_p1_kinds : (Nat → Int32)} {v_p1_figures : (Nat → Int32)} : (w_X7_isLike D q_this q_froms q_tos q_lengths q_kinds q_figures q_p1 q_p1_froms q_p1_tos q_p1_lengths q_p1_kinds q_p1_figures v_closed v_size v_home v_froms v_tos v_lengths v_kinds v_figures v_p1_closed v_p1_size v_p1_home v_p1_froms v_p1_tos v_p1_lengths v_p1_kinds v_p1_figures)[9]? = some (q_p1_lengths, .inl (D.1 100, 8, .inl v_p1_lengths)) := rfl
theorem w_X7_isLike_s9 {D : va_G} {q_this : Nat} {q_froms : Nat} {q_tos : Nat} {q_lengths : Nat} {q_kinds : Nat} {q_figures : Nat} {q_p1 : Nat} {q_p1_froms : Nat} {q_p1_tos : Nat} {q_p1_lengths : Nat} {q_p1_kinds : Nat} {q_p1_figures : Nat} {v_closed : Int32} {v_size : Int32} {v_home : Int32} {v_froms : (Nat → Int32)} {v_tos : (Nat → Int32)} {v_lengths : (Nat → Int32)} {v_kinds : (Nat → Int32)} {v_figures : (Nat → Int32)} {v_p1_closed : Int32} {v_p1_size : Int32} {v_p1_home : Int32} {v_p1_froms : (Nat → Int32)} {v_p1_tos : (Nat → Int32)} {v_p1_lengths : (Nat → Int32)} {v_p1_kinds : (Nat → Int32)} {v_p1_figures : (Nat → Int32)} {v_p1_lengths' : (Nat → Int32)} : (w_X7_isLike D q_this q_froms q_tos q_lengths q_kinds q_figures q_p1 q_p1_froms q_p1_tos q_p1_lengths q_p1_kinds q_p1_figures v_closed v_size v_home v_froms v_tos v_lengths v_kinds v_figures v_p1_closed v_p1_size v_p1_home v_p1_froms v_p1_tos v_p1_lengths v_p1_kinds v_p1_figures).set 9 (q_p1_lengths, .inl (D.1 100, 8, .inl v_p1_lengths')) = (w_X7_isLike D q_this q_froms q_tos q_lengths q_kinds q_figures q_p1 q_p1_froms q_p1_tos q_p1_lengths q_p1_kinds q_p1_figures v_closed v_size v_home v_froms v_tos v_lengths v_kinds v_figures v_p1_closed v_p1_size v_p1_home v_p1_froms v_p1_tos v_p1_lengths' v_p1_kinds v_p1_figures) := rfl
theorem w_X7_isLike_g10 {D : va_G} {q_this : Nat} {q_froms : Nat} {q_tos : Nat} {q_lengths : Nat} {q_kinds : Nat} {q_figures : Nat} {q_p1 : Nat} {q_p1_froms : Nat} {q_p1_tos : Nat} {q_p1_lengths : Nat} {q_p1_kinds : Nat} {q_p1_figures : Nat} {v_closed : Int32} {v_size : Int32} {v_home : Int32} {v_froms : (Nat → Int32)} {v_tos : (Nat → Int32)} {v_lengths : (Nat → Int32)} {v_kinds : (Nat → Int32)} {v_figures : (Nat → Int32)} {v_p1_closed : Int32} {v_p1_size : Int32} {v_p1_home : Int32} {v_p1_froms : (Nat → Int32)} {v_p1_tos : (Nat → Int32)} {v_p1_lengths : (Nat → Int32)} {v_p1_kinds : (Nat → Int32)} {v_p1_figures : (Nat → Int32)} : (w_X7_isLike D q_this q_froms q_tos q_lengths q_kinds q_figures q_p1 q_p1_froms q_p1_tos q_p1_lengths q_p1_kinds q_p1_figures v_closed v_size v_home v_froms v_tos v_lengths v_kinds v_figures v_p1_closed v_p1_size v_p1_home v_p1_froms v_p1_tos v_p1_lengths v_p1_kinds v_p1_figures)[10]? = some (q_p1_kinds, .inl (D.1 100, 8, .inl v_p1_kinds)) := rfl
theorem w_X7_isLike_s10 {D : va_G} {q_this : Nat} {q_froms : Nat} {q_tos : Nat} {q_lengths : Nat} {q_kinds : Nat} {q_figures : Nat} {q_p1 : Nat} {q_p1_froms : Nat} {q_p1_tos : Nat} {q_p1_lengths : Nat} {q_p1_kinds : Nat} {q_p1_figures : Nat} {v_closed : Int32} {v_size : Int32} {v_home : Int32} {v_froms : (Nat → Int32)} {v_tos : (Nat → Int32)} {v_lengths : (Nat → Int32)} {v_kinds : (Nat → Int32)} {v_figures : (Nat → Int32)} {v_p1_closed : Int32} {v_p1_size : Int32} {v_p1_home : Int32} {v_p1_froms : (Nat → Int32)} {v_p1_tos : (Nat → Int32)} {v_p1_lengths : (Nat → Int32)} {v_p1_kinds : (Nat → Int32)} {v_p1_figures : (Nat → Int32)} {v_p1_kinds' : (Nat → Int32)} : (w_X7_isLike D q_this q_froms q_tos q_lengths q_kinds q_figures q_p1 q_p1_froms q_p1_tos q_p1_lengths q_p1_kinds q_p1_figures v_closed v_size v_home v_froms v_tos v_lengths v_kinds v_figures v_p1_closed v_p1_size v_p1_home v_p1_froms v_p1_tos v_p1_lengths v_p1_kinds v_p1_figures).set 10 (q_p1_kinds, .inl (D.1 100, 8, .inl v_p1_kinds')) = (w_X7_isLike D q_this q_froms q_tos q_lengths q_kinds q_figures q_p1 q_p1_froms q_p1_tos q_p1_lengths q_p1_kinds q_p1_figures v_closed v_size v_home v_froms v_tos v_lengths v_kinds v_figures v_p1_closed v_p1_size v_p1_home v_p1_froms v_p1_tos v_p1_lengths v_p1_kinds' v_p1_figures) := rfl
theorem w_X7_isLike_g11 {D : va_G} {q_this : Nat} {q_froms : Nat} {q_tos : Nat} {q_lengths : Nat} {q_kinds : Nat} {q_figures : Nat} {q_p1 : Nat} {q_p1_froms : Nat} {q_p1_tos : Nat} {q_p1_lengths : Nat} {q_p1_kinds : Nat} {q_p1_figures : Nat} {v_closed : Int32} {v_size : Int32} {v_home : Int32} {v_froms : (Nat → Int32)} {v_tos : (Nat → Int32)} {v_lengths : (Nat → Int32)} {v_kinds : (Nat → Int32)} {v_figures : (Nat → Int32)} {v_p1_closed : Int32} {v_p1_size : Int32} {v_p1_home : Int32} {v_p1_froms : (Nat → Int32)} {v_p1_tos : (Nat → Int32)} {v_p1_lengths : (Nat → Int32)} {v_p1_kinds : (Nat → Int32)} {v_p1_figures : (Nat → Int32)} : (w_X7_isLike D q_this q_froms q_tos q_lengths q_kinds q_figures q_p1 q_p1_froms q_p1_tos q_p1_lengths q_p1_kinds q_p1_figures v_closed v_size v_home v_froms v_tos v_lengths v_kinds v_figures v_p1_closed v_p1_size v_p1_home v_p1_froms v_p1_tos v_p1_lengths v_p1_kinds v_p1_figures)[11]? = some (q_p1_figures, .inl (D.1 100, 8, .inl v_p1_figures)) := rfl
theorem w_X7_isLike_s11 {D : va_G} {q_this : Nat} {q_froms : Nat} {q_tos : Nat} {q_lengths : Nat} {q_kinds : Nat} {q_figures : Nat} {q_p1 : Nat} {q_p1_froms : Nat} {q_p1_tos : Nat} {q_p1_lengths : Nat} {q_p1_kinds : Nat} {q_p1_figures : Nat} {v_closed : Int32} {v_size : Int32} {v_home : Int32} {v_froms : (Nat → Int32)} {v_tos : (Nat → Int32)} {v_lengths : (Nat → Int32)} {v_kinds : (Nat → Int32)} {v_figures : (Nat → Int32)} {v_p1_closed : Int32} {v_p1_size : Int32} {v_p1_home : Int32} {v_p1_froms : (Nat → Int32)} {v_p1_tos : (Nat → Int32)} {v_p1_lengths : (Nat → Int32)} {v_p1_kinds : (Nat → Int32)} {v_p1_figures : (Nat → Int32)} {v_p1_figures' : (Nat → Int32)} : (w_X7_isLike D q_this q_froms q_tos q_lengths q_kinds q_figures q_p1 q_p1_froms q_p1_tos q_p1_lengths q_p1_kinds q_p1_figures v_closed v_size v_home v_froms v_tos v_lengths v_kinds v_figures v_p1_closed v_p1_size v_p1_home v_p1_froms v_p1_tos v_p1_lengths v_p1_kinds v_p1_figures).set 11 (q_p1_figures, .inl (D.1 100, 8, .inl v_p1_figures')) = (w_X7_isLike D q_this q_froms q_tos q_lengths q_kinds q_figures q_p1 q_p1_froms q_p1_tos q_p1_lengths q_p1_kinds q_p1_figures v_closed v_size v_home v_froms v_tos v_lengths v_kinds v_figures v_p1_closed v_p1_size v_p1_home v_p1_froms v_p1_tos v_p1_lengths v_p1_kinds v_p1_figures') := rfl
theorem w_X7_isLike_a {D : va_G} {q_this : Nat} {q_froms : Nat} {q_tos : Nat} {q_lengths : Nat} {q_kinds : Nat} {q_figures : Nat} {q_p1 : Nat} {q_p1_froms : Nat} {q_p1_tos : Nat} {q_p1_lengths : Nat} {q_p1_kinds : Nat} {q_p1_figures : Nat} {v_closed : Int32} {v_size : Int32} {v_home : Int32} {v_froms : (Nat → Int32)} {v_tos : (Nat → Int32)} {v_lengths : (Nat → Int32)} {v_kinds : (Nat → Int32)} {v_figures : (Nat → Int32)} {v_p1_closed : Int32} {v_p1_size : Int32} {v_p1_home : Int32} {v_p1_froms : (Nat → Int32)} {v_p1_tos : (Nat → Int32)} {v_p1_lengths : (Nat → Int32)} {v_p1_kinds : (Nat → Int32)} {v_p1_figures : (Nat → Int32)} : (w_X7_isLike D q_this q_froms q_tos q_lengths q_kinds q_figures q_p1 q_p1_froms q_p1_tos q_p1_lengths q_p1_kinds q_p1_figures v_closed v_size v_home v_froms v_tos v_lengths v_kinds v_figures v_p1_closed v_p1_size v_p1_home v_p1_froms v_p1_tos v_p1_lengths v_p1_kinds v_p1_figures).map (fun q => q.1) = [q_this, q_froms, q_tos, q_lengths, q_kinds, q_figures, q_p1, q_p1_froms, q_p1_tos, q_p1_lengths, q_p1_kinds, q_p1_figures] := rfl
def f_X7_isLike_b41 (v_size : Int32) (x3_41 : Int32) (x2_41 : Int32) (v_froms : (Nat → Int32)) (v_p1_froms : (Nat → Int32)) (v_tos : (Nat → Int32)) (v_p1_tos : (Nat → Int32)) (v_lengths : (Nat → Int32)) (v_p1_lengths : (Nat → Int32)) (v_kinds : (Nat → Int32)) (v_p1_kinds : (Nat → Int32)) (v_figures : (Nat → Int32)) (v_p1_figures : (Nat → Int32)) : Option ((Int32 × Int32) ⊕ Int32) :=
  (if v_size ≤ x3_41 then some (.inr x2_41) else (if x2_41 = 0 then some (.inr x2_41) else ga x3_41 8 (ga x3_41 8 ((if (v_froms (Int32.toNatClampNeg x3_41)) = (v_p1_froms (Int32.toNatClampNeg x3_41)) then ga x3_41 8 (ga x3_41 8 ((if (v_tos (Int32.toNatClampNeg x3_41)) = (v_p1_tos (Int32.toNatClampNeg x3_41)) then ga x3_41 8 (ga x3_41 8 ((if (v_lengths (Int32.toNatClampNeg x3_41)) = (v_p1_lengths (Int32.toNatClampNeg x3_41)) then ga x3_41 8 (ga x3_41 8 ((if (v_kinds (Int32.toNatClampNeg x3_41)) = (v_p1_kinds (Int32.toNatClampNeg x3_41)) then ga x3_41 8 (ga x3_41 8 (some (.inl (if (v_figures (Int32.toNatClampNeg x3_41)) = (v_p1_figures (Int32.toNatClampNeg x3_41)) then (1 : Int32) else (0 : Int32), x3_41 + (1 : Int32))))) else some (.inl ((0 : Int32), x3_41 + (1 : Int32)))))) else some (.inl ((0 : Int32), x3_41 + (1 : Int32)))))) else some (.inl ((0 : Int32), x3_41 + (1 : Int32)))))) else some (.inl ((0 : Int32), x3_41 + (1 : Int32))))))))
def f_X7_isLike (N : Nat) (v_closed : Int32) (v_size : Int32) (v_home : Int32) (v_froms : (Nat → Int32)) (v_tos : (Nat → Int32)) (v_lengths : (Nat → Int32)) (v_kinds : (Nat → Int32)) (v_figures : (Nat → Int32)) (v_p1_closed : Int32) (v_p1_size : Int32) (v_p1_home : Int32) (v_p1_froms : (Nat → Int32)) (v_p1_tos : (Nat → Int32)) (v_p1_lengths : (Nat → Int32)) (v_p1_kinds : (Nat → Int32)) (v_p1_figures : (Nat → Int32)) : Option Int32 :=
  (lp (fun s_41 => f_X7_isLike_b41 v_size s_41.2 s_41.1 v_froms v_p1_froms v_tos v_p1_tos v_lengths v_p1_lengths v_kinds v_p1_kinds v_figures v_p1_figures) N (if v_size = v_p1_size then (if v_home = v_p1_home then (if v_closed = v_p1_closed then (1 : Int32) else (0 : Int32)) else (0 : Int32)) else (0 : Int32), (0 : Int32))).bind (fun e_41 => gb (e_41) (some e_41))
set_option maxRecDepth 100000 in
set_option maxHeartbeats 4000000 in
theorem c_X7_isLike (l : Launch) (D : va_G) (N : Nat) {q_this q_froms q_tos q_lengths q_kinds q_figures q_p1 q_p1_froms q_p1_tos q_p1_lengths q_p1_kinds q_p1_figures : Nat} {v_closed : Int32} {v_size : Int32} {v_home : Int32} {v_froms : (Nat → Int32)} {v_tos : (Nat → Int32)} {v_lengths : (Nat → Int32)} {v_kinds : (Nat → Int32)} {v_figures : (Nat → Int32)} {v_p1_closed : Int32} {v_p1_size : Int32} {v_p1_home : Int32} {v_p1_froms : (Nat → Int32)} {v_p1_tos : (Nat → Int32)} {v_p1_lengths : (Nat → Int32)} {v_p1_kinds : (Nat → Int32)} {v_p1_figures : (Nat → Int32)} {o : Int32} (h : f_X7_isLike N v_closed v_size v_home v_froms v_tos v_lengths v_kinds v_figures v_p1_closed v_p1_size v_p1_home v_p1_froms v_p1_tos v_p1_lengths v_p1_kinds v_p1_figures = some o) : CT l D yX7_isLike cX7_isLike 4 (Option.some FieldType.boolean) 0 [.ref q_this, .ref q_p1] (w_X7_isLike D q_this q_froms q_tos q_lengths q_kinds q_figures q_p1 q_p1_froms q_p1_tos q_p1_lengths q_p1_kinds q_p1_figures v_closed v_size v_home v_froms v_tos v_lengths v_kinds v_figures v_p1_closed v_p1_size v_p1_home v_p1_froms v_p1_tos v_p1_lengths v_p1_kinds v_p1_figures) (w_X7_isLike D q_this q_froms q_tos q_lengths q_kinds q_figures q_p1 q_p1_froms q_p1_tos q_p1_lengths q_p1_kinds q_p1_figures v_closed v_size v_home v_froms v_tos v_lengths v_kinds v_figures v_p1_closed v_p1_size v_p1_home v_p1_froms v_p1_tos v_p1_lengths v_p1_kinds v_p1_figures) (some (.int o)) := by
  refine CT.of mk_X7_isLike (Nat.le_of_ble_eq_true rfl) (fun g hl hD C E => ?_)
  subst hl
  subst hD
  unfold f_X7_isLike at h
  refine j_aload_n C dX7_isLike_0 rfl ?_
  refine j_get C 0 w_X7_isLike_g0 rfl inX7 6 (by decide) kw_54 rfl rfl dX7_isLike_1 ?_
  refine j_aload_n C dX7_isLike_4 rfl ?_
  refine j_get C 6 w_X7_isLike_g6 rfl inX7 6 (by decide) kw_54 rfl rfl dX7_isLike_5 ?_
  have hj_1 : J g (w_X7_isLike (gD g) q_this q_froms q_tos q_lengths q_kinds q_figures q_p1 q_p1_froms q_p1_tos q_p1_lengths q_p1_kinds q_p1_figures v_closed v_size v_home v_froms v_tos v_lengths v_kinds v_figures v_p1_closed v_p1_size v_p1_home v_p1_froms v_p1_tos v_p1_lengths v_p1_kinds v_p1_figures) [(0, .ref q_this), (1, .ref q_p1)] 38 [.int (if v_size = v_p1_size then (if v_home = v_p1_home then (if v_closed = v_p1_closed then (1 : Int32) else (0 : Int32)) else (0 : Int32)) else (0 : Int32))] := by
    refine j_istore_n C dX7_isLike_38 (by decide) ?_
    refine j_iconst C (0) dX7_isLike_39 ki_0 ?_
    refine j_istore_n C dX7_isLike_40 (by decide) ?_
    obtain ⟨e_41, hl_41, h⟩ := of_bind h
    have ha_41 : J g (w_X7_isLike (gD g) q_this q_froms q_tos q_lengths q_kinds q_figures q_p1 q_p1_froms q_p1_tos q_p1_lengths q_p1_kinds q_p1_figures v_closed v_size v_home v_froms v_tos v_lengths v_kinds v_figures v_p1_closed v_p1_size v_p1_home v_p1_froms v_p1_tos v_p1_lengths v_p1_kinds v_p1_figures) [(2, .int (e_41))] 140 [] := by
      refine j_iload_n C dX7_isLike_140 rfl ?_
      obtain ⟨hz, h⟩ := of_gb h
      have h := Option.some.inj h
      subst h
      exact j_zret C E hz.1 dX7_isLike_141
    refine j_lv (lv' := [(0, .ref q_this), (1, .ref q_p1), (2, .int (if v_size = v_p1_size then (if v_home = v_p1_home then (if v_closed = v_p1_closed then (1 : Int32) else (0 : Int32)) else (0 : Int32)) else (0 : Int32))), (3, .int ((0 : Int32)))]) rfl ?_
    refine lp_ind hl_41 (fun s_41 => J g (w_X7_isLike (gD g) q_this q_froms q_tos q_lengths q_kinds q_figures q_p1 q_p1_froms q_p1_tos q_p1_lengths q_p1_kinds q_p1_figures v_closed v_size v_home v_froms v_tos v_lengths v_kinds v_figures v_p1_closed v_p1_size v_p1_home v_p1_froms v_p1_tos v_p1_lengths v_p1_kinds v_p1_figures) [(0, .ref q_this), (1, .ref q_p1), (2, .int (s_41.1)), (3, .int (s_41.2))] 41 []) (fun s_41 r_41 h hc_41 hx_41 => ?_)
    unfold f_X7_isLike_b41 at h
    refine j_iload_n C dX7_isLike_41 rfl ?_
    refine j_aload_n C dX7_isLike_42 rfl ?_
    refine j_get C 0 w_X7_isLike_g0 rfl inX7 6 (by decide) kw_54 rfl rfl dX7_isLike_43 ?_
    refine j_icmp_ge C h 140 dX7_isLike_46 (by decide) (fun hc h => ?_) (fun hc h => ?_)
    · have h := Option.some.inj h
      subst h
      have h9 := hx_41 _ rfl
      subst h9
      exact j_lw ha_41 rfl
    · refine j_iload_n C dX7_isLike_49 rfl ?_
      refine j_if_eq C h 140 dX7_isLike_50 (by decide) (fun hc h => ?_) (fun hc h => ?_)
      · have h := Option.some.inj h
        subst h
        have h9 := hx_41 _ rfl
        subst h9
        exact j_lw ha_41 rfl
      · refine j_aload_n C dX7_isLike_53 rfl ?_
        refine j_get C 0 w_X7_isLike_g0 rfl inX7 0 (by decide) kw_36 rfl rfl dX7_isLike_54 ?_
        refine j_iload_n C dX7_isLike_57 rfl ?_
        refine j_iaload 1 C h w_X7_isLike_g1 rfl dX7_isLike_58 (fun h => ?_)
        refine j_aload_n C dX7_isLike_59 rfl ?_
        refine j_get C 6 w_X7_isLike_g6 rfl inX7 0 (by decide) kw_36 rfl rfl dX7_isLike_60 ?_
        refine j_iload_n C dX7_isLike_63 rfl ?_
        refine j_iaload 7 C h w_X7_isLike_g7 rfl dX7_isLike_64 (fun h => ?_)
        refine j_icmp_ne C h 132 dX7_isLike_65 (by decide) (fun hc h => ?_) (fun hc h => ?_)
        · refine j_aload_n C dX7_isLike_68 rfl ?_
          refine j_get C 0 w_X7_isLike_g0 rfl inX7 1 (by decide) kw_40 rfl rfl dX7_isLike_69 ?_
          refine j_iload_n C dX7_isLike_72 rfl ?_
          refine j_iaload 2 C h w_X7_isLike_g2 rfl dX7_isLike_73 (fun h => ?_)
          refine j_aload_n C dX7_isLike_74 rfl ?_
          refine j_get C 6 w_X7_isLike_g6 rfl inX7 1 (by decide) kw_40 rfl rfl dX7_isLike_75 ?_
          refine j_iload_n C dX7_isLike_78 rfl ?_
          refine j_iaload 8 C h w_X7_isLike_g8 rfl dX7_isLike_79 (fun h => ?_)
          refine j_icmp_ne C h 132 dX7_isLike_80 (by decide) (fun hc h => ?_) (fun hc h => ?_)
          · refine j_aload_n C dX7_isLike_83 rfl ?_
            refine j_get C 0 w_X7_isLike_g0 rfl inX7 2 (by decide) kw_44 rfl rfl dX7_isLike_84 ?_
            refine j_iload_n C dX7_isLike_87 rfl ?_
            refine j_iaload 3 C h w_X7_isLike_g3 rfl dX7_isLike_88 (fun h => ?_)
            refine j_aload_n C dX7_isLike_89 rfl ?_
            refine j_get C 6 w_X7_isLike_g6 rfl inX7 2 (by decide) kw_44 rfl rfl dX7_isLike_90 ?_
            refine j_iload_n C dX7_isLike_93 rfl ?_
            refine j_iaload 9 C h w_X7_isLike_g9 rfl dX7_isLike_94 (fun h => ?_)
            refine j_icmp_ne C h 132 dX7_isLike_95 (by decide) (fun hc h => ?_) (fun hc h => ?_)
            · refine j_aload_n C dX7_isLike_98 rfl ?_
              refine j_get C 0 w_X7_isLike_g0 rfl inX7 3 (by decide) kw_47 rfl rfl dX7_isLike_99 ?_
              refine j_iload_n C dX7_isLike_102 rfl ?_
              refine j_iaload 4 C h w_X7_isLike_g4 rfl dX7_isLike_103 (fun h => ?_)
              refine j_aload_n C dX7_isLike_104 rfl ?_
              refine j_get C 6 w_X7_isLike_g6 rfl inX7 3 (by decide) kw_47 rfl rfl dX7_isLike_105 ?_
              refine j_iload_n C dX7_isLike_108 rfl ?_
              refine j_iaload 10 C h w_X7_isLike_g10 rfl dX7_isLike_109 (fun h => ?_)
              refine j_icmp_ne C h 132 dX7_isLike_110 (by decide) (fun hc h => ?_) (fun hc h => ?_)
              · refine j_aload_n C dX7_isLike_113 rfl ?_
                refine j_get C 0 w_X7_isLike_g0 rfl inX7 4 (by decide) kw_50 rfl rfl dX7_isLike_114 ?_
                refine j_iload_n C dX7_isLike_117 rfl ?_
                refine j_iaload 5 C h w_X7_isLike_g5 rfl dX7_isLike_118 (fun h => ?_)
                refine j_aload_n C dX7_isLike_119 rfl ?_
                refine j_get C 6 w_X7_isLike_g6 rfl inX7 4 (by decide) kw_50 rfl rfl dX7_isLike_120 ?_
                refine j_iload_n C dX7_isLike_123 rfl ?_
                refine j_iaload 11 C h w_X7_isLike_g11 rfl dX7_isLike_124 (fun h => ?_)
                have hj_2 : J g (w_X7_isLike (gD g) q_this q_froms q_tos q_lengths q_kinds q_figures q_p1 q_p1_froms q_p1_tos q_p1_lengths q_p1_kinds q_p1_figures v_closed v_size v_home v_froms v_tos v_lengths v_kinds v_figures v_p1_closed v_p1_size v_p1_home v_p1_froms v_p1_tos v_p1_lengths v_p1_kinds v_p1_figures) [(0, .ref q_this), (1, .ref q_p1), (3, .int (s_41.2))] 133 [.int (if (v_figures (Int32.toNatClampNeg s_41.2)) = (v_p1_figures (Int32.toNatClampNeg s_41.2)) then (1 : Int32) else (0 : Int32))] := by
                  refine j_istore_n C dX7_isLike_133 (by decide) ?_
                  refine j_inc C (1) dX7_isLike_134 rfl ki_1 (by decide) ?_
                  refine j_goto C 41 dX7_isLike_137 (by decide) ?_
                  have h := Option.some.inj h
                  subst h
                  have hc9 := hc_41 _ rfl
                  exact j_lw hc9 rfl
                refine jv_icmp_ne C 132 dX7_isLike_125 (by decide) (fun hc => ?_) (fun hc => ?_)
                · try simp only [if_pos hc] at hj_2
                  refine j_iconst C (1) dX7_isLike_128 ki_1 ?_
                  refine j_goto C 133 dX7_isLike_129 (by decide) ?_
                  exact j_lw hj_2 rfl
                · try simp only [if_neg hc] at hj_2
                  refine j_iconst C (0) dX7_isLike_132 ki_0 ?_
                  exact j_lw hj_2 rfl
              · refine j_iconst C (0) dX7_isLike_132 ki_0 ?_
                refine j_istore_n C dX7_isLike_133 (by decide) ?_
                refine j_inc C (1) dX7_isLike_134 rfl ki_1 (by decide) ?_
                refine j_goto C 41 dX7_isLike_137 (by decide) ?_
                have h := Option.some.inj h
                subst h
                have hc9 := hc_41 _ rfl
                exact j_lw hc9 rfl
            · refine j_iconst C (0) dX7_isLike_132 ki_0 ?_
              refine j_istore_n C dX7_isLike_133 (by decide) ?_
              refine j_inc C (1) dX7_isLike_134 rfl ki_1 (by decide) ?_
              refine j_goto C 41 dX7_isLike_137 (by decide) ?_
              have h := Option.some.inj h
              subst h
              have hc9 := hc_41 _ rfl
              exact j_lw hc9 rfl
          · refine j_iconst C (0) dX7_isLike_132 ki_0 ?_
            refine j_istore_n C dX7_isLike_133 (by decide) ?_
            refine j_inc C (1) dX7_isLike_134 rfl ki_1 (by decide) ?_
            refine j_goto C 41 dX7_isLike_137 (by decide) ?_
            have h := Option.some.inj h
            subst h
            have hc9 := hc_41 _ rfl
            exact j_lw hc9 rfl
        · refine j_iconst C (0) dX7_isLike_132 ki_0 ?_
          refine j_istore_n C dX7_isLike_133 (by decide) ?_
          refine j_inc C (1) dX7_isLike_134 rfl ki_1 (by decide) ?_
          refine j_goto C 41 dX7_isLike_137 (by decide) ?_
          have h := Option.some.inj h
          subst h
          have hc9 := hc_41 _ rfl
          exact j_lw hc9 rfl
  refine jv_icmp_ne C 37 dX7_isLike_8 (by decide) (fun hc => ?_) (fun hc => ?_)
  · try simp only [if_pos hc] at hj_1
    refine j_aload_n C dX7_isLike_11 rfl ?_
    refine j_get C 0 w_X7_isLike_g0 rfl inX7 7 (by decide) kw_59 rfl rfl dX7_isLike_12 ?_
    refine j_aload_n C dX7_isLike_15 rfl ?_
    refine j_get C 6 w_X7_isLike_g6 rfl inX7 7 (by decide) kw_59 rfl rfl dX7_isLike_16 ?_
    refine jv_icmp_ne C 37 dX7_isLike_19 (by decide) (fun hc => ?_) (fun hc => ?_)
    · try simp only [if_pos hc] at hj_1
      refine j_aload_n C dX7_isLike_22 rfl ?_
      refine j_get C 0 w_X7_isLike_g0 rfl inX7 5 (by decide) kw_53 rfl rfl dX7_isLike_23 ?_
      refine j_aload_n C dX7_isLike_26 rfl ?_
      refine j_get C 6 w_X7_isLike_g6 rfl inX7 5 (by decide) kw_53 rfl rfl dX7_isLike_27 ?_
      refine jv_icmp_ne C 37 dX7_isLike_30 (by decide) (fun hc => ?_) (fun hc => ?_)
      · try simp only [if_pos hc] at hj_1
        refine j_iconst C (1) dX7_isLike_33 ki_1 ?_
        refine j_goto C 38 dX7_isLike_34 (by decide) ?_
        exact j_lw hj_1 rfl
      · try simp only [if_neg hc] at hj_1
        refine j_iconst C (0) dX7_isLike_37 ki_0 ?_
        exact j_lw hj_1 rfl
    · try simp only [if_neg hc] at hj_1
      refine j_iconst C (0) dX7_isLike_37 ki_0 ?_
      exact j_lw hj_1 rfl
  · try simp only [if_neg hc] at hj_1
    refine j_iconst C (0) dX7_isLike_37 ki_0 ?_
    exact j_lw hj_1 rfl

def w_X7_isDue (D : va_G) (q_this q_kinds : Nat) (w_froms w_tos w_lengths w_figures : Value) (v_closed : Int32) (v_size : Int32) (v_home : Int32) (v_kinds : (Nat → Int32)) : va_W := [(q_this, .inr (6, [w_froms, w_tos, w_lengths, .ref q_kinds, w_figures, .int v_closed, .int v_size, .int v_home])), (q_kinds, .inl (D.1 100, 8, .inl v_kinds))]
theorem w_X7_isDue_g0 {D : va_G} {q_this : Nat} {q_kinds : Nat} {w_froms : Value} {w_tos : Value} {w_lengths : Value} {w_figures : Value} {v_closed : Int32} {v_size : Int32} {v_home : Int32} {v_kinds : (Nat → Int32)} : (w_X7_isDue D q_this q_kinds w_froms w_tos w_lengths w_figures v_closed v_size v_home v_kinds)[0]? = some (q_this, .inr (6, [w_froms, w_tos, w_lengths, .ref q_kinds, w_figures, .int v_closed, .int v_size, .int v_home])) := rfl
theorem w_X7_isDue_s0 {D : va_G} {q_this : Nat} {q_kinds : Nat} {w_froms : Value} {w_tos : Value} {w_lengths : Value} {w_figures : Value} {v_closed : Int32} {v_size : Int32} {v_home : Int32} {v_kinds : (Nat → Int32)} {v_closed' : Int32} {v_size' : Int32} {v_home' : Int32} : (w_X7_isDue D q_this q_kinds w_froms w_tos w_lengths w_figures v_closed v_size v_home v_kinds).set 0 (q_this, .inr (6, [w_froms, w_tos, w_lengths, .ref q_kinds, w_figures, .int v_closed', .int v_size', .int v_home'])) = (w_X7_isDue D q_this q_kinds w_froms w_tos w_lengths w_figures v_closed' v_size' v_home' v_kinds) := rfl
theorem w_X7_isDue_g1 {D : va_G} {q_this : Nat} {q_kinds : Nat} {w_froms : Value} {w_tos : Value} {w_lengths : Value} {w_figures : Value} {v_closed : Int32} {v_size : Int32} {v_home : Int32} {v_kinds : (Nat → Int32)} : (w_X7_isDue D q_this q_kinds w_froms w_tos w_lengths w_figures v_closed v_size v_home v_kinds)[1]? = some (q_kinds, .inl (D.1 100, 8, .inl v_kinds)) := rfl
theorem w_X7_isDue_s1 {D : va_G} {q_this : Nat} {q_kinds : Nat} {w_froms : Value} {w_tos : Value} {w_lengths : Value} {w_figures : Value} {v_closed : Int32} {v_size : Int32} {v_home : Int32} {v_kinds : (Nat → Int32)} {v_kinds' : (Nat → Int32)} : (w_X7_isDue D q_this q_kinds w_froms w_tos w_lengths w_figures v_closed v_size v_home v_kinds).set 1 (q_kinds, .inl (D.1 100, 8, .inl v_kinds')) = (w_X7_isDue D q_this q_kinds w_froms w_tos w_lengths w_figures v_closed v_size v_home v_kinds') := rfl
theorem w_X7_isDue_a {D : va_G} {q_this : Nat} {q_kinds : Nat} {w_froms : Value} {w_tos : Value} {w_lengths : Value} {w_figures : Value} {v_closed : Int32} {v_size : Int32} {v_home : Int32} {v_kinds : (Nat → Int32)} : (w_X7_isDue D q_this q_kinds w_froms w_tos w_lengths w_figures v_closed v_size v_home v_kinds).map (fun q => q.1) = [q_this, q_kinds] := rfl
def f_X7_isDue (x1 : Int32) (v_closed : Int32) (v_kinds : (Nat → Int32)) : Option Int32 :=
  (f_X7_isOpen x1 v_closed).bind (fun r_isOpen_1 => (if r_isOpen_1 = 0 then some (0 : Int32) else ga x1 8 (gb (if (kfld 4 (kidx (v_kinds (Int32.toNatClampNeg x1)))) = 0 then (0 : Int32) else (1 : Int32)) (some (if (kfld 4 (kidx (v_kinds (Int32.toNatClampNeg x1)))) = 0 then (0 : Int32) else (1 : Int32))))))
set_option maxRecDepth 100000 in
set_option maxHeartbeats 4000000 in
theorem c_X7_isDue (l : Launch) (D : va_G) {q_this q_kinds : Nat} {w_froms w_tos w_lengths w_figures : Value} {v_closed : Int32} {v_size : Int32} {v_home : Int32} {v_kinds : (Nat → Int32)} {x1 : Int32} {o : Int32} (h : f_X7_isDue x1 v_closed v_kinds = some o) : CT l D yX7_isDue cX7_isDue 2 (Option.some FieldType.boolean) 1 [.ref q_this, .int x1] (w_X7_isDue D q_this q_kinds w_froms w_tos w_lengths w_figures v_closed v_size v_home v_kinds) (w_X7_isDue D q_this q_kinds w_froms w_tos w_lengths w_figures v_closed v_size v_home v_kinds) (some (.int o)) := by
  refine CT.of mk_X7_isDue (Nat.le_of_ble_eq_true rfl) (fun g hl hD C E => ?_)
  subst hl
  subst hD
  unfold f_X7_isDue at h
  refine j_aload_n C dX7_isDue_0 rfl ?_
  refine j_iload_n C dX7_isDue_1 rfl ?_
  obtain ⟨r_isOpen_1, h_1, h⟩ := of_bind h
  refine j_callV1 C mk_X7_isOpen ms_X7_isOpen kw_509 (c_X7_isOpen (gl g) (gD g) h_1) (by decide) 0 w_X7_isDue_g0 rfl [0] (hC_cons w_X7_isDue_g0 hC_nil) rfl (w_X7_isOpen_a.trans w_X7_isOpen_a.symm) rfl rfl (Nat.le_of_ble_eq_true rfl) dX7_isDue_2 (wput_cons w_X7_isDue_s0 wput_nil) ?_
  refine j_if_eq C h 27 dX7_isDue_5 (by decide) (fun hc h => ?_) (fun hc h => ?_)
  · refine j_iconst C (0) dX7_isDue_27 ki_0 ?_
    have h := Option.some.inj h
    subst h
    exact j_zret C E rfl dX7_isDue_28
  · refine j_aload_n C dX7_isDue_8 rfl ?_
    refine j_get C 0 w_X7_isDue_g0 rfl inX7 3 (by decide) kw_47 rfl rfl dX7_isDue_9 ?_
    refine j_iload_n C dX7_isDue_12 rfl ?_
    refine j_iaload 1 C h w_X7_isDue_g1 rfl dX7_isDue_13 (fun h => ?_)
    refine j_callS1 C mk_X2_of ms_X2_of kw_510 (c_X2_of (gl g) (gD g) (v_kinds (Int32.toNatClampNeg x1))) (by decide) [] rfl rfl rfl rfl rfl (Nat.le_of_ble_eq_true rfl) dX7_isDue_14 rfl ?_
    refine j_kgetN (nm9 := "isToWalk") 4 C rfl (by decide) (by decide) dX7_isDue_17 ?_
    have hj_2 : J g (w_X7_isDue (gD g) q_this q_kinds w_froms w_tos w_lengths w_figures v_closed v_size v_home v_kinds) [] 28 [.int (if (kfld 4 (kidx (v_kinds (Int32.toNatClampNeg x1)))) = 0 then (0 : Int32) else (1 : Int32))] := by
      obtain ⟨hz, h⟩ := of_gb h
      have h := Option.some.inj h
      subst h
      exact j_zret C E hz.1 dX7_isDue_28
    refine jv_if_eq C 27 dX7_isDue_20 (by decide) (fun hc => ?_) (fun hc => ?_)
    · try simp only [if_pos hc] at hj_2
      refine j_iconst C (0) dX7_isDue_27 ki_0 ?_
      exact j_lw hj_2 rfl
    · try simp only [if_neg hc] at hj_2
      refine j_iconst C (1) dX7_isDue_23 ki_1 ?_
      refine j_goto C 28 dX7_isDue_24 (by decide) ?_
      exact j_lw hj_2 rfl

def w_X7_costOn (D : va_G) (q_this q_lengths q_kinds q_figures : Nat) (w_froms w_tos : Value) (v_closed : Int32) (v_size : Int32) (v_home : Int32) (v_lengths : (Nat → Int32)) (v_kinds : (Nat → Int32)) (v_figures : (Nat → Int32)) : va_W := [(q_this, .inr (6, [w_froms, w_tos, .ref q_lengths, .ref q_kinds, .ref q_figures, .int v_closed, .int v_size, .int v_home])), (q_lengths, .inl (D.1 100, 8, .inl v_lengths)), (q_kinds, .inl (D.1 100, 8, .inl v_kinds)), (q_figures, .inl (D.1 100, 8, .inl v_figures))]
theorem w_X7_costOn_g0 {D : va_G} {q_this : Nat} {q_lengths : Nat} {q_kinds : Nat} {q_figures : Nat} {w_froms : Value} {w_tos : Value} {v_closed : Int32} {v_size : Int32} {v_home : Int32} {v_lengths : (Nat → Int32)} {v_kinds : (Nat → Int32)} {v_figures : (Nat → Int32)} : (w_X7_costOn D q_this q_lengths q_kinds q_figures w_froms w_tos v_closed v_size v_home v_lengths v_kinds v_figures)[0]? = some (q_this, .inr (6, [w_froms, w_tos, .ref q_lengths, .ref q_kinds, .ref q_figures, .int v_closed, .int v_size, .int v_home])) := rfl
theorem w_X7_costOn_s0 {D : va_G} {q_this : Nat} {q_lengths : Nat} {q_kinds : Nat} {q_figures : Nat} {w_froms : Value} {w_tos : Value} {v_closed : Int32} {v_size : Int32} {v_home : Int32} {v_lengths : (Nat → Int32)} {v_kinds : (Nat → Int32)} {v_figures : (Nat → Int32)} {v_closed' : Int32} {v_size' : Int32} {v_home' : Int32} : (w_X7_costOn D q_this q_lengths q_kinds q_figures w_froms w_tos v_closed v_size v_home v_lengths v_kinds v_figures).set 0 (q_this, .inr (6, [w_froms, w_tos, .ref q_lengths, .ref q_kinds, .ref q_figures, .int v_closed', .int v_size', .int v_home'])) = (w_X7_costOn D q_this q_lengths q_kinds q_figures w_froms w_tos v_closed' v_size' v_home' v_lengths v_kinds v_figures) := rfl
theorem w_X7_costOn_g1 {D : va_G} {q_this : Nat} {q_lengths : Nat} {q_kinds : Nat} {q_figures : Nat} {w_froms : Value} {w_tos : Value} {v_closed : Int32} {v_size : Int32} {v_home : Int32} {v_lengths : (Nat → Int32)} {v_kinds : (Nat → Int32)} {v_figures : (Nat → Int32)} : (w_X7_costOn D q_this q_lengths q_kinds q_figures w_froms w_tos v_closed v_size v_home v_lengths v_kinds v_figures)[1]? = some (q_lengths, .inl (D.1 100, 8, .inl v_lengths)) := rfl
theorem w_X7_costOn_s1 {D : va_G} {q_this : Nat} {q_lengths : Nat} {q_kinds : Nat} {q_figures : Nat} {w_froms : Value} {w_tos : Value} {v_closed : Int32} {v_size : Int32} {v_home : Int32} {v_lengths : (Nat → Int32)} {v_kinds : (Nat → Int32)} {v_figures : (Nat → Int32)} {v_lengths' : (Nat → Int32)} : (w_X7_costOn D q_this q_lengths q_kinds q_figures w_froms w_tos v_closed v_size v_home v_lengths v_kinds v_figures).set 1 (q_lengths, .inl (D.1 100, 8, .inl v_lengths')) = (w_X7_costOn D q_this q_lengths q_kinds q_figures w_froms w_tos v_closed v_size v_home v_lengths' v_kinds v_figures) := rfl
theorem w_X7_costOn_g2 {D : va_G} {q_this : Nat} {q_lengths : Nat} {q_kinds : Nat} {q_figures : Nat} {w_froms : Value} {w_tos : Value} {v_closed : Int32} {v_size : Int32} {v_home : Int32} {v_lengths : (Nat → Int32)} {v_kinds : (Nat → Int32)} {v_figures : (Nat → Int32)} : (w_X7_costOn D q_this q_lengths q_kinds q_figures w_froms w_tos v_closed v_size v_home v_lengths v_kinds v_figures)[2]? = some (q_kinds, .inl (D.1 100, 8, .inl v_kinds)) := rfl
theorem w_X7_costOn_s2 {D : va_G} {q_this : Nat} {q_lengths : Nat} {q_kinds : Nat} {q_figures : Nat} {w_froms : Value} {w_tos : Value} {v_closed : Int32} {v_size : Int32} {v_home : Int32} {v_lengths : (Nat → Int32)} {v_kinds : (Nat → Int32)} {v_figures : (Nat → Int32)} {v_kinds' : (Nat → Int32)} : (w_X7_costOn D q_this q_lengths q_kinds q_figures w_froms w_tos v_closed v_size v_home v_lengths v_kinds v_figures).set 2 (q_kinds, .inl (D.1 100, 8, .inl v_kinds')) = (w_X7_costOn D q_this q_lengths q_kinds q_figures w_froms w_tos v_closed v_size v_home v_lengths v_kinds' v_figures) := rfl
theorem w_X7_costOn_g3 {D : va_G} {q_this : Nat} {q_lengths : Nat} {q_kinds : Nat} {q_figures : Nat} {w_froms : Value} {w_tos : Value} {v_closed : Int32} {v_size : Int32} {v_home : Int32} {v_lengths : (Nat → Int32)} {v_kinds : (Nat → Int32)} {v_figures : (Nat → Int32)} : (w_X7_costOn D q_this q_lengths q_kinds q_figures w_froms w_tos v_closed v_size v_home v_lengths v_kinds v_figures)[3]? = some (q_figures, .inl (D.1 100, 8, .inl v_figures)) := rfl
theorem w_X7_costOn_s3 {D : va_G} {q_this : Nat} {q_lengths : Nat} {q_kinds : Nat} {q_figures : Nat} {w_froms : Value} {w_tos : Value} {v_closed : Int32} {v_size : Int32} {v_home : Int32} {v_lengths : (Nat → Int32)} {v_kinds : (Nat → Int32)} {v_figures : (Nat → Int32)} {v_figures' : (Nat → Int32)} : (w_X7_costOn D q_this q_lengths q_kinds q_figures w_froms w_tos v_closed v_size v_home v_lengths v_kinds v_figures).set 3 (q_figures, .inl (D.1 100, 8, .inl v_figures')) = (w_X7_costOn D q_this q_lengths q_kinds q_figures w_froms w_tos v_closed v_size v_home v_lengths v_kinds v_figures') := rfl
theorem w_X7_costOn_a {D : va_G} {q_this : Nat} {q_lengths : Nat} {q_kinds : Nat} {q_figures : Nat} {w_froms : Value} {w_tos : Value} {v_closed : Int32} {v_size : Int32} {v_home : Int32} {v_lengths : (Nat → Int32)} {v_kinds : (Nat → Int32)} {v_figures : (Nat → Int32)} : (w_X7_costOn D q_this q_lengths q_kinds q_figures w_froms w_tos v_closed v_size v_home v_lengths v_kinds v_figures).map (fun q => q.1) = [q_this, q_lengths, q_kinds, q_figures] := rfl
def f_X7_costOn (x1 : Int32) (v_closed : Int32) (v_lengths : (Nat → Int32)) (v_kinds : (Nat → Int32)) (v_figures : (Nat → Int32)) : Option Int32 :=
  (f_X7_isOpen x1 v_closed).bind (fun r_isOpen_1 => (if r_isOpen_1 = 0 then some (1000000 : Int32) else ga x1 8 (ga x1 8 (ga x1 8 (some (kOn (kidx (v_kinds (Int32.toNatClampNeg x1))) (v_lengths (Int32.toNatClampNeg x1)) (v_figures (Int32.toNatClampNeg x1))))))))
set_option maxRecDepth 100000 in
set_option maxHeartbeats 4000000 in
theorem c_X7_costOn (l : Launch) (D : va_G) {q_this q_lengths q_kinds q_figures : Nat} {w_froms w_tos : Value} {v_closed : Int32} {v_size : Int32} {v_home : Int32} {v_lengths : (Nat → Int32)} {v_kinds : (Nat → Int32)} {v_figures : (Nat → Int32)} {x1 : Int32} {o : Int32} (h : f_X7_costOn x1 v_closed v_lengths v_kinds v_figures = some o) : CT l D yX7_costOn cX7_costOn 2 (Option.some FieldType.int) 1 [.ref q_this, .int x1] (w_X7_costOn D q_this q_lengths q_kinds q_figures w_froms w_tos v_closed v_size v_home v_lengths v_kinds v_figures) (w_X7_costOn D q_this q_lengths q_kinds q_figures w_froms w_tos v_closed v_size v_home v_lengths v_kinds v_figures) (some (.int o)) := by
  refine CT.of mk_X7_costOn (Nat.le_of_ble_eq_true rfl) (fun g hl hD C E => ?_)
  subst hl
  subst hD
  unfold f_X7_costOn at h
  refine j_aload_n C dX7_costOn_0 rfl ?_
  refine j_iload_n C dX7_costOn_1 rfl ?_
  obtain ⟨r_isOpen_1, h_1, h⟩ := of_bind h
  refine j_callV1 C mk_X7_isOpen ms_X7_isOpen kw_509 (c_X7_isOpen (gl g) (gD g) h_1) (by decide) 0 w_X7_costOn_g0 rfl [0] (hC_cons w_X7_costOn_g0 hC_nil) rfl (w_X7_isOpen_a.trans w_X7_isOpen_a.symm) rfl rfl (Nat.le_of_ble_eq_true rfl) dX7_costOn_2 (wput_cons w_X7_costOn_s0 wput_nil) ?_
  refine j_if_eq C h 35 dX7_costOn_5 (by decide) (fun hc h => ?_) (fun hc h => ?_)
  · refine j_ldc C kw_521 dX7_costOn_35 ?_
    have h := Option.some.inj h
    subst h
    exact j_iret C E dX7_costOn_37
  · refine j_aload_n C dX7_costOn_8 rfl ?_
    refine j_get C 0 w_X7_costOn_g0 rfl inX7 3 (by decide) kw_47 rfl rfl dX7_costOn_9 ?_
    refine j_iload_n C dX7_costOn_12 rfl ?_
    refine j_iaload 2 C h w_X7_costOn_g2 rfl dX7_costOn_13 (fun h => ?_)
    refine j_callS1 C mk_X2_of ms_X2_of kw_510 (c_X2_of (gl g) (gD g) (v_kinds (Int32.toNatClampNeg x1))) (by decide) [] rfl rfl rfl rfl rfl (Nat.le_of_ble_eq_true rfl) dX7_costOn_14 rfl ?_
    refine j_aload_n C dX7_costOn_17 rfl ?_
    refine j_get C 0 w_X7_costOn_g0 rfl inX7 2 (by decide) kw_44 rfl rfl dX7_costOn_18 ?_
    refine j_iload_n C dX7_costOn_21 rfl ?_
    refine j_iaload 1 C h w_X7_costOn_g1 rfl dX7_costOn_22 (fun h => ?_)
    refine j_aload_n C dX7_costOn_23 rfl ?_
    refine j_get C 0 w_X7_costOn_g0 rfl inX7 4 (by decide) kw_50 rfl rfl dX7_costOn_24 ?_
    refine j_iload_n C dX7_costOn_27 rfl ?_
    refine j_iaload 3 C h w_X7_costOn_g3 rfl dX7_costOn_28 (fun h => ?_)
    refine j_callK1 C mk_X2_costOn ms_X2_costOn kw_517 (c_X2_costOn (gl g) (gD g) _ _ _) (by decide) rfl rfl rfl (Nat.le_of_ble_eq_true rfl) dX7_costOn_29 ?_
    refine j_goto C 37 dX7_costOn_32 (by decide) ?_
    have h := Option.some.inj h
    subst h
    exact j_iret C E dX7_costOn_37

def w_X7_costBack (D : va_G) (q_this q_lengths q_kinds q_figures : Nat) (w_froms w_tos : Value) (v_closed : Int32) (v_size : Int32) (v_home : Int32) (v_lengths : (Nat → Int32)) (v_kinds : (Nat → Int32)) (v_figures : (Nat → Int32)) : va_W := [(q_this, .inr (6, [w_froms, w_tos, .ref q_lengths, .ref q_kinds, .ref q_figures, .int v_closed, .int v_size, .int v_home])), (q_lengths, .inl (D.1 100, 8, .inl v_lengths)), (q_kinds, .inl (D.1 100, 8, .inl v_kinds)), (q_figures, .inl (D.1 100, 8, .inl v_figures))]
theorem w_X7_costBack_g0 {D : va_G} {q_this : Nat} {q_lengths : Nat} {q_kinds : Nat} {q_figures : Nat} {w_froms : Value} {w_tos : Value} {v_closed : Int32} {v_size : Int32} {v_home : Int32} {v_lengths : (Nat → Int32)} {v_kinds : (Nat → Int32)} {v_figures : (Nat → Int32)} : (w_X7_costBack D q_this q_lengths q_kinds q_figures w_froms w_tos v_closed v_size v_home v_lengths v_kinds v_figures)[0]? = some (q_this, .inr (6, [w_froms, w_tos, .ref q_lengths, .ref q_kinds, .ref q_figures, .int v_closed, .int v_size, .int v_home])) := rfl
theorem w_X7_costBack_s0 {D : va_G} {q_this : Nat} {q_lengths : Nat} {q_kinds : Nat} {q_figures : Nat} {w_froms : Value} {w_tos : Value} {v_closed : Int32} {v_size : Int32} {v_home : Int32} {v_lengths : (Nat → Int32)} {v_kinds : (Nat → Int32)} {v_figures : (Nat → Int32)} {v_closed' : Int32} {v_size' : Int32} {v_home' : Int32} : (w_X7_costBack D q_this q_lengths q_kinds q_figures w_froms w_tos v_closed v_size v_home v_lengths v_kinds v_figures).set 0 (q_this, .inr (6, [w_froms, w_tos, .ref q_lengths, .ref q_kinds, .ref q_figures, .int v_closed', .int v_size', .int v_home'])) = (w_X7_costBack D q_this q_lengths q_kinds q_figures w_froms w_tos v_closed' v_size' v_home' v_lengths v_kinds v_figures) := rfl
theorem w_X7_costBack_g1 {D : va_G} {q_this : Nat} {q_lengths : Nat} {q_kinds : Nat} {q_figures : Nat} {w_froms : Value} {w_tos : Value} {v_closed : Int32} {v_size : Int32} {v_home : Int32} {v_lengths : (Nat → Int32)} {v_kinds : (Nat → Int32)} {v_figures : (Nat → Int32)} : (w_X7_costBack D q_this q_lengths q_kinds q_figures w_froms w_tos v_closed v_size v_home v_lengths v_kinds v_figures)[1]? = some (q_lengths, .inl (D.1 100, 8, .inl v_lengths)) := rfl
theorem w_X7_costBack_s1 {D : va_G} {q_this : Nat} {q_lengths : Nat} {q_kinds : Nat} {q_figures : Nat} {w_froms : Value} {w_tos : Value} {v_closed : Int32} {v_size : Int32} {v_home : Int32} {v_lengths : (Nat → Int32)} {v_kinds : (Nat → Int32)} {v_figures : (Nat → Int32)} {v_lengths' : (Nat → Int32)} : (w_X7_costBack D q_this q_lengths q_kinds q_figures w_froms w_tos v_closed v_size v_home v_lengths v_kinds v_figures).set 1 (q_lengths, .inl (D.1 100, 8, .inl v_lengths')) = (w_X7_costBack D q_this q_lengths q_kinds q_figures w_froms w_tos v_closed v_size v_home v_lengths' v_kinds v_figures) := rfl
theorem w_X7_costBack_g2 {D : va_G} {q_this : Nat} {q_lengths : Nat} {q_kinds : Nat} {q_figures : Nat} {w_froms : Value} {w_tos : Value} {v_closed : Int32} {v_size : Int32} {v_home : Int32} {v_lengths : (Nat → Int32)} {v_kinds : (Nat → Int32)} {v_figures : (Nat → Int32)} : (w_X7_costBack D q_this q_lengths q_kinds q_figures w_froms w_tos v_closed v_size v_home v_lengths v_kinds v_figures)[2]? = some (q_kinds, .inl (D.1 100, 8, .inl v_kinds)) := rfl
theorem w_X7_costBack_s2 {D : va_G} {q_this : Nat} {q_lengths : Nat} {q_kinds : Nat} {q_figures : Nat} {w_froms : Value} {w_tos : Value} {v_closed : Int32} {v_size : Int32} {v_home : Int32} {v_lengths : (Nat → Int32)} {v_kinds : (Nat → Int32)} {v_figures : (Nat → Int32)} {v_kinds' : (Nat → Int32)} : (w_X7_costBack D q_this q_lengths q_kinds q_figures w_froms w_tos v_closed v_size v_home v_lengths v_kinds v_figures).set 2 (q_kinds, .inl (D.1 100, 8, .inl v_kinds')) = (w_X7_costBack D q_this q_lengths q_kinds q_figures w_froms w_tos v_closed v_size v_home v_lengths v_kinds' v_figures) := rfl
theorem w_X7_costBack_g3 {D : va_G} {q_this : Nat} {q_lengths : Nat} {q_kinds : Nat} {q_figures : Nat} {w_froms : Value} {w_tos : Value} {v_closed : Int32} {v_size : Int32} {v_home : Int32} {v_lengths : (Nat → Int32)} {v_kinds : (Nat → Int32)} {v_figures : (Nat → Int32)} : (w_X7_costBack D q_this q_lengths q_kinds q_figures w_froms w_tos v_closed v_size v_home v_lengths v_kinds v_figures)[3]? = some (q_figures, .inl (D.1 100, 8, .inl v_figures)) := rfl
theorem w_X7_costBack_s3 {D : va_G} {q_this : Nat} {q_lengths : Nat} {q_kinds : Nat} {q_figures : Nat} {w_froms : Value} {w_tos : Value} {v_closed : Int32} {v_size : Int32} {v_home : Int32} {v_lengths : (Nat → Int32)} {v_kinds : (Nat → Int32)} {v_figures : (Nat → Int32)} {v_figures' : (Nat → Int32)} : (w_X7_costBack D q_this q_lengths q_kinds q_figures w_froms w_tos v_closed v_size v_home v_lengths v_kinds v_figures).set 3 (q_figures, .inl (D.1 100, 8, .inl v_figures')) = (w_X7_costBack D q_this q_lengths q_kinds q_figures w_froms w_tos v_closed v_size v_home v_lengths v_kinds v_figures') := rfl
theorem w_X7_costBack_a {D : va_G} {q_this : Nat} {q_lengths : Nat} {q_kinds : Nat} {q_figures : Nat} {w_froms : Value} {w_tos : Value} {v_closed : Int32} {v_size : Int32} {v_home : Int32} {v_lengths : (Nat → Int32)} {v_kinds : (Nat → Int32)} {v_figures : (Nat → Int32)} : (w_X7_costBack D q_this q_lengths q_kinds q_figures w_froms w_tos v_closed v_size v_home v_lengths v_kinds v_figures).map (fun q => q.1) = [q_this, q_lengths, q_kinds, q_figures] := rfl
def f_X7_costBack (x1 : Int32) (v_closed : Int32) (v_lengths : (Nat → Int32)) (v_kinds : (Nat → Int32)) (v_figures : (Nat → Int32)) : Option Int32 :=
  (f_X7_isOpen x1 v_closed).bind (fun r_isOpen_1 => (if r_isOpen_1 = 0 then some (1000000 : Int32) else ga x1 8 (ga x1 8 (ga x1 8 (some (kBack (kidx (v_kinds (Int32.toNatClampNeg x1))) (v_lengths (Int32.toNatClampNeg x1)) (v_figures (Int32.toNatClampNeg x1))))))))
set_option maxRecDepth 100000 in
set_option maxHeartbeats 4000000 in
theorem c_X7_costBack (l : Launch) (D : va_G) {q_this q_lengths q_kinds q_figures : Nat} {w_froms w_tos : Value} {v_closed : Int32} {v_size : Int32} {v_home : Int32} {v_lengths : (Nat → Int32)} {v_kinds : (Nat → Int32)} {v_figures : (Nat → Int32)} {x1 : Int32} {o : Int32} (h : f_X7_costBack x1 v_closed v_lengths v_kinds v_figures = some o) : CT l D yX7_costBack cX7_costBack 2 (Option.some FieldType.int) 1 [.ref q_this, .int x1] (w_X7_costBack D q_this q_lengths q_kinds q_figures w_froms w_tos v_closed v_size v_home v_lengths v_kinds v_figures) (w_X7_costBack D q_this q_lengths q_kinds q_figures w_froms w_tos v_closed v_size v_home v_lengths v_kinds v_figures) (some (.int o)) := by
  refine CT.of mk_X7_costBack (Nat.le_of_ble_eq_true rfl) (fun g hl hD C E => ?_)
  subst hl
  subst hD
  unfold f_X7_costBack at h
  refine j_aload_n C dX7_costBack_0 rfl ?_
  refine j_iload_n C dX7_costBack_1 rfl ?_
  obtain ⟨r_isOpen_1, h_1, h⟩ := of_bind h
  refine j_callV1 C mk_X7_isOpen ms_X7_isOpen kw_509 (c_X7_isOpen (gl g) (gD g) h_1) (by decide) 0 w_X7_costBack_g0 rfl [0] (hC_cons w_X7_costBack_g0 hC_nil) rfl (w_X7_isOpen_a.trans w_X7_isOpen_a.symm) rfl rfl (Nat.le_of_ble_eq_true rfl) dX7_costBack_2 (wput_cons w_X7_costBack_s0 wput_nil) ?_
  refine j_if_eq C h 35 dX7_costBack_5 (by decide) (fun hc h => ?_) (fun hc h => ?_)
  · refine j_ldc C kw_521 dX7_costBack_35 ?_
    have h := Option.some.inj h
    subst h
    exact j_iret C E dX7_costBack_37
  · refine j_aload_n C dX7_costBack_8 rfl ?_
    refine j_get C 0 w_X7_costBack_g0 rfl inX7 3 (by decide) kw_47 rfl rfl dX7_costBack_9 ?_
    refine j_iload_n C dX7_costBack_12 rfl ?_
    refine j_iaload 2 C h w_X7_costBack_g2 rfl dX7_costBack_13 (fun h => ?_)
    refine j_callS1 C mk_X2_of ms_X2_of kw_510 (c_X2_of (gl g) (gD g) (v_kinds (Int32.toNatClampNeg x1))) (by decide) [] rfl rfl rfl rfl rfl (Nat.le_of_ble_eq_true rfl) dX7_costBack_14 rfl ?_
    refine j_aload_n C dX7_costBack_17 rfl ?_
    refine j_get C 0 w_X7_costBack_g0 rfl inX7 2 (by decide) kw_44 rfl rfl dX7_costBack_18 ?_
    refine j_iload_n C dX7_costBack_21 rfl ?_
    refine j_iaload 1 C h w_X7_costBack_g1 rfl dX7_costBack_22 (fun h => ?_)
    refine j_aload_n C dX7_costBack_23 rfl ?_
    refine j_get C 0 w_X7_costBack_g0 rfl inX7 4 (by decide) kw_50 rfl rfl dX7_costBack_24 ?_
    refine j_iload_n C dX7_costBack_27 rfl ?_
    refine j_iaload 3 C h w_X7_costBack_g3 rfl dX7_costBack_28 (fun h => ?_)
    refine j_callK1 C mk_X2_costBack ms_X2_costBack kw_530 (c_X2_costBack (gl g) (gD g) _ _ _) (by decide) rfl rfl rfl (Nat.le_of_ble_eq_true rfl) dX7_costBack_29 ?_
    refine j_goto C 37 dX7_costBack_32 (by decide) ?_
    have h := Option.some.inj h
    subst h
    exact j_iret C E dX7_costBack_37

def w_X7_dueStreets (D : va_G) (q_this q_kinds : Nat) (w_froms w_tos w_lengths w_figures : Value) (v_closed : Int32) (v_size : Int32) (v_home : Int32) (v_kinds : (Nat → Int32)) : va_W := [(q_this, .inr (6, [w_froms, w_tos, w_lengths, .ref q_kinds, w_figures, .int v_closed, .int v_size, .int v_home])), (q_kinds, .inl (D.1 100, 8, .inl v_kinds))]
theorem w_X7_dueStreets_g0 {D : va_G} {q_this : Nat} {q_kinds : Nat} {w_froms : Value} {w_tos : Value} {w_lengths : Value} {w_figures : Value} {v_closed : Int32} {v_size : Int32} {v_home : Int32} {v_kinds : (Nat → Int32)} : (w_X7_dueStreets D q_this q_kinds w_froms w_tos w_lengths w_figures v_closed v_size v_home v_kinds)[0]? = some (q_this, .inr (6, [w_froms, w_tos, w_lengths, .ref q_kinds, w_figures, .int v_closed, .int v_size, .int v_home])) := rfl
theorem w_X7_dueStreets_s0 {D : va_G} {q_this : Nat} {q_kinds : Nat} {w_froms : Value} {w_tos : Value} {w_lengths : Value} {w_figures : Value} {v_closed : Int32} {v_size : Int32} {v_home : Int32} {v_kinds : (Nat → Int32)} {v_closed' : Int32} {v_size' : Int32} {v_home' : Int32} : (w_X7_dueStreets D q_this q_kinds w_froms w_tos w_lengths w_figures v_closed v_size v_home v_kinds).set 0 (q_this, .inr (6, [w_froms, w_tos, w_lengths, .ref q_kinds, w_figures, .int v_closed', .int v_size', .int v_home'])) = (w_X7_dueStreets D q_this q_kinds w_froms w_tos w_lengths w_figures v_closed' v_size' v_home' v_kinds) := rfl
theorem w_X7_dueStreets_g1 {D : va_G} {q_this : Nat} {q_kinds : Nat} {w_froms : Value} {w_tos : Value} {w_lengths : Value} {w_figures : Value} {v_closed : Int32} {v_size : Int32} {v_home : Int32} {v_kinds : (Nat → Int32)} : (w_X7_dueStreets D q_this q_kinds w_froms w_tos w_lengths w_figures v_closed v_size v_home v_kinds)[1]? = some (q_kinds, .inl (D.1 100, 8, .inl v_kinds)) := rfl
theorem w_X7_dueStreets_s1 {D : va_G} {q_this : Nat} {q_kinds : Nat} {w_froms : Value} {w_tos : Value} {w_lengths : Value} {w_figures : Value} {v_closed : Int32} {v_size : Int32} {v_home : Int32} {v_kinds : (Nat → Int32)} {v_kinds' : (Nat → Int32)} : (w_X7_dueStreets D q_this q_kinds w_froms w_tos w_lengths w_figures v_closed v_size v_home v_kinds).set 1 (q_kinds, .inl (D.1 100, 8, .inl v_kinds')) = (w_X7_dueStreets D q_this q_kinds w_froms w_tos w_lengths w_figures v_closed v_size v_home v_kinds') := rfl
theorem w_X7_dueStreets_a {D : va_G} {q_this : Nat} {q_kinds : Nat} {w_froms : Value} {w_tos : Value} {w_lengths : Value} {w_figures : Value} {v_closed : Int32} {v_size : Int32} {v_home : Int32} {v_kinds : (Nat → Int32)} : (w_X7_dueStreets D q_this q_kinds w_froms w_tos w_lengths w_figures v_closed v_size v_home v_kinds).map (fun q => q.1) = [q_this, q_kinds] := rfl
def f_X7_dueStreets_b4 (v_size : Int32) (x2_4 : Int32) (x1_4 : Int32) (v_closed : Int32) (v_kinds : (Nat → Int32)) : Option ((Int32 × Int32) ⊕ Int32) :=
  (if v_size ≤ x2_4 then some (.inr x1_4) else (f_X7_isDue x2_4 v_closed v_kinds).bind (fun r_isDue_1 => some (.inl (if r_isDue_1 = 0 then x1_4 else (x1_4 ||| ((1 : Int32) <<< (x2_4 &&& 31))), x2_4 + (1 : Int32)))))
def f_X7_dueStreets (N : Nat) (v_closed : Int32) (v_size : Int32) (v_kinds : (Nat → Int32)) : Option Int32 :=
  (lp (fun s_4 => f_X7_dueStreets_b4 v_size s_4.2 s_4.1 v_closed v_kinds) N ((0 : Int32), (0 : Int32))).bind (fun e_4 => some e_4)
set_option maxRecDepth 100000 in
set_option maxHeartbeats 4000000 in
theorem c_X7_dueStreets (l : Launch) (D : va_G) (N : Nat) {q_this q_kinds : Nat} {w_froms w_tos w_lengths w_figures : Value} {v_closed : Int32} {v_size : Int32} {v_home : Int32} {v_kinds : (Nat → Int32)} {o : Int32} (h : f_X7_dueStreets N v_closed v_size v_kinds = some o) : CT l D yX7_dueStreets cX7_dueStreets 3 (Option.some FieldType.int) 2 [.ref q_this] (w_X7_dueStreets D q_this q_kinds w_froms w_tos w_lengths w_figures v_closed v_size v_home v_kinds) (w_X7_dueStreets D q_this q_kinds w_froms w_tos w_lengths w_figures v_closed v_size v_home v_kinds) (some (.int o)) := by
  refine CT.of mk_X7_dueStreets (Nat.le_of_ble_eq_true rfl) (fun g hl hD C E => ?_)
  subst hl
  subst hD
  unfold f_X7_dueStreets at h
  refine j_iconst C (0) dX7_dueStreets_0 ki_0 ?_
  refine j_istore_n C dX7_dueStreets_1 (by decide) ?_
  refine j_iconst C (0) dX7_dueStreets_2 ki_0 ?_
  refine j_istore_n C dX7_dueStreets_3 (by decide) ?_
  obtain ⟨e_4, hl_4, h⟩ := of_bind h
  have ha_4 : J g (w_X7_dueStreets (gD g) q_this q_kinds w_froms w_tos w_lengths w_figures v_closed v_size v_home v_kinds) [(1, .int (e_4))] 32 [] := by
    refine j_iload_n C dX7_dueStreets_32 rfl ?_
    have h := Option.some.inj h
    subst h
    exact j_iret C E dX7_dueStreets_33
  refine j_lv (lv' := [(0, .ref q_this), (1, .int ((0 : Int32))), (2, .int ((0 : Int32)))]) rfl ?_
  refine lp_ind hl_4 (fun s_4 => J g (w_X7_dueStreets (gD g) q_this q_kinds w_froms w_tos w_lengths w_figures v_closed v_size v_home v_kinds) [(0, .ref q_this), (1, .int (s_4.1)), (2, .int (s_4.2))] 4 []) (fun s_4 r_4 h hc_4 hx_4 => ?_)
  unfold f_X7_dueStreets_b4 at h
  refine j_iload_n C dX7_dueStreets_4 rfl ?_
  refine j_aload_n C dX7_dueStreets_5 rfl ?_
  refine j_get C 0 w_X7_dueStreets_g0 rfl inX7 6 (by decide) kw_54 rfl rfl dX7_dueStreets_6 ?_
  refine j_icmp_ge C h 32 dX7_dueStreets_9 (by decide) (fun hc h => ?_) (fun hc h => ?_)
  · have h := Option.some.inj h
    subst h
    have h9 := hx_4 _ rfl
    subst h9
    exact j_lw ha_4 rfl
  · refine j_aload_n C dX7_dueStreets_12 rfl ?_
    refine j_iload_n C dX7_dueStreets_13 rfl ?_
    obtain ⟨r_isDue_1, h_1, h⟩ := of_bind h
    refine j_callV1 C mk_X7_isDue ms_X7_isDue kw_555 (c_X7_isDue (gl g) (gD g) h_1) (by decide) 0 w_X7_dueStreets_g0 rfl [0, 1] (hC_cons w_X7_dueStreets_g0 (hC_cons w_X7_dueStreets_g1 hC_nil)) rfl (w_X7_isDue_a.trans w_X7_isDue_a.symm) rfl rfl (Nat.le_of_ble_eq_true rfl) dX7_dueStreets_14 (wput_cons w_X7_dueStreets_s0 (wput_cons w_X7_dueStreets_s1 wput_nil)) ?_
    have hj_2 : J g (w_X7_dueStreets (gD g) q_this q_kinds w_froms w_tos w_lengths w_figures v_closed v_size v_home v_kinds) [(0, .ref q_this), (1, .int (if r_isDue_1 = 0 then s_4.1 else (s_4.1 ||| ((1 : Int32) <<< (s_4.2 &&& 31))))), (2, .int (s_4.2))] 26 [] := by
      refine j_inc C (1) dX7_dueStreets_26 rfl ki_1 (by decide) ?_
      refine j_goto C 4 dX7_dueStreets_29 (by decide) ?_
      have h := Option.some.inj h
      subst h
      have hc9 := hc_4 _ rfl
      exact j_lw hc9 rfl
    refine jv_if_eq C 26 dX7_dueStreets_17 (by decide) (fun hc => ?_) (fun hc => ?_)
    · try simp only [if_pos hc] at hj_2
      exact j_lw hj_2 rfl
    · try simp only [if_neg hc] at hj_2
      refine j_iload_n C dX7_dueStreets_20 rfl ?_
      refine j_iconst C (1) dX7_dueStreets_21 ki_1 ?_
      refine j_iload_n C dX7_dueStreets_22 rfl ?_
      refine j_ishl C dX7_dueStreets_23 ?_
      refine j_ior C dX7_dueStreets_24 ?_
      refine j_istore_n C dX7_dueStreets_25 (by decide) ?_
      exact j_lw hj_2 rfl

def w_X7_degree (D : va_G) (q_this q_froms q_tos q_kinds : Nat) (w_lengths w_figures : Value) (v_closed : Int32) (v_size : Int32) (v_home : Int32) (v_froms : (Nat → Int32)) (v_tos : (Nat → Int32)) (v_kinds : (Nat → Int32)) : va_W := [(q_this, .inr (6, [.ref q_froms, .ref q_tos, w_lengths, .ref q_kinds, w_figures, .int v_closed, .int v_size, .int v_home])), (q_froms, .inl (D.1 100, 8, .inl v_froms)), (q_tos, .inl (D.1 100, 8, .inl v_tos)), (q_kinds, .inl (D.1 100, 8, .inl v_kinds))]
theorem w_X7_degree_g0 {D : va_G} {q_this : Nat} {q_froms : Nat} {q_tos : Nat} {q_kinds : Nat} {w_lengths : Value} {w_figures : Value} {v_closed : Int32} {v_size : Int32} {v_home : Int32} {v_froms : (Nat → Int32)} {v_tos : (Nat → Int32)} {v_kinds : (Nat → Int32)} : (w_X7_degree D q_this q_froms q_tos q_kinds w_lengths w_figures v_closed v_size v_home v_froms v_tos v_kinds)[0]? = some (q_this, .inr (6, [.ref q_froms, .ref q_tos, w_lengths, .ref q_kinds, w_figures, .int v_closed, .int v_size, .int v_home])) := rfl
theorem w_X7_degree_s0 {D : va_G} {q_this : Nat} {q_froms : Nat} {q_tos : Nat} {q_kinds : Nat} {w_lengths : Value} {w_figures : Value} {v_closed : Int32} {v_size : Int32} {v_home : Int32} {v_froms : (Nat → Int32)} {v_tos : (Nat → Int32)} {v_kinds : (Nat → Int32)} {v_closed' : Int32} {v_size' : Int32} {v_home' : Int32} : (w_X7_degree D q_this q_froms q_tos q_kinds w_lengths w_figures v_closed v_size v_home v_froms v_tos v_kinds).set 0 (q_this, .inr (6, [.ref q_froms, .ref q_tos, w_lengths, .ref q_kinds, w_figures, .int v_closed', .int v_size', .int v_home'])) = (w_X7_degree D q_this q_froms q_tos q_kinds w_lengths w_figures v_closed' v_size' v_home' v_froms v_tos v_kinds) := rfl
theorem w_X7_degree_g1 {D : va_G} {q_this : Nat} {q_froms : Nat} {q_tos : Nat} {q_kinds : Nat} {w_lengths : Value} {w_figures : Value} {v_closed : Int32} {v_size : Int32} {v_home : Int32} {v_froms : (Nat → Int32)} {v_tos : (Nat → Int32)} {v_kinds : (Nat → Int32)} : (w_X7_degree D q_this q_froms q_tos q_kinds w_lengths w_figures v_closed v_size v_home v_froms v_tos v_kinds)[1]? = some (q_froms, .inl (D.1 100, 8, .inl v_froms)) := rfl
theorem w_X7_degree_s1 {D : va_G} {q_this : Nat} {q_froms : Nat} {q_tos : Nat} {q_kinds : Nat} {w_lengths : Value} {w_figures : Value} {v_closed : Int32} {v_size : Int32} {v_home : Int32} {v_froms : (Nat → Int32)} {v_tos : (Nat → Int32)} {v_kinds : (Nat → Int32)} {v_froms' : (Nat → Int32)} : (w_X7_degree D q_this q_froms q_tos q_kinds w_lengths w_figures v_closed v_size v_home v_froms v_tos v_kinds).set 1 (q_froms, .inl (D.1 100, 8, .inl v_froms')) = (w_X7_degree D q_this q_froms q_tos q_kinds w_lengths w_figures v_closed v_size v_home v_froms' v_tos v_kinds) := rfl
theorem w_X7_degree_g2 {D : va_G} {q_this : Nat} {q_froms : Nat} {q_tos : Nat} {q_kinds : Nat} {w_lengths : Value} {w_figures : Value} {v_closed : Int32} {v_size : Int32} {v_home : Int32} {v_froms : (Nat → Int32)} {v_tos : (Nat → Int32)} {v_kinds : (Nat → Int32)} : (w_X7_degree D q_this q_froms q_tos q_kinds w_lengths w_figures v_closed v_size v_home v_froms v_tos v_kinds)[2]? = some (q_tos, .inl (D.1 100, 8, .inl v_tos)) := rfl
theorem w_X7_degree_s2 {D : va_G} {q_this : Nat} {q_froms : Nat} {q_tos : Nat} {q_kinds : Nat} {w_lengths : Value} {w_figures : Value} {v_closed : Int32} {v_size : Int32} {v_home : Int32} {v_froms : (Nat → Int32)} {v_tos : (Nat → Int32)} {v_kinds : (Nat → Int32)} {v_tos' : (Nat → Int32)} : (w_X7_degree D q_this q_froms q_tos q_kinds w_lengths w_figures v_closed v_size v_home v_froms v_tos v_kinds).set 2 (q_tos, .inl (D.1 100, 8, .inl v_tos')) = (w_X7_degree D q_this q_froms q_tos q_kinds w_lengths w_figures v_closed v_size v_home v_froms v_tos' v_kinds) := rfl
theorem w_X7_degree_g3 {D : va_G} {q_this : Nat} {q_froms : Nat} {q_tos : Nat} {q_kinds : Nat} {w_lengths : Value} {w_figures : Value} {v_closed : Int32} {v_size : Int32} {v_home : Int32} {v_froms : (Nat → Int32)} {v_tos : (Nat → Int32)} {v_kinds : (Nat → Int32)} : (w_X7_degree D q_this q_froms q_tos q_kinds w_lengths w_figures v_closed v_size v_home v_froms v_tos v_kinds)[3]? = some (q_kinds, .inl (D.1 100, 8, .inl v_kinds)) := rfl
theorem w_X7_degree_s3 {D : va_G} {q_this : Nat} {q_froms : Nat} {q_tos : Nat} {q_kinds : Nat} {w_lengths : Value} {w_figures : Value} {v_closed : Int32} {v_size : Int32} {v_home : Int32} {v_froms : (Nat → Int32)} {v_tos : (Nat → Int32)} {v_kinds : (Nat → Int32)} {v_kinds' : (Nat → Int32)} : (w_X7_degree D q_this q_froms q_tos q_kinds w_lengths w_figures v_closed v_size v_home v_froms v_tos v_kinds).set 3 (q_kinds, .inl (D.1 100, 8, .inl v_kinds')) = (w_X7_degree D q_this q_froms q_tos q_kinds w_lengths w_figures v_closed v_size v_home v_froms v_tos v_kinds') := rfl
theorem w_X7_degree_a {D : va_G} {q_this : Nat} {q_froms : Nat} {q_tos : Nat} {q_kinds : Nat} {w_lengths : Value} {w_figures : Value} {v_closed : Int32} {v_size : Int32} {v_home : Int32} {v_froms : (Nat → Int32)} {v_tos : (Nat → Int32)} {v_kinds : (Nat → Int32)} : (w_X7_degree D q_this q_froms q_tos q_kinds w_lengths w_figures v_closed v_size v_home v_froms v_tos v_kinds).map (fun q => q.1) = [q_this, q_froms, q_tos, q_kinds] := rfl
def f_X7_degree (N : Nat) (x1 : Int32) (v_closed : Int32) (v_size : Int32) (v_froms : (Nat → Int32)) (v_tos : (Nat → Int32)) (v_kinds : (Nat → Int32)) : Option Int32 :=
  (f_X7_streetsAt N x1 v_size v_froms v_tos).bind (fun r_streetsAt_1 => (f_X7_dueStreets N v_closed v_size v_kinds).bind (fun r_dueStreets_2 => (f_J6_bitCount_0f7a4 (r_streetsAt_1 &&& r_dueStreets_2)).bind (fun r_bitCount_3 => some r_bitCount_3)))
set_option maxRecDepth 100000 in
set_option maxHeartbeats 4000000 in
theorem c_X7_degree (l : Launch) (D : va_G) (N : Nat) {q_this q_froms q_tos q_kinds : Nat} {w_lengths w_figures : Value} {v_closed : Int32} {v_size : Int32} {v_home : Int32} {v_froms : (Nat → Int32)} {v_tos : (Nat → Int32)} {v_kinds : (Nat → Int32)} {x1 : Int32} {o : Int32} (h : f_X7_degree N x1 v_closed v_size v_froms v_tos v_kinds = some o) : CT l D yX7_degree cX7_degree 2 (Option.some FieldType.int) 3 [.ref q_this, .int x1] (w_X7_degree D q_this q_froms q_tos q_kinds w_lengths w_figures v_closed v_size v_home v_froms v_tos v_kinds) (w_X7_degree D q_this q_froms q_tos q_kinds w_lengths w_figures v_closed v_size v_home v_froms v_tos v_kinds) (some (.int o)) := by
  refine CT.of mk_X7_degree (Nat.le_of_ble_eq_true rfl) (fun g hl hD C E => ?_)
  subst hl
  subst hD
  unfold f_X7_degree at h
  refine j_aload_n C dX7_degree_0 rfl ?_
  refine j_iload_n C dX7_degree_1 rfl ?_
  obtain ⟨r_streetsAt_1, h_1, h⟩ := of_bind h
  refine j_callV1 C mk_X7_streetsAt ms_X7_streetsAt kw_543 (c_X7_streetsAt (gl g) (gD g) N h_1) (by decide) 0 w_X7_degree_g0 rfl [0, 1, 2] (hC_cons w_X7_degree_g0 (hC_cons w_X7_degree_g1 (hC_cons w_X7_degree_g2 hC_nil))) rfl (w_X7_streetsAt_a.trans w_X7_streetsAt_a.symm) rfl rfl (Nat.le_of_ble_eq_true rfl) dX7_degree_2 (wput_cons w_X7_degree_s0 (wput_cons w_X7_degree_s1 (wput_cons w_X7_degree_s2 wput_nil))) ?_
  refine j_aload_n C dX7_degree_5 rfl ?_
  obtain ⟨r_dueStreets_2, h_2, h⟩ := of_bind h
  refine j_callV1 C mk_X7_dueStreets ms_X7_dueStreets kw_551 (c_X7_dueStreets (gl g) (gD g) N h_2) (by decide) 0 w_X7_degree_g0 rfl [0, 3] (hC_cons w_X7_degree_g0 (hC_cons w_X7_degree_g3 hC_nil)) rfl (w_X7_dueStreets_a.trans w_X7_dueStreets_a.symm) rfl rfl (Nat.le_of_ble_eq_true rfl) dX7_degree_6 (wput_cons w_X7_degree_s0 (wput_cons w_X7_degree_s3 wput_nil)) ?_
  refine j_iand C dX7_degree_9 ?_
  obtain ⟨r_bitCount_3, h_3, h⟩ := of_bind h
  refine j_callS1 C mk_J6_bitCount_0f7a4 ms_J6_bitCount_0f7a4 kw_559 (c_J6_bitCount_0f7a4 (gl g) (gD g) h_3) (by decide) [] hC_nil rfl (w_J6_bitCount_0f7a4_a.trans w_J6_bitCount_0f7a4_a.symm) rfl rfl (Nat.le_of_ble_eq_true rfl) dX7_degree_10 wput_nil ?_
  have h := Option.some.inj h
  subst h
  exact j_iret C E dX7_degree_13

def w_X7_oddCorners (D : va_G) (q_this q_froms q_tos q_kinds : Nat) (w_lengths w_figures : Value) (v_closed : Int32) (v_size : Int32) (v_home : Int32) (v_froms : (Nat → Int32)) (v_tos : (Nat → Int32)) (v_kinds : (Nat → Int32)) : va_W := [(q_this, .inr (6, [.ref q_froms, .ref q_tos, w_lengths, .ref q_kinds, w_figures, .int v_closed, .int v_size, .int v_home])), (q_froms, .inl (D.1 100, 8, .inl v_froms)), (q_tos, .inl (D.1 100, 8, .inl v_tos)), (q_kinds, .inl (D.1 100, 8, .inl v_kinds))]
theorem w_X7_oddCorners_g0 {D : va_G} {q_this : Nat} {q_froms : Nat} {q_tos : Nat} {q_kinds : Nat} {w_lengths : Value} {w_figures : Value} {v_closed : Int32} {v_size : Int32} {v_home : Int32} {v_froms : (Nat → Int32)} {v_tos : (Nat → Int32)} {v_kinds : (Nat → Int32)} : (w_X7_oddCorners D q_this q_froms q_tos q_kinds w_lengths w_figures v_closed v_size v_home v_froms v_tos v_kinds)[0]? = some (q_this, .inr (6, [.ref q_froms, .ref q_tos, w_lengths, .ref q_kinds, w_figures, .int v_closed, .int v_size, .int v_home])) := rfl
theorem w_X7_oddCorners_s0 {D : va_G} {q_this : Nat} {q_froms : Nat} {q_tos : Nat} {q_kinds : Nat} {w_lengths : Value} {w_figures : Value} {v_closed : Int32} {v_size : Int32} {v_home : Int32} {v_froms : (Nat → Int32)} {v_tos : (Nat → Int32)} {v_kinds : (Nat → Int32)} {v_closed' : Int32} {v_size' : Int32} {v_home' : Int32} : (w_X7_oddCorners D q_this q_froms q_tos q_kinds w_lengths w_figures v_closed v_size v_home v_froms v_tos v_kinds).set 0 (q_this, .inr (6, [.ref q_froms, .ref q_tos, w_lengths, .ref q_kinds, w_figures, .int v_closed', .int v_size', .int v_home'])) = (w_X7_oddCorners D q_this q_froms q_tos q_kinds w_lengths w_figures v_closed' v_size' v_home' v_froms v_tos v_kinds) := rfl
theorem w_X7_oddCorners_g1 {D : va_G} {q_this : Nat} {q_froms : Nat} {q_tos : Nat} {q_kinds : Nat} {w_lengths : Value} {w_figures : Value} {v_closed : Int32} {v_size : Int32} {v_home : Int32} {v_froms : (Nat → Int32)} {v_tos : (Nat → Int32)} {v_kinds : (Nat → Int32)} : (w_X7_oddCorners D q_this q_froms q_tos q_kinds w_lengths w_figures v_closed v_size v_home v_froms v_tos v_kinds)[1]? = some (q_froms, .inl (D.1 100, 8, .inl v_froms)) := rfl
theorem w_X7_oddCorners_s1 {D : va_G} {q_this : Nat} {q_froms : Nat} {q_tos : Nat} {q_kinds : Nat} {w_lengths : Value} {w_figures : Value} {v_closed : Int32} {v_size : Int32} {v_home : Int32} {v_froms : (Nat → Int32)} {v_tos : (Nat → Int32)} {v_kinds : (Nat → Int32)} {v_froms' : (Nat → Int32)} : (w_X7_oddCorners D q_this q_froms q_tos q_kinds w_lengths w_figures v_closed v_size v_home v_froms v_tos v_kinds).set 1 (q_froms, .inl (D.1 100, 8, .inl v_froms')) = (w_X7_oddCorners D q_this q_froms q_tos q_kinds w_lengths w_figures v_closed v_size v_home v_froms' v_tos v_kinds) := rfl
theorem w_X7_oddCorners_g2 {D : va_G} {q_this : Nat} {q_froms : Nat} {q_tos : Nat} {q_kinds : Nat} {w_lengths : Value} {w_figures : Value} {v_closed : Int32} {v_size : Int32} {v_home : Int32} {v_froms : (Nat → Int32)} {v_tos : (Nat → Int32)} {v_kinds : (Nat → Int32)} : (w_X7_oddCorners D q_this q_froms q_tos q_kinds w_lengths w_figures v_closed v_size v_home v_froms v_tos v_kinds)[2]? = some (q_tos, .inl (D.1 100, 8, .inl v_tos)) := rfl
theorem w_X7_oddCorners_s2 {D : va_G} {q_this : Nat} {q_froms : Nat} {q_tos : Nat} {q_kinds : Nat} {w_lengths : Value} {w_figures : Value} {v_closed : Int32} {v_size : Int32} {v_home : Int32} {v_froms : (Nat → Int32)} {v_tos : (Nat → Int32)} {v_kinds : (Nat → Int32)} {v_tos' : (Nat → Int32)} : (w_X7_oddCorners D q_this q_froms q_tos q_kinds w_lengths w_figures v_closed v_size v_home v_froms v_tos v_kinds).set 2 (q_tos, .inl (D.1 100, 8, .inl v_tos')) = (w_X7_oddCorners D q_this q_froms q_tos q_kinds w_lengths w_figures v_closed v_size v_home v_froms v_tos' v_kinds) := rfl
theorem w_X7_oddCorners_g3 {D : va_G} {q_this : Nat} {q_froms : Nat} {q_tos : Nat} {q_kinds : Nat} {w_lengths : Value} {w_figures : Value} {v_closed : Int32} {v_size : Int32} {v_home : Int32} {v_froms : (Nat → Int32)} {v_tos : (Nat → Int32)} {v_kinds : (Nat → Int32)} : (w_X7_oddCorners D q_this q_froms q_tos q_kinds w_lengths w_figures v_closed v_size v_home v_froms v_tos v_kinds)[3]? = some (q_kinds, .inl (D.1 100, 8, .inl v_kinds)) := rfl
theorem w_X7_oddCorners_s3 {D : va_G} {q_this : Nat} {q_froms : Nat} {q_tos : Nat} {q_kinds : Nat} {w_lengths : Value} {w_figures : Value} {v_closed : Int32} {v_size : Int32} {v_home : Int32} {v_froms : (Nat → Int32)} {v_tos : (Nat → Int32)} {v_kinds : (Nat → Int32)} {v_kinds' : (Nat → Int32)} : (w_X7_oddCorners D q_this q_froms q_tos q_kinds w_lengths w_figures v_closed v_size v_home v_froms v_tos v_kinds).set 3 (q_kinds, .inl (D.1 100, 8, .inl v_kinds')) = (w_X7_oddCorners D q_this q_froms q_tos q_kinds w_lengths w_figures v_closed v_size v_home v_froms v_tos v_kinds') := rfl
theorem w_X7_oddCorners_a {D : va_G} {q_this : Nat} {q_froms : Nat} {q_tos : Nat} {q_kinds : Nat} {w_lengths : Value} {w_figures : Value} {v_closed : Int32} {v_size : Int32} {v_home : Int32} {v_froms : (Nat → Int32)} {v_tos : (Nat → Int32)} {v_kinds : (Nat → Int32)} : (w_X7_oddCorners D q_this q_froms q_tos q_kinds w_lengths w_figures v_closed v_size v_home v_froms v_tos v_kinds).map (fun q => q.1) = [q_this, q_froms, q_tos, q_kinds] := rfl
def f_X7_oddCorners_b4 (N : Nat) (x2_4 : Int32) (x1_4 : Int32) (v_closed : Int32) (v_size : Int32) (v_froms : (Nat → Int32)) (v_tos : (Nat → Int32)) (v_kinds : (Nat → Int32)) : Option ((Int32 × Int32) ⊕ Int32) :=
  (if (6 : Int32) ≤ x2_4 then some (.inr x1_4) else (f_X7_degree N x2_4 v_closed v_size v_froms v_tos v_kinds).bind (fun r_degree_1 => some (.inl (x1_4 ||| ((r_degree_1 &&& (1 : Int32)) <<< (x2_4 &&& 31)), x2_4 + (1 : Int32)))))
def f_X7_oddCorners (N : Nat) (v_closed : Int32) (v_size : Int32) (v_froms : (Nat → Int32)) (v_tos : (Nat → Int32)) (v_kinds : (Nat → Int32)) : Option Int32 :=
  (lp (fun s_4 => f_X7_oddCorners_b4 N s_4.2 s_4.1 v_closed v_size v_froms v_tos v_kinds) N ((0 : Int32), (0 : Int32))).bind (fun e_4 => some e_4)
set_option maxRecDepth 100000 in
set_option maxHeartbeats 4000000 in
theorem c_X7_oddCorners (l : Launch) (D : va_G) (N : Nat) {q_this q_froms q_tos q_kinds : Nat} {w_lengths w_figures : Value} {v_closed : Int32} {v_size : Int32} {v_home : Int32} {v_froms : (Nat → Int32)} {v_tos : (Nat → Int32)} {v_kinds : (Nat → Int32)} {o : Int32} (h : f_X7_oddCorners N v_closed v_size v_froms v_tos v_kinds = some o) : CT l D yX7_oddCorners cX7_oddCorners 3 (Option.some FieldType.int) 4 [.ref q_this] (w_X7_oddCorners D q_this q_froms q_tos q_kinds w_lengths w_figures v_closed v_size v_home v_froms v_tos v_kinds) (w_X7_oddCorners D q_this q_froms q_tos q_kinds w_lengths w_figures v_closed v_size v_home v_froms v_tos v_kinds) (some (.int o)) := by
  refine CT.of mk_X7_oddCorners (Nat.le_of_ble_eq_true rfl) (fun g hl hD C E => ?_)
  subst hl
  subst hD
  unfold f_X7_oddCorners at h
  refine j_iconst C (0) dX7_oddCorners_0 ki_0 ?_
  refine j_istore_n C dX7_oddCorners_1 (by decide) ?_
  refine j_iconst C (0) dX7_oddCorners_2 ki_0 ?_
  refine j_istore_n C dX7_oddCorners_3 (by decide) ?_
  obtain ⟨e_4, hl_4, h⟩ := of_bind h
  have ha_4 : J g (w_X7_oddCorners (gD g) q_this q_froms q_tos q_kinds w_lengths w_figures v_closed v_size v_home v_froms v_tos v_kinds) [(1, .int (e_4))] 28 [] := by
    refine j_iload_n C dX7_oddCorners_28 rfl ?_
    have h := Option.some.inj h
    subst h
    exact j_iret C E dX7_oddCorners_29
  refine j_lv (lv' := [(0, .ref q_this), (1, .int ((0 : Int32))), (2, .int ((0 : Int32)))]) rfl ?_
  refine lp_ind hl_4 (fun s_4 => J g (w_X7_oddCorners (gD g) q_this q_froms q_tos q_kinds w_lengths w_figures v_closed v_size v_home v_froms v_tos v_kinds) [(0, .ref q_this), (1, .int (s_4.1)), (2, .int (s_4.2))] 4 []) (fun s_4 r_4 h hc_4 hx_4 => ?_)
  unfold f_X7_oddCorners_b4 at h
  refine j_iload_n C dX7_oddCorners_4 rfl ?_
  refine j_bipush C (6) dX7_oddCorners_5 kb_6 ?_
  refine j_icmp_ge C h 28 dX7_oddCorners_7 (by decide) (fun hc h => ?_) (fun hc h => ?_)
  · have h := Option.some.inj h
    subst h
    have h9 := hx_4 _ rfl
    subst h9
    exact j_lw ha_4 rfl
  · refine j_iload_n C dX7_oddCorners_10 rfl ?_
    refine j_aload_n C dX7_oddCorners_11 rfl ?_
    refine j_iload_n C dX7_oddCorners_12 rfl ?_
    obtain ⟨r_degree_1, h_1, h⟩ := of_bind h
    refine j_callV1 C mk_X7_degree ms_X7_degree kw_724 (c_X7_degree (gl g) (gD g) N h_1) (by decide) 0 w_X7_oddCorners_g0 rfl [0, 1, 2, 3] (hC_cons w_X7_oddCorners_g0 (hC_cons w_X7_oddCorners_g1 (hC_cons w_X7_oddCorners_g2 (hC_cons w_X7_oddCorners_g3 hC_nil)))) rfl (w_X7_degree_a.trans w_X7_degree_a.symm) rfl rfl (Nat.le_of_ble_eq_true rfl) dX7_oddCorners_13 (wput_cons w_X7_oddCorners_s0 (wput_cons w_X7_oddCorners_s1 (wput_cons w_X7_oddCorners_s2 (wput_cons w_X7_oddCorners_s3 wput_nil)))) ?_
    refine j_iconst C (1) dX7_oddCorners_16 ki_1 ?_
    refine j_iand C dX7_oddCorners_17 ?_
    refine j_iload_n C dX7_oddCorners_18 rfl ?_
    refine j_ishl C dX7_oddCorners_19 ?_
    refine j_ior C dX7_oddCorners_20 ?_
    refine j_istore_n C dX7_oddCorners_21 (by decide) ?_
    refine j_inc C (1) dX7_oddCorners_22 rfl ki_1 (by decide) ?_
    refine j_goto C 4 dX7_oddCorners_25 (by decide) ?_
    have h := Option.some.inj h
    subst h
    have hc9 := hc_4 _ rfl
    exact j_lw hc9 rfl

def w_X7_balanceOf (D : va_G) (q_this q_froms q_tos q_kinds : Nat) (w_lengths w_figures : Value) (v_closed : Int32) (v_size : Int32) (v_home : Int32) (v_froms : (Nat → Int32)) (v_tos : (Nat → Int32)) (v_kinds : (Nat → Int32)) : va_W := [(q_this, .inr (6, [.ref q_froms, .ref q_tos, w_lengths, .ref q_kinds, w_figures, .int v_closed, .int v_size, .int v_home])), (q_froms, .inl (D.1 100, 8, .inl v_froms)), (q_tos, .inl (D.1 100, 8, .inl v_tos)), (q_kinds, .inl (D.1 100, 8, .inl v_kinds))]
theorem w_X7_balanceOf_g0 {D : va_G} {q_this : Nat} {q_froms : Nat} {q_tos : Nat} {q_kinds : Nat} {w_lengths : Value} {w_figures : Value} {v_closed : Int32} {v_size : Int32} {v_home : Int32} {v_froms : (Nat → Int32)} {v_tos : (Nat → Int32)} {v_kinds : (Nat → Int32)} : (w_X7_balanceOf D q_this q_froms q_tos q_kinds w_lengths w_figures v_closed v_size v_home v_froms v_tos v_kinds)[0]? = some (q_this, .inr (6, [.ref q_froms, .ref q_tos, w_lengths, .ref q_kinds, w_figures, .int v_closed, .int v_size, .int v_home])) := rfl
theorem w_X7_balanceOf_s0 {D : va_G} {q_this : Nat} {q_froms : Nat} {q_tos : Nat} {q_kinds : Nat} {w_lengths : Value} {w_figures : Value} {v_closed : Int32} {v_size : Int32} {v_home : Int32} {v_froms : (Nat → Int32)} {v_tos : (Nat → Int32)} {v_kinds : (Nat → Int32)} {v_closed' : Int32} {v_size' : Int32} {v_home' : Int32} : (w_X7_balanceOf D q_this q_froms q_tos q_kinds w_lengths w_figures v_closed v_size v_home v_froms v_tos v_kinds).set 0 (q_this, .inr (6, [.ref q_froms, .ref q_tos, w_lengths, .ref q_kinds, w_figures, .int v_closed', .int v_size', .int v_home'])) = (w_X7_balanceOf D q_this q_froms q_tos q_kinds w_lengths w_figures v_closed' v_size' v_home' v_froms v_tos v_kinds) := rfl
theorem w_X7_balanceOf_g1 {D : va_G} {q_this : Nat} {q_froms : Nat} {q_tos : Nat} {q_kinds : Nat} {w_lengths : Value} {w_figures : Value} {v_closed : Int32} {v_size : Int32} {v_home : Int32} {v_froms : (Nat → Int32)} {v_tos : (Nat → Int32)} {v_kinds : (Nat → Int32)} : (w_X7_balanceOf D q_this q_froms q_tos q_kinds w_lengths w_figures v_closed v_size v_home v_froms v_tos v_kinds)[1]? = some (q_froms, .inl (D.1 100, 8, .inl v_froms)) := rfl
theorem w_X7_balanceOf_s1 {D : va_G} {q_this : Nat} {q_froms : Nat} {q_tos : Nat} {q_kinds : Nat} {w_lengths : Value} {w_figures : Value} {v_closed : Int32} {v_size : Int32} {v_home : Int32} {v_froms : (Nat → Int32)} {v_tos : (Nat → Int32)} {v_kinds : (Nat → Int32)} {v_froms' : (Nat → Int32)} : (w_X7_balanceOf D q_this q_froms q_tos q_kinds w_lengths w_figures v_closed v_size v_home v_froms v_tos v_kinds).set 1 (q_froms, .inl (D.1 100, 8, .inl v_froms')) = (w_X7_balanceOf D q_this q_froms q_tos q_kinds w_lengths w_figures v_closed v_size v_home v_froms' v_tos v_kinds) := rfl
theorem w_X7_balanceOf_g2 {D : va_G} {q_this : Nat} {q_froms : Nat} {q_tos : Nat} {q_kinds : Nat} {w_lengths : Value} {w_figures : Value} {v_closed : Int32} {v_size : Int32} {v_home : Int32} {v_froms : (Nat → Int32)} {v_tos : (Nat → Int32)} {v_kinds : (Nat → Int32)} : (w_X7_balanceOf D q_this q_froms q_tos q_kinds w_lengths w_figures v_closed v_size v_home v_froms v_tos v_kinds)[2]? = some (q_tos, .inl (D.1 100, 8, .inl v_tos)) := rfl
theorem w_X7_balanceOf_s2 {D : va_G} {q_this : Nat} {q_froms : Nat} {q_tos : Nat} {q_kinds : Nat} {w_lengths : Value} {w_figures : Value} {v_closed : Int32} {v_size : Int32} {v_home : Int32} {v_froms : (Nat → Int32)} {v_tos : (Nat → Int32)} {v_kinds : (Nat → Int32)} {v_tos' : (Nat → Int32)} : (w_X7_balanceOf D q_this q_froms q_tos q_kinds w_lengths w_figures v_closed v_size v_home v_froms v_tos v_kinds).set 2 (q_tos, .inl (D.1 100, 8, .inl v_tos')) = (w_X7_balanceOf D q_this q_froms q_tos q_kinds w_lengths w_figures v_closed v_size v_home v_froms v_tos' v_kinds) := rfl
theorem w_X7_balanceOf_g3 {D : va_G} {q_this : Nat} {q_froms : Nat} {q_tos : Nat} {q_kinds : Nat} {w_lengths : Value} {w_figures : Value} {v_closed : Int32} {v_size : Int32} {v_home : Int32} {v_froms : (Nat → Int32)} {v_tos : (Nat → Int32)} {v_kinds : (Nat → Int32)} : (w_X7_balanceOf D q_this q_froms q_tos q_kinds w_lengths w_figures v_closed v_size v_home v_froms v_tos v_kinds)[3]? = some (q_kinds, .inl (D.1 100, 8, .inl v_kinds)) := rfl
theorem w_X7_balanceOf_s3 {D : va_G} {q_this : Nat} {q_froms : Nat} {q_tos : Nat} {q_kinds : Nat} {w_lengths : Value} {w_figures : Value} {v_closed : Int32} {v_size : Int32} {v_home : Int32} {v_froms : (Nat → Int32)} {v_tos : (Nat → Int32)} {v_kinds : (Nat → Int32)} {v_kinds' : (Nat → Int32)} : (w_X7_balanceOf D q_this q_froms q_tos q_kinds w_lengths w_figures v_closed v_size v_home v_froms v_tos v_kinds).set 3 (q_kinds, .inl (D.1 100, 8, .inl v_kinds')) = (w_X7_balanceOf D q_this q_froms q_tos q_kinds w_lengths w_figures v_closed v_size v_home v_froms v_tos v_kinds') := rfl
theorem w_X7_balanceOf_a {D : va_G} {q_this : Nat} {q_froms : Nat} {q_tos : Nat} {q_kinds : Nat} {w_lengths : Value} {w_figures : Value} {v_closed : Int32} {v_size : Int32} {v_home : Int32} {v_froms : (Nat → Int32)} {v_tos : (Nat → Int32)} {v_kinds : (Nat → Int32)} : (w_X7_balanceOf D q_this q_froms q_tos q_kinds w_lengths w_figures v_closed v_size v_home v_froms v_tos v_kinds).map (fun q => q.1) = [q_this, q_froms, q_tos, q_kinds] := rfl
def f_X7_balanceOf_b4 (v_size : Int32) (x3_4 : Int32) (x2_4 : Int32) (v_closed : Int32) (v_kinds : (Nat → Int32)) (v_froms : (Nat → Int32)) (x1 : Int32) (v_tos : (Nat → Int32)) : Option ((Int32 × Int32) ⊕ Int32) :=
  (if v_size ≤ x3_4 then some (.inr x2_4) else (f_X7_isDue x3_4 v_closed v_kinds).bind (fun r_isDue_1 => (if r_isDue_1 = 0 then some (.inl (x2_4, x3_4 + (1 : Int32))) else ga x3_4 8 ((if (kfld 3 (kidx (v_kinds (Int32.toNatClampNeg x3_4)))) = 0 then ga x3_4 8 (ga x3_4 8 (some (.inl ((x2_4 + (if (v_froms (Int32.toNatClampNeg x3_4)) = x1 then (1 : Int32) else (0 : Int32))) - (if (v_tos (Int32.toNatClampNeg x3_4)) = x1 then (1 : Int32) else (0 : Int32)), x3_4 + (1 : Int32))))) else some (.inl (x2_4, x3_4 + (1 : Int32))))))))
def f_X7_balanceOf (N : Nat) (x1 : Int32) (v_closed : Int32) (v_size : Int32) (v_froms : (Nat → Int32)) (v_tos : (Nat → Int32)) (v_kinds : (Nat → Int32)) : Option Int32 :=
  (lp (fun s_4 => f_X7_balanceOf_b4 v_size s_4.2 s_4.1 v_closed v_kinds v_froms x1 v_tos) N ((0 : Int32), (0 : Int32))).bind (fun e_4 => some e_4)
set_option maxRecDepth 100000 in
set_option maxHeartbeats 4000000 in
theorem c_X7_balanceOf (l : Launch) (D : va_G) (N : Nat) {q_this q_froms q_tos q_kinds : Nat} {w_lengths w_figures : Value} {v_closed : Int32} {v_size : Int32} {v_home : Int32} {v_froms : (Nat → Int32)} {v_tos : (Nat → Int32)} {v_kinds : (Nat → Int32)} {x1 : Int32} {o : Int32} (h : f_X7_balanceOf N x1 v_closed v_size v_froms v_tos v_kinds = some o) : CT l D yX7_balanceOf cX7_balanceOf 4 (Option.some FieldType.int) 2 [.ref q_this, .int x1] (w_X7_balanceOf D q_this q_froms q_tos q_kinds w_lengths w_figures v_closed v_size v_home v_froms v_tos v_kinds) (w_X7_balanceOf D q_this q_froms q_tos q_kinds w_lengths w_figures v_closed v_size v_home v_froms v_tos v_kinds) (some (.int o)) := by
  refine CT.of mk_X7_balanceOf (Nat.le_of_ble_eq_true rfl) (fun g hl hD C E => ?_)
  subst hl
  subst hD
  unfold f_X7_balanceOf at h
  refine j_iconst C (0) dX7_balanceOf_0 ki_0 ?_
  refine j_istore_n C dX7_balanceOf_1 (by decide) ?_
  refine j_iconst C (0) dX7_balanceOf_2 ki_0 ?_
  refine j_istore_n C dX7_balanceOf_3 (by decide) ?_
  obtain ⟨e_4, hl_4, h⟩ := of_bind h
  have ha_4 : J g (w_X7_balanceOf (gD g) q_this q_froms q_tos q_kinds w_lengths w_figures v_closed v_size v_home v_froms v_tos v_kinds) [(2, .int (e_4))] 77 [] := by
    refine j_iload_n C dX7_balanceOf_77 rfl ?_
    have h := Option.some.inj h
    subst h
    exact j_iret C E dX7_balanceOf_78
  refine j_lv (lv' := [(0, .ref q_this), (1, .int (x1)), (2, .int ((0 : Int32))), (3, .int ((0 : Int32)))]) rfl ?_
  refine lp_ind hl_4 (fun s_4 => J g (w_X7_balanceOf (gD g) q_this q_froms q_tos q_kinds w_lengths w_figures v_closed v_size v_home v_froms v_tos v_kinds) [(0, .ref q_this), (1, .int (x1)), (2, .int (s_4.1)), (3, .int (s_4.2))] 4 []) (fun s_4 r_4 h hc_4 hx_4 => ?_)
  unfold f_X7_balanceOf_b4 at h
  refine j_iload_n C dX7_balanceOf_4 rfl ?_
  refine j_aload_n C dX7_balanceOf_5 rfl ?_
  refine j_get C 0 w_X7_balanceOf_g0 rfl inX7 6 (by decide) kw_54 rfl rfl dX7_balanceOf_6 ?_
  refine j_icmp_ge C h 77 dX7_balanceOf_9 (by decide) (fun hc h => ?_) (fun hc h => ?_)
  · have h := Option.some.inj h
    subst h
    have h9 := hx_4 _ rfl
    subst h9
    exact j_lw ha_4 rfl
  · refine j_aload_n C dX7_balanceOf_12 rfl ?_
    refine j_iload_n C dX7_balanceOf_13 rfl ?_
    obtain ⟨r_isDue_1, h_1, h⟩ := of_bind h
    refine j_callV1 C mk_X7_isDue ms_X7_isDue kw_555 (c_X7_isDue (gl g) (gD g) h_1) (by decide) 0 w_X7_balanceOf_g0 rfl [0, 3] (hC_cons w_X7_balanceOf_g0 (hC_cons w_X7_balanceOf_g3 hC_nil)) rfl (w_X7_isDue_a.trans w_X7_isDue_a.symm) rfl rfl (Nat.le_of_ble_eq_true rfl) dX7_balanceOf_14 (wput_cons w_X7_balanceOf_s0 (wput_cons w_X7_balanceOf_s3 wput_nil)) ?_
    refine j_if_eq C h 71 dX7_balanceOf_17 (by decide) (fun hc h => ?_) (fun hc h => ?_)
    · refine j_inc C (1) dX7_balanceOf_71 rfl ki_1 (by decide) ?_
      refine j_goto C 4 dX7_balanceOf_74 (by decide) ?_
      have h := Option.some.inj h
      subst h
      have hc9 := hc_4 _ rfl
      exact j_lw hc9 rfl
    · refine j_aload_n C dX7_balanceOf_20 rfl ?_
      refine j_get C 0 w_X7_balanceOf_g0 rfl inX7 3 (by decide) kw_47 rfl rfl dX7_balanceOf_21 ?_
      refine j_iload_n C dX7_balanceOf_24 rfl ?_
      refine j_iaload 3 C h w_X7_balanceOf_g3 rfl dX7_balanceOf_25 (fun h => ?_)
      refine j_callS1 C mk_X2_of ms_X2_of kw_510 (c_X2_of (gl g) (gD g) (v_kinds (Int32.toNatClampNeg s_4.2))) (by decide) [] rfl rfl rfl rfl rfl (Nat.le_of_ble_eq_true rfl) dX7_balanceOf_26 rfl ?_
      refine j_kgetN (nm9 := "isBothWays") 3 C rfl (by decide) (by decide) dX7_balanceOf_29 ?_
      refine j_if_ne C h 71 dX7_balanceOf_32 (by decide) (fun hc h => ?_) (fun hc h => ?_)
      · refine j_iload_n C dX7_balanceOf_35 rfl ?_
        refine j_aload_n C dX7_balanceOf_36 rfl ?_
        refine j_get C 0 w_X7_balanceOf_g0 rfl inX7 0 (by decide) kw_36 rfl rfl dX7_balanceOf_37 ?_
        refine j_iload_n C dX7_balanceOf_40 rfl ?_
        refine j_iaload 1 C h w_X7_balanceOf_g1 rfl dX7_balanceOf_41 (fun h => ?_)
        refine j_iload_n C dX7_balanceOf_42 rfl ?_
        have hj_2 : J g (w_X7_balanceOf (gD g) q_this q_froms q_tos q_kinds w_lengths w_figures v_closed v_size v_home v_froms v_tos v_kinds) [(0, .ref q_this), (1, .int (x1)), (3, .int (s_4.2))] 51 [.int (if (v_froms (Int32.toNatClampNeg s_4.2)) = x1 then (1 : Int32) else (0 : Int32)), .int (s_4.1)] := by
          refine j_iadd C dX7_balanceOf_51 ?_
          refine j_istore_n C dX7_balanceOf_52 (by decide) ?_
          refine j_iload_n C dX7_balanceOf_53 rfl ?_
          refine j_aload_n C dX7_balanceOf_54 rfl ?_
          refine j_get C 0 w_X7_balanceOf_g0 rfl inX7 1 (by decide) kw_40 rfl rfl dX7_balanceOf_55 ?_
          refine j_iload_n C dX7_balanceOf_58 rfl ?_
          refine j_iaload 2 C h w_X7_balanceOf_g2 rfl dX7_balanceOf_59 (fun h => ?_)
          refine j_iload_n C dX7_balanceOf_60 rfl ?_
          have hj_3 : J g (w_X7_balanceOf (gD g) q_this q_froms q_tos q_kinds w_lengths w_figures v_closed v_size v_home v_froms v_tos v_kinds) [(0, .ref q_this), (1, .int (x1)), (3, .int (s_4.2))] 69 [.int (if (v_tos (Int32.toNatClampNeg s_4.2)) = x1 then (1 : Int32) else (0 : Int32)), .int (s_4.1 + (if (v_froms (Int32.toNatClampNeg s_4.2)) = x1 then (1 : Int32) else (0 : Int32)))] := by
            refine j_isub C dX7_balanceOf_69 ?_
            refine j_istore_n C dX7_balanceOf_70 (by decide) ?_
            refine j_inc C (1) dX7_balanceOf_71 rfl ki_1 (by decide) ?_
            refine j_goto C 4 dX7_balanceOf_74 (by decide) ?_
            have h := Option.some.inj h
            subst h
            have hc9 := hc_4 _ rfl
            exact j_lw hc9 rfl
          refine jv_icmp_ne C 68 dX7_balanceOf_61 (by decide) (fun hc => ?_) (fun hc => ?_)
          · try simp only [if_pos hc] at hj_3
            refine j_iconst C (1) dX7_balanceOf_64 ki_1 ?_
            refine j_goto C 69 dX7_balanceOf_65 (by decide) ?_
            exact j_lw hj_3 rfl
          · try simp only [if_neg hc] at hj_3
            refine j_iconst C (0) dX7_balanceOf_68 ki_0 ?_
            exact j_lw hj_3 rfl
        refine jv_icmp_ne C 50 dX7_balanceOf_43 (by decide) (fun hc => ?_) (fun hc => ?_)
        · try simp only [if_pos hc] at hj_2
          refine j_iconst C (1) dX7_balanceOf_46 ki_1 ?_
          refine j_goto C 51 dX7_balanceOf_47 (by decide) ?_
          exact j_lw hj_2 rfl
        · try simp only [if_neg hc] at hj_2
          refine j_iconst C (0) dX7_balanceOf_50 ki_0 ?_
          exact j_lw hj_2 rfl
      · refine j_inc C (1) dX7_balanceOf_71 rfl ki_1 (by decide) ?_
        refine j_goto C 4 dX7_balanceOf_74 (by decide) ?_
        have h := Option.some.inj h
        subst h
        have hc9 := hc_4 _ rfl
        exact j_lw hc9 rfl
