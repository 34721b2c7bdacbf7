/-- the lengths of the open streets among the first n, together; how many they are; the double of their sum -/
def suL (t : Nat → Nat) : Nat → Nat
  | 0 => 0
  | n + 1 => suL t n + if t (40 + n) = 1 then t (16 + n) else 0
def cnO (t : Nat → Nat) : Nat → Nat
  | 0 => 0
  | n + 1 => cnO t n + if t (40 + n) = 1 then 1 else 0
def dS (t : Nat → Nat) : Nat → UInt64
  | 0 => FP.dconst0
  | n + 1 => if t (40 + n) = 1 then FP.dadd (dS t n) (FP.i2d (nI (t (16 + n)))) else dS t n
theorem dS_s (t : Nat → Nat) (n : Nat) : dS t (n + 1) = if t (40 + n) = 1 then FP.dadd (dS t n) (FP.i2d (nI (t (16 + n)))) else dS t n := rfl
theorem cnO_s (t : Nat → Nat) (n : Nat) : cnO t (n + 1) = cnO t n + if t (40 + n) = 1 then 1 else 0 := rfl
theorem suL_le {t : Nat → Nat} (hv : vT t) : ∀ n, n ≤ t 49 → cnO t n ≤ suL t n ∧ suL t n ≤ 99 * n ∧ cnO t n ≤ n
  | 0, _ => ⟨Nat.le_refl _, Nat.le_refl _, Nat.le_refl _⟩
  | n + 1, h => by
    have := suL_le hv n (by omega)
    have ho := hv.2.2.1 n (by omega)
    unfold suL cnO
    by_cases c : t (40 + n) = 1
    · rw [if_pos c, if_pos c]; omega
    · rw [if_neg c, if_neg c]; omega
theorem dS_int {t : Nat → Nat} (hv : vT t) : ∀ n, n ≤ t 49 → FP.Core.DInt (suL t n : Nat) (dS t n)
  | 0, _ => by
    have := FP.Core.i2d_int (nI 0)
    rw [nI_toInt (by decide)] at this
    have e : FP.Core.i2d (nI 0) = FP.dconst0 := by decide +kernel
    rw [e] at this
    exact this
  | n + 1, h => by
    have ih := dS_int hv n (by omega)
    have ho := hv.2.2.1 n (by omega)
    have hb := suL_le hv n (by omega)
    have h8 := hv.1
    unfold suL dS
    by_cases c : t (40 + n) = 1
    · rw [if_pos c, if_pos c]
      have j := FP.Core.i2d_int (nI (t (16 + n)))
      rw [nI_toInt (by omega)] at j
      have := FP.Core.dadd_int ih j (by omega)
      rw [Int.natCast_add]
      exact this
    · rw [if_neg c, if_neg c]; exact ih
theorem dS_ok {t : Nat → Nat} (hv : vT t) {n : Nat} (h : n ≤ t 49) : (dS t n).toNat % 2 ^ 63 ≤ 9218868437227405312 := (FP.Core.ne_nan _).mp (FP.Core.DInt_ne_nan (dS_int hv n h))
theorem dS_i2d {t : Nat → Nat} (hv : vT t) {n : Nat} (h : n ≤ t 49) (h0 : 1 ≤ suL t n) : dS t n = FP.i2d (nI (suL t n)) := by
  have hb := suL_le hv n h
  have h8 := hv.1
  have j := FP.Core.i2d_int (nI (suL t n))
  rw [nI_toInt (by omega)] at j
  refine FP.Core.eq_bits (fun hz => ?_) ?_
  · have big := (FP.Core.i2d_big (v := nI (suL t n)) (by rw [nI_toInt (by omega)]; omega)).1
    rcases (FP.Core.zero_bits (FP.Core.zero_iff.mpr hz) : FP.Core.i2d (nI (suL t n)) = 0 ∨ FP.Core.i2d (nI (suL t n)) = 9223372036854775808) with z | z
    · rw [z] at big; exact absurd big (by decide)
    · rw [z] at big; exact absurd big (by decide)
  · rw [FP.Core.dcmp_int (dS_int hv n h) j, FP.Core.compare_self_int]
theorem f9_meanL {t : Nat → Nat} {fr to ln kd fg : Nat → Int32} {cl sz hm : Int32} (hv : vT t) (h : cR t fr to ln kd fg cl sz hm) {N : Nat} (hN : 100 ≤ N) : lp (fun s_7 : UInt64 × Int32 × Int32 => f_X9_mean_b7 sz s_7.2.2 s_7.1 s_7.2.1 cl ln) N (FP.dconst0, (0 : Int32), (0 : Int32)) = some (dS t (t 49), nI (cnO t (t 49))) := by
  have h8 := hv.1
  exact lp_seq (b := fun s_7 : UInt64 × Int32 × Int32 => f_X9_mean_b7 sz s_7.2.2 s_7.1 s_7.2.1 cl ln) (fun i => (dS t i, nI (cnO t i), nI i)) (dS t (t 49), nI (cnO t (t 49))) (t 49) (fun i hi => by
    show f_X9_mean_b7 sz (nI i) (dS t i) (nI (cnO t i)) cl ln = _
    obtain ⟨g1, g2, g3, g4, g5⟩ := h.2.2.2 i hi
    have ok := dS_ok hv (n := i + 1) hi
    unfold f_X9_mean_b7
    rw [h.1, if_neg (nI_ge hi (by omega)), f7_isOpen hv h hi, Option.bind_some, nI_1, nI_1]
    show _ = some (Sum.inl (dS t (i + 1), nI (cnO t (i + 1)), nI (i + 1)))
    rw [dS_s] at ok
    rw [dS_s, cnO_s]
    by_cases c : t (40 + i) = 1
    · rw [if_pos c] at ok
      rw [if_pos c, if_pos c, if_neg (fun z => b2_0.mp z c), ga_ok (by omega) (by decide), nI_clamp (by omega), g3, gdb_ok ok]
    · rw [if_neg c, if_neg c, if_pos (b2_0.mpr c)]; rfl) (by
    show f_X9_mean_b7 sz (nI (t 49)) (dS t (t 49)) (nI (cnO t (t 49))) cl ln = _
    unfold f_X9_mean_b7
    rw [h.1, if_pos (nI_le (Nat.le_refl _) (by omega))]) (t 49) 0 N (by omega) (by omega)
theorem f10_meanL {t : Nat → Nat} {w : Nat → Int32} (hv : vT t) (h : mR t w) {N : Nat} (hN : 100 ≤ N) : lp (fun s_7 : UInt64 × Int32 × Int32 => f_X10_mean_b7 w s_7.2.2 s_7.1 s_7.2.1) N (FP.dconst0, (0 : Int32), (0 : Int32)) = some (dS t (t 49), nI (cnO t (t 49))) := by
  have h8 := hv.1
  have e49 : w (Int32.toNatClampNeg (49 : Int32)) = nI (t 49) := h.1
  exact lp_seq (b := fun s_7 : UInt64 × Int32 × Int32 => f_X10_mean_b7 w s_7.2.2 s_7.1 s_7.2.1) (fun i => (dS t i, nI (cnO t i), nI i)) (dS t (t 49), nI (cnO t (t 49))) (t 49) (fun i hi => by
    show f_X10_mean_b7 w (nI i) (dS t i) (nI (cnO t i)) = _
    have ok := dS_ok hv (n := i + 1) hi
    have a40 : (40 : Int32) + nI i = nI (8 * 5 + i) := nI_add 40 i
    have a16 : (16 : Int32) + nI i = nI (8 * 2 + i) := nI_add 16 i
    have ho := hv.2.2.1 i hi
    unfold f_X10_mean_b7
    rw [ga_in (by decide), e49, if_neg (nI_ge hi (by omega)), a40, a16, ga_ok (by omega) (by decide), nI_clamp (show 8 * 5 + i < 2 ^ 31 by omega), h.2.2 5 (by decide) i hi, nI_1, nI_1]
    show _ = some (Sum.inl (dS t (i + 1), nI (cnO t (i + 1)), nI (i + 1)))
    rw [dS_s] at ok
    rw [dS_s, cnO_s]
    have j : nI (t (8 * 5 + i)) = (1 : Int32) ↔ t (40 + i) = 1 := nI_lit (by show t (40 + i) < _; omega) (by decide) 1 rfl
    by_cases c : t (40 + i) = 1
    · rw [if_pos c] at ok
      rw [if_pos c, if_pos c, if_pos (j.mpr c), ga_ok (by omega) (by decide), nI_clamp (show 8 * 2 + i < 2 ^ 31 by omega), h.2.2 2 (by decide) i hi]
      exact gdb_ok ok
    · rw [if_neg c, if_neg c, if_neg (fun z => c (j.mp z))]; rfl) (by
    show f_X10_mean_b7 w (nI (t 49)) (dS t (t 49)) (nI (cnO t (t 49))) = _
    unfold f_X10_mean_b7
    rw [ga_in (by decide), e49, if_pos (nI_le (Nat.le_refl _) (by omega))]) (t 49) 0 N (by omega) (by omega)
theorem mean_NR {t : Nat → Nat} (hv : vT t) (h0 : 1 ≤ cnO t (t 49)) : NR FP.Core.b64 false 1013 1034 (FP.ddiv (dS t (t 49)) (FP.i2d (nI (cnO t (t 49))))).toNat := by
  have hb := suL_le hv (t 49) (Nat.le_refl _)
  have h8 := hv.1
  have q : (-(FP.Core.b64).qmin).toNat = 1074 := by rw [FP.Core.qmin_b64]; rfl
  have nr : ∀ k : Nat, 1 ≤ k → k ≤ 1000 → NR FP.Core.b64 false 1023 1033 (FP.Core.i2d (nI k)).toNat := by
    intro k k1 k2
    rw [FP.Core.toNat_i2d, nI_toInt (by omega)]
    have := NR_int FP.Core.good_b64 (i := (k : Int)) (j := 10) (lo := 1023) (hi := 1033) (by omega) (by omega) (by decide) (by rw [FP.Core.exps_b64]; decide) (by rw [q, FP.Core.p_b64]; decide) (by decide) (by rw [q, FP.Core.p_b64]; decide)
    rw [decide_eq_false (by omega)] at this
    exact this
  rw [dS_i2d hv (Nat.le_refl _) (by omega)]
  have d := NR_div FP.Core.good_b64 (lo := 1013) (hi := 1034) (nr (suL t (t 49)) (by omega) (by omega)) (nr (cnO t (t 49)) h0 (by omega)) (by rw [FP.Core.exps_b64]; decide) (by rw [FP.Core.exps_b64]; decide) (by decide) (by decide) (by decide) (by decide) (by rw [FP.Core.exps_b64]; decide) (by rw [q, FP.Core.p_b64]; decide) (by rw [q, FP.Core.p_b64]; decide) (by decide)
  have e : (FP.ddiv (FP.i2d (nI (suL t (t 49)))) (FP.i2d (nI (cnO t (t 49))))).toNat = FP.Core.div FP.Core.b64 (FP.Core.i2d (nI (suL t (t 49)))).toNat (FP.Core.i2d (nI (cnO t (t 49)))).toNat := by
    refine UInt64.toNat_ofNat_of_lt' ?_
    have := d.1
    rw [FP.Core.half_b64] at this
    show _ < 18446744073709551616
    omega
  rw [e]
  exact d
theorem dbl_bits {e T : Nat} (he : e < 2047) (hT : T < 4503599627370496) : f_Jxe99ae_doubleToLongBits_ccdee (uD e T) = some (uD e T).toInt64 := by
  have c : FP.dcmp (uD e T) (uD e T) = some .eq := FP.Core.dcmp_self (nn64 (uD_ok he hT))
  have n0 : f_Jxe99ae_isNaN_b9ae7 (uD e T) = some 0 := by
    unfold f_Jxe99ae_isNaN_b9ae7
    rw [c]
    rfl
  unfold f_Jxe99ae_doubleToLongBits_ccdee
  rw [n0, Option.bind_some, if_pos rfl]
theorem pm_mean {A I : Nat → Nat → Int32} (hI : Inv A I) {N : Nat} (hN : 8000000 ≤ N) : ∃ oc, f_X9_mean N (I 1 5) (I 1 6) (A 4) = some oc ∧ ∃ om, f_X10_mean N ((uA_X9_mean A I oc) 66) = some om ∧ oc = om ∧ Inv (uA_X10_mean (uA_X9_mean A I oc) (uI_X9_mean A I oc) om) (uI_X10_mean (uA_X9_mean A I oc) (uI_X9_mean A I oc) om) := by
  obtain ⟨t, k, h1, h2, h3, h4, h5, h6, h7, h8⟩ := hI
  obtain ⟨hv, hc, hm⟩ := id h1
  have hb := suL_le hv (t 49) (Nat.le_refl _)
  have h9 := hv.1
  have both : ∃ o, f_X9_mean N (I 1 5) (I 1 6) (A 4) = some o ∧ f_X10_mean N (A 66) = some o := by
    unfold f_X9_mean f_X10_mean
    rw [f9_meanL hv hc (by omega), f10_meanL hv hm (by omega), Option.bind_some, Option.bind_some]
    simp only []
    have j : nI (cnO t (t 49)) = (0 : Int32) ↔ cnO t (t 49) = 0 := nI_lit (by omega) (by decide) 0 rfl
    by_cases c : cnO t (t 49) = 0
    · rw [if_pos (j.mpr c), if_pos (j.mpr c)]
      exact ⟨_, rfl, rfl⟩
    · rw [if_neg (fun z => c (j.mp z)), if_neg (fun z => c (j.mp z))]
      obtain ⟨e, T, q1, q2, q3, q4⟩ := NR_uD (mean_NR hv (by omega))
      rw [q1, gdb_ok (uD_ok (by omega) q4), gdb_ok (uD_ok (by omega) q4), f9_bitsOfDouble (by omega) (by omega) q4 (by omega), dbl_bits (by omega) q4]
      exact ⟨_, rfl, rfl⟩
  obtain ⟨o, f9, f10⟩ := both
  exact ⟨_, f9, _, f10, rfl, t, k, h1, h2, h3, h4, h5, h6, h7, h8⟩
