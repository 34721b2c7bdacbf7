/-! the mean: doubles -/
def uD (e T : Nat) : UInt64 := UInt64.ofNat (e * 4503599627370496 + T)
theorem uD_nat {e T : Nat} (he : e < 2048) (hT : T < 4503599627370496) : (uD e T).toNat = e * 4503599627370496 + T := UInt64.toNat_ofNat_of_lt' (by show _ < 18446744073709551616; omega)
theorem asD_pos (e T : Nat) : FP.Core.assemble FP.Core.b64 false e T = e * 4503599627370496 + T := by
  unfold FP.Core.assemble
  rw [FP.Core.tails_b64]
  simp
theorem two_b64 : twoB FP.Core.b64 = 4611686018427387904 := by decide
theorem dblD {e T : Nat} (he : 1 ≤ e) (he2 : e + 1 < 2047) (hT : T < 4503599627370496) : FP.dmul (uD e T) (4611686018427387904 : UInt64) = uD (e + 1) T := by
  show UInt64.ofNat (FP.Core.mul FP.Core.b64 (uD e T).toNat 4611686018427387904) = _
  rw [uD_nat (by omega) hT, ← asD_pos, ← two_b64, dbl FP.Core.good_b64 he (by rw [FP.Core.exps_b64]; exact he2) (by rw [FP.Core.tails_b64]; exact hT), asD_pos]
  rfl
theorem nn64 {a : UInt64} (h : a.toNat % 2 ^ 63 ≤ 9218868437227405312) : FP.Core.val64 a ≠ .nan := (FP.Core.ne_nan a).mpr h
theorem cmpgD_ge {a b : UInt64} (ha : a.toNat ≤ 9218868437227405312) (hb : b.toNat ≤ 9218868437227405312) : (0 ≤ Op.cmpValue (FP.dcmp a b) .g) ↔ b.toNat ≤ a.toNat := by
  have m := FP.Core.mono_bits (nn64 (a := a) (by omega)) (nn64 (a := b) (by omega)) (by omega) (by omega)
  rcases Nat.lt_trichotomy a.toNat b.toNat with h | h | h
  · have e : FP.dcmp a b = some .lt := m.1.mpr h
    rw [e]
    exact ⟨fun h2 => absurd h2 (by decide), fun h2 => by omega⟩
  · have e : FP.dcmp a b = some .eq := m.2.1.mpr h
    rw [e]
    exact ⟨fun _ => by omega, fun _ => by decide⟩
  · have e : FP.dcmp a b = some .gt := m.2.2.mpr h
    rw [e]
    exact ⟨fun _ => by omega, fun _ => by decide⟩
theorem gdb_ok {α : Type} {r : UInt64} {X : Option α} (h : r.toNat % 2 ^ 63 ≤ 9218868437227405312) : gdb r X = X := by
  unfold gdb
  refine if_pos ?_
  rw [UInt64.le_iff_toNat_le, UInt64.toNat_and]
  show r.toNat &&& (2 ^ 63 - 1) ≤ 9218868437227405312
  rw [Nat.and_two_pow_sub_one_eq_mod]
  exact h
theorem uD_ok {e T : Nat} (he : e < 2047) (hT : T < 4503599627370496) : (uD e T).toNat % 2 ^ 63 ≤ 9218868437227405312 := by rw [uD_nat (by omega) hT]; omega
def nL (n : Nat) : Int64 := Int64.ofNat n
theorem nL_pred (k : Nat) : nL (k + 1) - 1 = nL k := by
  apply Int64.toBitVec_inj.mp
  show BitVec.ofNat 64 (k + 1) - BitVec.ofNat 64 1 = BitVec.ofNat 64 k
  rw [BitVec.ofNat_add, BitVec.add_sub_cancel]
theorem bd10 {T : Nat} (hT : T < 4503599627370496) : ∀ (k e i m N : Nat), e + k = 1075 → 1 ≤ e → i + k ≤ 99 → k ≤ m → k < N → lp (fun s_10 : UInt64 × Int64 × Int32 => f_X9_bitsOfDouble_b10 s_10.2.2 s_10.1 s_10.2.1) N (uD e T, nL m, nI i) = some (uD 1075 T, nL (m - k))
  | 0, e, i, m, N + 1, h1, h2, h3, h4, h5 => by
    have hb : f_X9_bitsOfDouble_b10 (nI i) (uD e T) (nL m) = some (.inr (uD 1075 T, nL (m - 0))) := by
      unfold f_X9_bitsOfDouble_b10
      obtain rfl : e = 1075 := by omega
      rw [if_neg (show ¬ (100 : Int32) ≤ nI i from nI_ge (b := 100) (by omega) (by decide)), if_pos ((cmpgD_ge (by rw [uD_nat (by omega) hT]; omega) (by decide)).mpr (by rw [uD_nat (by omega) hT]; show 4841369599423283200 ≤ _; omega))]
      rfl
    exact lp_stop (b := fun s : UInt64 × Int64 × Int32 => f_X9_bitsOfDouble_b10 s.2.2 s.1 s.2.1) (s := (uD e T, nL m, nI i)) hb
  | k + 1, e, i, m, N + 1, h1, h2, h3, h4, h5 => by
    have hm : nL m - (1 : Int64) = nL (m - 1) := by
      obtain ⟨j, rfl⟩ : ∃ j, m = j + 1 := ⟨m - 1, by omega⟩
      exact nL_pred j
    have hb : f_X9_bitsOfDouble_b10 (nI i) (uD e T) (nL m) = some (.inl (uD (e + 1) T, nL (m - 1), nI (i + 1))) := by
      unfold f_X9_bitsOfDouble_b10
      rw [if_neg (show ¬ (100 : Int32) ≤ nI i from nI_ge (b := 100) (by omega) (by decide)), if_neg (fun h => by
        have h' := (cmpgD_ge (by rw [uD_nat (by omega) hT]; omega) (by decide)).mp h
        rw [uD_nat (by omega) hT] at h'
        have h'' : 4841369599423283200 ≤ e * 4503599627370496 + T := h'
        omega), dblD h2 (by omega) hT, gdb_ok (uD_ok (by omega) hT), nI_1, hm]
    rw [lp_go (b := fun s : UInt64 × Int64 × Int32 => f_X9_bitsOfDouble_b10 s.2.2 s.1 s.2.1) (s := (uD e T, nL m, nI i)) hb]
    show lp _ N (uD (e + 1) T, nL (m - 1), nI (i + 1)) = _
    rw [bd10 hT k (e + 1) (i + 1) (m - 1) N (by omega) (by omega) (by omega) (by omega) (by omega), show m - 1 - k = m - (k + 1) by omega]
theorem d2l_1075 {T : Nat} (hT : T < 4503599627370496) : FP.d2l (uD 1075 T) = nL (4503599627370496 + T) := by
  show Int64.ofInt (FP.Core.toInt (-2 ^ 63) (2 ^ 63 - 1) (FP.Core.decode FP.Core.b64 (uD 1075 T).toNat)) = _
  rw [uD_nat (by omega) hT, ← asD_pos, dec_as FP.Core.good_b64 (by omega) (by rw [FP.Core.exps_b64]; omega) (by rw [FP.Core.tails_b64]; exact hT), FP.Core.tails_b64, FP.Core.qmin_b64]
  show Int64.ofInt (max (-2 ^ 63) (min (2 ^ 63 - 1) (FP.Core.truncate false (2 ^ 52 + T) 0))) = _
  have : FP.Core.truncate false (2 ^ 52 + T) 0 = ((4503599627370496 + T : Nat) : Int) := by
    unfold FP.Core.truncate FP.Core.signed
    simp
  rw [this]
  rw [show max (-2 ^ 63) (min (2 ^ 63 - 1) ((4503599627370496 + T : Nat) : Int)) = ((4503599627370496 + T : Nat) : Int) by omega]
  rfl
theorem joinD {e T : Nat} (hT : T < 4503599627370496) (he : e < 2047) : (nL e <<< (Int32.toInt64 52 &&& 63)) ||| (nL (4503599627370496 + T) &&& (4503599627370495 : Int64)) = nL (e * 4503599627370496 + T) := by
  apply Int64.toBitVec_inj.mp
  rw [Int64.toBitVec_or, Int64.toBitVec_and, Int64.toBitVec_shiftLeft]
  show (BitVec.ofNat 64 e <<< (BitVec.smod (Int32.toInt64 52 &&& 63).toBitVec 64)) ||| (BitVec.ofNat 64 (4503599627370496 + T) &&& BitVec.ofNat 64 4503599627370495) = BitVec.ofNat 64 (e * 4503599627370496 + T)
  rw [show BitVec.smod (Int32.toInt64 52 &&& 63).toBitVec 64 = 52#64 from by decide]
  apply BitVec.eq_of_toNat_eq
  rw [BitVec.toNat_or, BitVec.toNat_and, BitVec.shiftLeft_eq', BitVec.toNat_shiftLeft, BitVec.toNat_ofNat, BitVec.toNat_ofNat, BitVec.toNat_ofNat, BitVec.toNat_ofNat, BitVec.toNat_ofNat]
  show (e % 2 ^ 64) <<< 52 % 2 ^ 64 ||| ((4503599627370496 + T) % 2 ^ 64 &&& (2 ^ 52 - 1)) = _
  rw [Nat.and_two_pow_sub_one_eq_mod, Nat.shiftLeft_eq, show e % 2 ^ 64 * 2 ^ 52 % 2 ^ 64 = e * 2 ^ 52 by omega, show (4503599627370496 + T) % 2 ^ 64 % 2 ^ 52 = T by omega]
  have := Nat.shiftLeft_add_eq_or_of_lt (i := 52) (b := T) (by omega) e
  rw [Nat.shiftLeft_eq] at this
  rw [← this]
  omega
theorem f9_bitsOfDouble {e T N : Nat} (he1 : 976 ≤ e) (he : e ≤ 1075) (hT : T < 4503599627370496) (hN : 1000 ≤ N) : f_X9_bitsOfDouble N (uD e T) = some (uD e T).toInt64 := by
  have g := bd10 hT (1075 - e) e 0 1075 N (by omega) (by omega) (by omega) (by omega) (by omega)
  have g' : lp (fun s_10 : UInt64 × Int64 × Int32 => f_X9_bitsOfDouble_b10 s_10.2.2 s_10.1 s_10.2.1) N (uD e T, (1075 : Int64), (0 : Int32)) = some (uD 1075 T, nL (1075 - (1075 - e))) := g
  unfold f_X9_bitsOfDouble
  rw [g', Option.bind_some, show 1075 - (1075 - e) = e by omega]
  simp only []
  rw [d2l_1075 hT, joinD hT (by omega)]
  rfl
/-- a number in range is one of these -/
theorem NR_uD {lo hi : Nat} {x : UInt64} (h : NR FP.Core.b64 false lo hi x.toNat) : ∃ e T, x = uD e T ∧ lo ≤ e ∧ e ≤ hi ∧ T < 4503599627370496 := by
  obtain ⟨h1, h2, h3, h4⟩ := h
  rw [FP.Core.tails_b64] at h2 h3
  unfold FP.Core.mag at h2 h3
  rw [FP.Core.half_b64] at h1 h2 h3 h4
  have h5 : x.toNat < 2 ^ 63 := by
    have := of_decide_eq_false h4
    omega
  rw [Nat.mod_eq_of_lt h5] at h2 h3
  refine ⟨x.toNat / 4503599627370496, x.toNat % 4503599627370496, ?_, by omega, by omega, by omega⟩
  unfold uD
  rw [show x.toNat / 4503599627370496 * 4503599627370496 + x.toNat % 4503599627370496 = x.toNat by omega]
  exact (UInt64.ofNat_toNat).symm
