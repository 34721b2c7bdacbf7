/-! the bits of a float by doubling and halving -/
/-- the float that is not negative, by its fields -/
def uF (e T : Nat) : UInt32 := UInt32.ofNat (e * 8388608 + T)
theorem uF_nat {e T : Nat} (he : e < 256) (hT : T < 8388608) : (uF e T).toNat = e * 8388608 + T := UInt32.toNat_ofNat_of_lt' (by show _ < 4294967296; omega)
theorem as_pos (e T : Nat) : FP.Core.assemble FP.Core.b32 false e T = e * 8388608 + T := by
  unfold FP.Core.assemble
  rw [FP.Core.tails_b32]
  simp
theorem two_b32 : twoB FP.Core.b32 = 1073741824 := by decide
theorem dblF {e T : Nat} (he : 1 ≤ e) (he2 : e + 1 < 255) (hT : T < 8388608) : FP.fmul (uF e T) FP.fconst2 = uF (e + 1) T := by
  show UInt32.ofNat (FP.Core.mul FP.Core.b32 (uF e T).toNat 1073741824) = _
  rw [uF_nat (by omega) hT, ← as_pos, ← two_b32, dbl FP.Core.good_b32 he (by rw [FP.Core.exps_b32]; exact he2) (by rw [FP.Core.tails_b32]; exact hT), as_pos]
  rfl
theorem hlvF {e T : Nat} (he : 2 ≤ e) (he2 : e < 255) (hT : T < 8388608) : FP.fdiv (uF e T) FP.fconst2 = uF (e - 1) T := by
  show UInt32.ofNat (FP.Core.div FP.Core.b32 (uF e T).toNat 1073741824) = _
  rw [uF_nat (by omega) hT, ← as_pos, ← two_b32, hlv FP.Core.good_b32 he (by rw [FP.Core.exps_b32]; exact he2) (by rw [FP.Core.tails_b32]; exact hT), as_pos]
  rfl
theorem nn_of {a : UInt32} (h : a.toNat % 2 ^ 31 ≤ 2139095040) : FP.Core.val32 a ≠ .nan := (FP.Core.ne_nan32 a).mpr h
theorem cmpg_ge {a b : UInt32} (ha : a.toNat ≤ 2139095040) (hb : b.toNat ≤ 2139095040) : (0 ≤ Op.cmpValue (FP.fcmp a b) .g) ↔ b.toNat ≤ a.toNat := by
  have m := FP.Core.mono_bits32 (nn_of (a := a) (by omega)) (nn_of (a := b) (by omega)) (by omega) (by omega)
  rcases Nat.lt_trichotomy a.toNat b.toNat with h | h | h
  · have e : FP.fcmp a b = some .lt := m.1.mpr h
    rw [e]
    exact ⟨fun h2 => absurd h2 (by decide), fun h2 => by omega⟩
  · have e : FP.fcmp a b = some .eq := m.2.1.mpr h
    rw [e]
    exact ⟨fun _ => by omega, fun _ => by decide⟩
  · have e : FP.fcmp a b = some .gt := m.2.2.mpr h
    rw [e]
    exact ⟨fun _ => by omega, fun _ => by decide⟩
theorem cmpl_lt {a b : UInt32} (ha : a.toNat ≤ 2139095040) (hb : b.toNat ≤ 2139095040) : (Op.cmpValue (FP.fcmp a b) .l < 0) ↔ a.toNat < b.toNat := by
  have m := FP.Core.mono_bits32 (nn_of (a := a) (by omega)) (nn_of (a := b) (by omega)) (by omega) (by omega)
  rcases Nat.lt_trichotomy a.toNat b.toNat with h | h | h
  · have e : FP.fcmp a b = some .lt := m.1.mpr h
    rw [e]
    exact ⟨fun h2 => h, fun h2 => by decide⟩
  · have e : FP.fcmp a b = some .eq := m.2.1.mpr h
    rw [e]
    exact ⟨fun h2 => absurd h2 (by decide), fun _ => by omega⟩
  · have e : FP.fcmp a b = some .gt := m.2.2.mpr h
    rw [e]
    exact ⟨fun h2 => absurd h2 (by decide), fun _ => by omega⟩
/-- a float that is no NaN passes -/
theorem gf_ok {α : Type} {r : UInt32} {X : Option α} (h : r.toNat % 2 ^ 31 ≤ 2139095040) : gf r X = X := by
  unfold gf
  refine if_pos ?_
  rw [UInt32.le_iff_toNat_le, UInt32.toNat_and]
  show r.toNat &&& (2 ^ 31 - 1) ≤ 2139095040
  rw [Nat.and_two_pow_sub_one_eq_mod]
  exact h
theorem uF_ok {e T : Nat} (he : e < 255) (hT : T < 8388608) : (uF e T).toNat % 2 ^ 31 ≤ 2139095040 := by rw [uF_nat (by omega) hT]; omega
theorem lp_stop {S E : Type} {b : S → Option (S ⊕ E)} {N : Nat} {s : S} {e : E} (h : b s = some (.inr e)) : lp b (N + 1) s = some e := by unfold lp; rw [h]
theorem lp_go {S E : Type} {b : S → Option (S ⊕ E)} {N : Nat} {s s' : S} (h : b s = some (.inl s')) : lp b (N + 1) s = lp b N s' := by
  rw [lp, h]
theorem down1 {m : Nat} (h : 1 ≤ m) : nI m + -1 = nI (m - 1) := by
  obtain ⟨k, rfl⟩ : ∃ k, m = k + 1 := ⟨m - 1, by omega⟩
  rw [show nI (k + 1) + -1 = nI (k + 1) - 1 from (Int32.sub_eq_add_neg ..).symm]
  exact nI_pred k
theorem bf19 {T : Nat} (hT : T < 8388608) : ∀ (k e i m N : Nat), e + k = 150 → 1 ≤ e → i + k ≤ 199 → k ≤ m → k < N → m < 1000 → lp (fun s_19 : UInt32 × Int32 × Int32 => f_X9_bitsOfFloat_b19 s_19.2.2 s_19.1 s_19.2.1) N (uF e T, nI m, nI i) = some (uF 150 T, nI (m - k))
  | 0, e, i, m, N + 1, h1, h2, h3, h4, h5, h6 => by
    have hb : f_X9_bitsOfFloat_b19 (nI i) (uF e T) (nI m) = some (.inr (uF 150 T, nI (m - 0))) := by
      unfold f_X9_bitsOfFloat_b19
      obtain rfl : e = 150 := by omega
      rw [if_neg (show ¬ (200 : Int32) ≤ nI i from nI_ge (b := 200) (by omega) (by decide)), if_pos ((cmpg_ge (by rw [uF_nat (by omega) hT]; omega) (by decide)).mpr (by rw [uF_nat (by omega) hT]; show 1258291200 ≤ _; omega))]
      rfl
    exact lp_stop (b := fun s : UInt32 × Int32 × Int32 => f_X9_bitsOfFloat_b19 s.2.2 s.1 s.2.1) (s := (uF e T, nI m, nI i)) hb
  | k + 1, e, i, m, N + 1, h1, h2, h3, h4, h5, h6 => by
    have hb : f_X9_bitsOfFloat_b19 (nI i) (uF e T) (nI m) = some (.inl (uF (e + 1) T, nI (m - 1), nI (i + 1))) := by
      unfold f_X9_bitsOfFloat_b19
      rw [if_neg (show ¬ (200 : Int32) ≤ nI i from nI_ge (b := 200) (by omega) (by decide)), if_neg (fun h => by
        have h' := (cmpg_ge (by rw [uF_nat (by omega) hT]; omega) (by decide)).mp h
        rw [uF_nat (by omega) hT] at h'
        have h'' : 1258291200 ≤ e * 8388608 + T := h'
        omega), dblF h2 (by omega) hT, gf_ok (uF_ok (by omega) hT), nI_1, down1 (by omega)]
    rw [lp_go (b := fun s : UInt32 × Int32 × Int32 => f_X9_bitsOfFloat_b19 s.2.2 s.1 s.2.1) (s := (uF e T, nI m, nI i)) hb]
    show lp _ N (uF (e + 1) T, nI (m - 1), nI (i + 1)) = _
    rw [bf19 hT k (e + 1) (i + 1) (m - 1) N (by omega) (by omega) (by omega) (by omega) (by omega) (by omega), show m - 1 - k = m - (k + 1) by omega]
theorem bf48 {T : Nat} (hT : T < 8388608) : ∀ (k e i m N : Nat), e = 150 + k → e < 255 → i + k ≤ 199 → k < N → m + k < 1000 → lp (fun s_48 : UInt32 × Int32 × Int32 => f_X9_bitsOfFloat_b48 s_48.2.2 s_48.1 s_48.2.1) N (uF e T, nI m, nI i) = some (uF 150 T, nI (m + k))
  | 0, e, i, m, N + 1, h1, h2, h3, h5, h6 => by
    have hb : f_X9_bitsOfFloat_b48 (nI i) (uF e T) (nI m) = some (.inr (uF 150 T, nI (m + 0))) := by
      unfold f_X9_bitsOfFloat_b48
      obtain rfl : e = 150 := by omega
      rw [if_neg (show ¬ (200 : Int32) ≤ nI i from nI_ge (b := 200) (by omega) (by decide)), if_pos ((cmpl_lt (by rw [uF_nat (by omega) hT]; omega) (by decide)).mpr (by rw [uF_nat (by omega) hT]; show _ < 1266679808; omega))]
      rfl
    exact lp_stop (b := fun s : UInt32 × Int32 × Int32 => f_X9_bitsOfFloat_b48 s.2.2 s.1 s.2.1) (s := (uF e T, nI m, nI i)) hb
  | k + 1, e, i, m, N + 1, h1, h2, h3, h5, h6 => by
    have hb : f_X9_bitsOfFloat_b48 (nI i) (uF e T) (nI m) = some (.inl (uF (e - 1) T, nI (m + 1), nI (i + 1))) := by
      unfold f_X9_bitsOfFloat_b48
      rw [if_neg (show ¬ (200 : Int32) ≤ nI i from nI_ge (b := 200) (by omega) (by decide)), if_neg (fun h => by
        have h' := (cmpl_lt (by rw [uF_nat (by omega) hT]; omega) (by decide)).mp h
        rw [uF_nat (by omega) hT] at h'
        have h'' : e * 8388608 + T < 1266679808 := h'
        omega), hlvF (by omega) (by omega) hT, gf_ok (uF_ok (by omega) hT), nI_1, nI_1]
    rw [lp_go (b := fun s : UInt32 × Int32 × Int32 => f_X9_bitsOfFloat_b48 s.2.2 s.1 s.2.1) (s := (uF e T, nI m, nI i)) hb]
    show lp _ N (uF (e - 1) T, nI (m + 1), nI (i + 1)) = _
    rw [bf48 hT k (e - 1) (i + 1) (m + 1) N (by omega) (by omega) (by omega) (by omega) (by omega), show m + 1 + k = m + (k + 1) by omega]
/-- the first loop leaves a large one as it is -/
theorem bf19_big {e T m N : Nat} (hT : T < 8388608) (h1 : 150 ≤ e) (h2 : e < 255) (hN : 0 < N) : lp (fun s_19 : UInt32 × Int32 × Int32 => f_X9_bitsOfFloat_b19 s_19.2.2 s_19.1 s_19.2.1) N (uF e T, nI m, 0) = some (uF e T, nI m) := by
  obtain ⟨n, rfl⟩ : ∃ n, N = n + 1 := ⟨N - 1, by omega⟩
  have hb : f_X9_bitsOfFloat_b19 0 (uF e T) (nI m) = some (.inr (uF e T, nI m)) := by
    unfold f_X9_bitsOfFloat_b19
    rw [if_neg (by decide), if_pos ((cmpg_ge (by rw [uF_nat (by omega) hT]; omega) (by decide)).mpr (by rw [uF_nat (by omega) hT]; show 1258291200 ≤ _; omega))]
  exact lp_stop (b := fun s : UInt32 × Int32 × Int32 => f_X9_bitsOfFloat_b19 s.2.2 s.1 s.2.1) (s := (uF e T, nI m, 0)) hb
theorem f2i_150 {T : Nat} (hT : T < 8388608) : FP.f2i (uF 150 T) = nI (8388608 + T) := by
  show Int32.ofInt (FP.Core.toInt (-2 ^ 31) (2 ^ 31 - 1) (FP.Core.decode FP.Core.b32 (uF 150 T).toNat)) = _
  rw [uF_nat (by omega) hT, ← as_pos, dec_as FP.Core.good_b32 (by omega) (by rw [FP.Core.exps_b32]; omega) (by rw [FP.Core.tails_b32]; exact hT), FP.Core.tails_b32, FP.Core.qmin_b32]
  show Int32.ofInt (max (-2 ^ 31) (min (2 ^ 31 - 1) (FP.Core.truncate false (2 ^ 23 + T) 0))) = _
  have : FP.Core.truncate false (2 ^ 23 + T) 0 = ((8388608 + T : Nat) : Int) := by
    unfold FP.Core.truncate FP.Core.signed
    simp
  rw [this]
  rw [show max (-2 ^ 31) (min (2 ^ 31 - 1) ((8388608 + T : Nat) : Int)) = ((8388608 + T : Nat) : Int) by omega]
  rfl
/-- the two pieces joined -/
theorem join_nat {e T : Nat} (hT : T < 8388608) (he : e < 255) : (nI e <<< ((23 : Int32) &&& 31)) ||| (nI (8388608 + T) &&& 8388607) = nI (e * 8388608 + T) := by
  have h1 : nI e <<< ((23 : Int32) &&& 31) = nI (e * 8388608) := by
    apply Int32.toBitVec_inj.mp
    rw [Int32.toBitVec_shiftLeft, nI_bv, nI_bv]
    show BitVec.ofNat 32 e <<< (BitVec.smod (BitVec.ofNat 32 23) 32) = _
    rw [show BitVec.smod (BitVec.ofNat 32 23) 32 = 23#32 from by decide]
    apply BitVec.eq_of_toNat_eq
    rw [BitVec.shiftLeft_eq', BitVec.toNat_shiftLeft, BitVec.toNat_ofNat, BitVec.toNat_ofNat, BitVec.toNat_ofNat, Nat.shiftLeft_eq]
    show e % 4294967296 * 8388608 % 4294967296 = e * 8388608 % 4294967296
    omega
  rw [h1, show (8388607 : Int32) = nI (2 ^ 23 - 1) from rfl, xI_and, xI_or, Nat.and_two_pow_sub_one_eq_mod, show (8388608 + T) % 2 ^ 23 = T by omega]
  congr 1
  have := Nat.shiftLeft_add_eq_or_of_lt (i := 23) (b := T) (by omega) e
  rw [Nat.shiftLeft_eq] at this
  exact this.symm
/-- a float by its sign and fields -/
def sF (s : Bool) (e T : Nat) : UInt32 := UInt32.ofNat (s.toNat * 2147483648 + e * 8388608 + T)
theorem sF_nat (s : Bool) {e T : Nat} (he : e < 256) (hT : T < 8388608) : (sF s e T).toNat = s.toNat * 2147483648 + e * 8388608 + T := UInt32.toNat_ofNat_of_lt' (by show _ < 4294967296; cases s <;> simp <;> omega)
theorem xor31 {m : Nat} (h : m < 2 ^ 31) : (2 ^ 31 + m) ^^^ 2 ^ 31 = m := by
  have e : 2 ^ 31 + m = 2 ^ 31 ||| m := by
    have := Nat.two_pow_add_eq_or_of_lt (i := 31) (b := m) h 1
    rw [Nat.mul_one] at this
    exact this
  rw [e]
  apply Nat.eq_of_testBit_eq
  intro j
  rw [Nat.testBit_xor, Nat.testBit_or, Nat.testBit_two_pow]
  by_cases hj : 31 = j
  · subst hj
    rw [Nat.testBit_lt_two_pow h]
    decide
  · rw [decide_eq_false hj]
    simp
theorem fneg_sF {e T : Nat} (he : e < 256) (hT : T < 8388608) : FP.fneg (sF true e T) = uF e T := by
  apply UInt32.toNat_inj.mp
  show (sF true e T ^^^ 2147483648).toNat = _
  rw [UInt32.toNat_xor, sF_nat true he hT, uF_nat he hT]
  have := xor31 (m := e * 8388608 + T) (by omega)
  show (1 * 2147483648 + e * 8388608 + T) ^^^ 2147483648 = _
  rw [show 1 * 2147483648 + e * 8388608 + T = 2 ^ 31 + (e * 8388608 + T) by omega]
  exact this
theorem sF_pos (e T : Nat) : sF false e T = uF e T := by
  show UInt32.ofNat (0 * 2147483648 + e * 8388608 + T) = _
  rw [Nat.zero_mul, Nat.zero_add]
  rfl
theorem neg_cmp {e T : Nat} (he : e < 255) (he1 : 1 ≤ e) (hT : T < 8388608) : ¬ 0 ≤ Op.cmpValue (FP.fcmp (sF true e T) FP.fconst0) .g := by
  have hn := sF_nat true (e := e) (by omega) hT
  have h : FP.fcmp (sF true e T) FP.fconst0 = some .lt := by
    refine (FP.Core.fcmp_lt_key (nn_of (by rw [hn]; simp only [Bool.toNat_true]; omega)) (nn_of (by decide))).mpr ?_
    have k0 : FP.Core.fkey FP.fconst0 = 0 := by decide +kernel
    rw [k0]
    unfold FP.Core.fkey
    rw [hn]
    simp only [Bool.toNat_true]
    split <;> omega
  rw [h]
  decide
theorem bits_sF (s : Bool) {e T : Nat} (he1 : 1 ≤ e) (he : e < 255) (hT : T < 8388608) : (sF s e T).toInt32 = if s then nI (e * 8388608 + T) ||| -2147483648 else nI (e * 8388608 + T) := by
  have e0 : (sF s e T).toInt32 = nI (s.toNat * 2147483648 + e * 8388608 + T) := rfl
  rw [e0]
  cases s with
  | false =>
    rw [if_neg (by decide)]
    show nI (0 * 2147483648 + e * 8388608 + T) = _
    rw [Nat.zero_mul, Nat.zero_add]
  | true =>
    rw [if_pos rfl, show (-2147483648 : Int32) = nI (2 ^ 31) from rfl, xI_or]
    congr 1
    have := Nat.two_pow_add_eq_or_of_lt (i := 31) (b := e * 8388608 + T) (by omega) 1
    rw [Nat.mul_one] at this
    rw [Nat.or_comm, ← this]
    simp only [Bool.toNat_true]
    omega
/-- the loops give the bits of every normal float -/
theorem f9_bitsOfFloat (s : Bool) {e T N : Nat} (he1 : 1 ≤ e) (he : e < 255) (hT : T < 8388608) (hN : 1000 ≤ N) : f_X9_bitsOfFloat N (sF s e T) = some (sF s e T).toInt32 := by
  have start : (if 0 ≤ Op.cmpValue (FP.fcmp (sF s e T) FP.fconst0) .g then sF s e T else FP.fneg (sF s e T)) = uF e T := by
    cases s with
    | true => rw [if_neg (neg_cmp he he1 hT), fneg_sF (by omega) hT]
    | false => rw [sF_pos, if_pos ((cmpg_ge (by rw [uF_nat (by omega) hT]; omega) (by decide)).mpr (Nat.zero_le _))]
  have both : ∃ y, lp (fun s_19 : UInt32 × Int32 × Int32 => f_X9_bitsOfFloat_b19 s_19.2.2 s_19.1 s_19.2.1) N (uF e T, nI 150, nI 0) = some y ∧ lp (fun s_48 : UInt32 × Int32 × Int32 => f_X9_bitsOfFloat_b48 s_48.2.2 s_48.1 s_48.2.1) N (y.1, y.2, nI 0) = some (uF 150 T, nI e) := by
    rcases Nat.le_total e 150 with h | h
    · refine ⟨_, bf19 hT (150 - e) e 0 150 N (by omega) he1 (by omega) (by omega) (by omega) (by omega), ?_⟩
      have := bf48 hT 0 150 0 (150 - (150 - e)) N rfl (by omega) (by omega) (by omega) (by omega)
      rw [show 150 - (150 - e) + 0 = e by omega] at this
      exact this
    · refine ⟨_, bf19_big hT h he (by omega), ?_⟩
      have := bf48 hT (e - 150) e 0 150 N (by omega) he (by omega) (by omega) (by omega)
      rw [show 150 + (e - 150) = e by omega] at this
      exact this
  obtain ⟨y, y1, y2⟩ := both
  unfold f_X9_bitsOfFloat
  rw [start]
  have y1' : lp (fun s_19 : UInt32 × Int32 × Int32 => f_X9_bitsOfFloat_b19 s_19.2.2 s_19.1 s_19.2.1) N (uF e T, (150 : Int32), (0 : Int32)) = some y := y1
  have y2' : lp (fun s_48 : UInt32 × Int32 × Int32 => f_X9_bitsOfFloat_b48 s_48.2.2 s_48.1 s_48.2.1) N (y.1, y.2, (0 : Int32)) = some (uF 150 T, nI e) := y2
  rw [y1', Option.bind_some, y2', Option.bind_some]
  simp only []
  rw [f2i_150 hT, join_nat hT he, bits_sF s he1 he hT]
  cases s with
  | true => rw [if_neg (neg_cmp he he1 hT), if_pos rfl]
  | false => rw [sF_pos, if_pos ((cmpg_ge (by rw [uF_nat (by omega) hT]; omega) (by decide)).mpr (Nat.zero_le _)), if_neg (by decide)]
