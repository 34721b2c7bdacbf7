/-! the bits of floats, in order -/
theorem NR_sF {s : Bool} {lo hi : Nat} {x : UInt32} (h : NR FP.Core.b32 s lo hi x.toNat) : ∃ e T, x = sF s e T ∧ lo ≤ e ∧ e ≤ hi ∧ T < 8388608 := by
  obtain ⟨h1, h2, h3, h4⟩ := h
  rw [FP.Core.tails_b32] at h2 h3
  unfold FP.Core.mag at h2 h3
  rw [FP.Core.half_b32] at h1 h2 h3 h4
  refine ⟨x.toNat % 2147483648 / 8388608, x.toNat % 8388608, ?_, by omega, by omega, by omega⟩
  unfold sF
  have e : s.toNat * 2147483648 + x.toNat % 2147483648 / 8388608 * 8388608 + x.toNat % 8388608 = x.toNat := by
    cases s with
    | false =>
      have := of_decide_eq_false h4
      simp only [Bool.toNat_false]
      omega
    | true =>
      have := of_decide_eq_true h4
      simp only [Bool.toNat_true]
      omega
  rw [e]
  exact (UInt32.ofNat_toNat).symm
theorem fb_ok {r : UInt32} (h : r.toNat % 2 ^ 31 ≤ 2139095040) : f_Jxf58ca_floatToIntBits_5c35a r = some r.toInt32 := by
  have c : FP.fcmp r r = some .eq := (FP.Core.fcmp_eq_key (nn_of h) (nn_of h)).mpr rfl
  have n0 : f_Jxf58ca_isNaN_12338 r = some 0 := by
    unfold f_Jxf58ca_isNaN_12338
    rw [c]
    rfl
  unfold f_Jxf58ca_floatToIntBits_5c35a
  rw [n0, Option.bind_some, if_pos rfl]
theorem fb_nan {r : UInt32} (h : isNaN32 r = true) : f_Jxf58ca_floatToIntBits_5c35a r = some 2143289344 := by
  have n0 : f_Jxf58ca_isNaN_12338 r = some 1 := by
    unfold f_Jxf58ca_isNaN_12338
    rw [fcmp_nan (Or.inl h)]
    rfl
  unfold f_Jxf58ca_floatToIntBits_5c35a
  rw [n0, Option.bind_some, if_neg (by decide)]
theorem fb_alike {r x : UInt32} (h : alike32 r x = true) : f_Jxf58ca_floatToIntBits_5c35a r = f_Jxf58ca_floatToIntBits_5c35a x := by
  rcases alike_cases h with rfl | ⟨h1, h2⟩
  · rfl
  · rw [fb_nan h1, fb_nan h2]
theorem cmp_alike {r x u y : UInt32} (h : alike32 r x = true) (g : alike32 u y = true) : f_Jxf58ca_compare_66c2b r u = f_Jxf58ca_compare_66c2b x y := by
  have e : FP.fcmp r u = FP.fcmp x y := by
    rcases alike_cases h with rfl | ⟨h1, h2⟩
    · rcases alike_cases g with rfl | ⟨g1, g2⟩
      · rfl
      · rw [fcmp_nan (Or.inr g1), fcmp_nan (Or.inr g2)]
    · rw [fcmp_nan (Or.inl h1), fcmp_nan (Or.inl h2)]
  unfold f_Jxf58ca_compare_66c2b
  rw [e, fb_alike h, fb_alike g]
def ordB (b : Int32) : Int32 := if b < 0 then b ^^^ 2147483647 else b
theorem xor_low {m : Nat} (h : m < 2 ^ 31) : (2 ^ 31 + m) ^^^ (2 ^ 31 - 1) = 2 ^ 32 - (m + 1) := by
  have e : 2 ^ 31 + m = 2 ^ 31 ||| m := by
    have := Nat.two_pow_add_eq_or_of_lt (i := 31) (b := m) h 1
    rw [Nat.mul_one] at this
    exact this
  rw [e]
  apply Nat.eq_of_testBit_eq
  intro j
  rw [Nat.testBit_xor, Nat.testBit_or, Nat.testBit_two_pow, Nat.testBit_two_pow_sub_one, Nat.testBit_two_pow_sub_succ (Nat.lt_trans h (by decide))]
  rcases Nat.lt_trichotomy j 31 with hj | hj | hj
  · rw [decide_eq_false (show ¬ 31 = j by omega), decide_eq_true hj, decide_eq_true (show j < 32 by omega)]
    cases m.testBit j <;> rfl
  · subst hj
    rw [Nat.testBit_lt_two_pow h]
    decide
  · rw [Nat.testBit_lt_two_pow (Nat.lt_of_lt_of_le h (Nat.pow_le_pow_right (by decide) (by omega))), decide_eq_false (show ¬ 31 = j by omega), decide_eq_false (show ¬ j < 31 by omega), decide_eq_false (show ¬ j < 32 by omega)]
    rfl
theorem u2i (a : UInt32) : a.toInt32 = nI a.toNat := by
  apply Int32.toBitVec_inj.mp
  rw [nI_bv]
  show a.toBitVec = BitVec.ofNat 32 a.toBitVec.toNat
  apply BitVec.eq_of_toNat_eq
  rw [BitVec.toNat_ofNat, Nat.mod_eq_of_lt a.toBitVec.isLt]
theorem nI_big {n : Nat} (h1 : 2 ^ 31 ≤ n) (h2 : n < 2 ^ 32) : (nI n).toInt = (n : Int) - 2 ^ 32 := by
  show (BitVec.ofNat 32 n).toInt = _
  rw [BitVec.toInt_eq_toNat_cond, BitVec.toNat_ofNat, Nat.mod_eq_of_lt h2, if_neg (by omega)]
  rfl
theorem ord_int (a : UInt32) : (ordB a.toInt32).toInt = if 2 ^ 31 ≤ a.toNat then (2 ^ 31 - 1 : Int) - a.toNat else a.toNat := by
  have hl : a.toNat < 2 ^ 32 := a.toNat_lt
  rw [u2i]
  unfold ordB
  by_cases h : 2 ^ 31 ≤ a.toNat
  · have hb := nI_big h hl
    rw [if_pos (by rw [i32_lt, hb]; show (a.toNat : Int) - 2 ^ 32 < 0; omega), if_pos h, show (2147483647 : Int32) = nI (2 ^ 31 - 1) from rfl, xI_xor]
    obtain ⟨m, hm⟩ : ∃ m, a.toNat = 2 ^ 31 + m := ⟨a.toNat - 2 ^ 31, by omega⟩
    rw [hm, xor_low (by omega), nI_big (by omega) (by omega)]
    omega
  · have hb : (nI a.toNat).toInt = a.toNat := nI_toInt (by omega)
    rw [if_neg (by rw [i32_lt, hb]; show ¬ (a.toNat : Int) < 0; omega), if_neg h, hb]
/-- a float that a time may be: NaN, or a number that is not -0 -/
def okF (a : UInt32) : Prop := isNaN32 a = true ∨ (a.toNat % 2 ^ 31 ≤ 2139095040 ∧ a.toNat ≠ 2147483648)
theorem cmpJ (x y : Int32) : f_J6_compare_7cf53 x y = some (if y.toInt ≤ x.toInt then (if x.toInt = y.toInt then 0 else 1) else -1) := by
  unfold f_J6_compare_7cf53
  congr 1
  by_cases h : y.toInt ≤ x.toInt
  · rw [if_pos (i32_le.mpr h), if_pos h]
    by_cases g : x.toInt = y.toInt
    · rw [if_pos (i32_eq.mpr g), if_pos g]
    · rw [if_neg (fun z => g (i32_eq.mp z)), if_neg g]
  · rw [if_neg (fun z => h (i32_le.mp z)), if_neg h]
theorem ord_nan : (ordB 2143289344).toInt = 2143289344 := by decide +kernel
theorem ord_lt_nan {a : UInt32} (h : a.toNat % 2 ^ 31 ≤ 2139095040) : (ordB a.toInt32).toInt < 2143289344 ∧ a.toInt32.toInt < 2143289344 := by
  have hl : a.toNat < 2 ^ 32 := a.toNat_lt
  constructor
  · rw [ord_int]
    split <;> omega
  · rw [u2i]
    by_cases g : 2 ^ 31 ≤ a.toNat
    · rw [nI_big g hl]; omega
    · rw [nI_toInt (by omega)]; omega
theorem cmpN (a b : UInt32) {p q : Int32} (h : FP.fcmp a b = none) (hp : f_Jxf58ca_floatToIntBits_5c35a a = some p) (hq : f_Jxf58ca_floatToIntBits_5c35a b = some q) : f_Jxf58ca_compare_66c2b a b = some (if p = q then 0 else if q ≤ p then 1 else -1) := by
  unfold f_Jxf58ca_compare_66c2b
  rw [h, hp, hq, if_pos (by decide), if_pos (by decide), Option.bind_some, Option.bind_some]
theorem cmp_ok {a b : UInt32} (ha : okF a) (hb : okF b) {p q : Int32} (hp : f_Jxf58ca_floatToIntBits_5c35a a = some p) (hq : f_Jxf58ca_floatToIntBits_5c35a b = some q) : f_Jxf58ca_compare_66c2b a b = f_J6_compare_7cf53 (ordB p) (ordB q) := by
  rw [cmpJ]
  rcases ha with ha | ⟨ha, ha0⟩
  · rw [fb_nan ha] at hp
    cases hp
    rw [cmpN a b (fcmp_nan (Or.inl ha)) (fb_nan ha) hq, ord_nan]
    congr 1
    rcases hb with hb | ⟨hb, hb0⟩
    · rw [fb_nan hb] at hq
      cases hq
      rw [ord_nan, if_pos rfl, if_pos (Int.le_refl _), if_pos rfl]
    · rw [fb_ok hb] at hq
      cases hq
      have := ord_lt_nan hb
      rw [if_neg (fun z => by rw [← z] at this; exact absurd this.2 (by decide)), if_pos (by rw [i32_le]; show _ ≤ (2143289344 : Int); omega), if_pos (by omega), if_neg (by omega)]
  · rw [fb_ok ha] at hp
    cases hp
    have oa := ord_int a
    have ta := ord_lt_nan ha
    have la : a.toNat < 2 ^ 32 := a.toNat_lt
    rcases hb with hb | ⟨hb, hb0⟩
    · rw [fb_nan hb] at hq
      cases hq
      rw [cmpN a b (fcmp_nan (Or.inr hb)) (fb_ok ha) (fb_nan hb), ord_nan]
      congr 1
      rw [if_neg (fun z => by rw [z] at ta; exact absurd ta.2 (by decide)), if_neg (by rw [i32_le]; show ¬ (2143289344 : Int) ≤ _; omega), if_neg (by omega)]
    · have hq0 := hq
      rw [fb_ok hb] at hq0
      cases hq0
      have ob := ord_int b
      have lb : b.toNat < 2 ^ 32 := b.toNat_lt
      have ka : FP.Core.fkey a = if 2 ^ 31 ≤ a.toNat then (2 ^ 31 : Int) - a.toNat else a.toNat := rfl
      have kb : FP.Core.fkey b = if 2 ^ 31 ≤ b.toNat then (2 ^ 31 : Int) - b.toNat else b.toNat := rfl
      have nl := FP.Core.fcmp_lt_key (nn_of ha) (nn_of hb)
      have ne := FP.Core.fcmp_eq_key (nn_of ha) (nn_of hb)
      have ng := FP.Core.fcmp_gt_key (nn_of ha) (nn_of hb)
      rcases Int.lt_trichotomy (FP.Core.fkey a) (FP.Core.fkey b) with h | h | h
      · have hc : f_Jxf58ca_compare_66c2b a b = some (-1) := by
          unfold f_Jxf58ca_compare_66c2b
          rw [show FP.fcmp a b = some .lt from nl.mpr h, if_neg (by decide)]
        rw [hc]
        congr 1
        rw [ka, kb] at h
        rw [oa, ob, if_neg (by split <;> split <;> split at h <;> omega)]
      · have hab : a = b := by
          apply UInt32.toNat_inj.mp
          rw [ka, kb] at h
          split at h <;> split at h <;> omega
        subst hab
        have hc : f_Jxf58ca_compare_66c2b a a = some 0 := by
          unfold f_Jxf58ca_compare_66c2b
          rw [show FP.fcmp a a = some .eq from ne.mpr h, if_pos (by decide), if_pos (by decide), fb_ok ha, Option.bind_some, Option.bind_some, if_pos rfl]
        rw [hc, if_pos (Int.le_refl _), if_pos rfl]
      · have hc : f_Jxf58ca_compare_66c2b a b = some 1 := by
          unfold f_Jxf58ca_compare_66c2b
          rw [show FP.fcmp a b = some .gt from ng.mpr h, if_pos (by decide), if_neg (by decide)]
        rw [hc]
        congr 1
        rw [ka, kb] at h
        rw [oa, ob, if_pos (by split <;> split <;> split at h <;> omega), if_neg (by split <;> split <;> split at h <;> omega)]
