/-! the streets that are due, as bits; counts -/
def bS (p : Nat → Bool) : Nat → Nat
  | 0 => 0
  | n + 1 => bS p n + if p n then 2 ^ n else 0
theorem bS_lt (p : Nat → Bool) : ∀ n, bS p n < 2 ^ n
  | 0 => Nat.one_pos
  | n + 1 => by
    have := bS_lt p n
    unfold bS
    rw [Nat.pow_succ]
    split <;> omega
theorem bS_bit (p : Nat → Bool) : ∀ n s, (bS p n).testBit s = (decide (s < n) && p s)
  | 0, s => by simp [bS]
  | n + 1, s => by
    have ih := bS_bit p n s
    have hl := bS_lt p n
    unfold bS
    by_cases h : p n = true
    · rw [if_pos h, show bS p n + 2 ^ n = 2 ^ n * 1 + bS p n by omega, Nat.testBit_two_pow_mul_add 1 hl s, ih]
      by_cases e : s < n
      · rw [if_pos e]; simp [e, show s < n + 1 by omega]
      · rw [if_neg e]
        by_cases g : s = n
        · subst g; simp [h]
        · have e1 : Nat.testBit 1 (s - n) = false := by
            have : s - n = (s - n - 1) + 1 := by omega
            rw [this]; simp [Nat.testBit_succ]
          rw [e1]; simp; omega
    · rw [if_neg h, Nat.add_zero, ih]
      by_cases e : s = n
      · subst e; simp at h; simp [h]
      · have : s < n ↔ s < n + 1 := by omega
        simp [this]
theorem bS_or (p : Nat → Bool) (n : Nat) : bS p n ||| (if p n then 2 ^ n else 0) = bS p (n + 1) := by
  apply Nat.eq_of_testBit_eq
  intro i
  rw [Nat.testBit_or, bS_bit, bS_bit]
  by_cases h : p n = true
  · rw [if_pos h, Nat.testBit_two_pow]
    by_cases e : n = i
    · subst e; simp [h]
    · have : i < n ↔ i < n + 1 := by omega
      simp [e, this]
  · rw [if_neg h, Nat.zero_testBit, Bool.or_false]
    by_cases e : n = i
    · subst e; simp at h; simp [h]
    · have : i < n ↔ i < n + 1 := by omega
      simp [this]
theorem dueB_bS (t : Nat → Nat) : ∀ n, dueB t n = bS (isD t) n
  | 0 => rfl
  | n + 1 => by unfold dueB bS; rw [dueB_bS t n]
theorem f7_isDue {t : Nat → Nat} {fr to ln kd fg : Nat → Int32} {cl sz hm : Int32} (hv : vT t) (h : cR t fr to ln kd fg cl sz hm) {s : Nat} (hs : s < t 49) : f_X7_isDue (nI s) cl kd = some (b2 (isD t s = true)) := by
  have h8 := hv.1
  have ho := hv.2.2.1 s hs
  unfold f_X7_isDue
  rw [f7_isOpen hv h hs, Option.bind_some]
  unfold isD
  by_cases g : t (40 + s) = 1
  · rw [if_neg (fun z => b2_0.mp z g), ga_ok (by omega) (by decide), nI_clamp (by omega), (h.2.2.2 s hs).2.2.2.1, kidx_nI (by omega)]
    have e : (if kfld 4 (t (24 + s)) = 0 then (0 : Int32) else 1) = b2 (decide (t (40 + s) = 1 ∧ t (24 + s) ≠ 5) = true) := by
      rw [g]
      exact le5 (P := fun k => (if kfld 4 k = 0 then (0 : Int32) else 1) = b2 (decide ((1 : Nat) = 1 ∧ k ≠ 5) = true)) (by decide) (by decide) (by decide) (by decide) (by decide) (by decide) (show t (24 + s) ≤ 5 by omega)
    rw [e, gb_b2]
  · rw [if_pos (b2_0.mpr g)]
    unfold b2
    rw [if_neg (by simp [g])]
theorem f10_isDue {t : Nat → Nat} {w : Nat → Int32} (hv : vT t) (h : mR t w) {s : Nat} (hs : s < t 49) : f_X10_isDue (nI s) w = some (b2 (isD t s = true)) := by
  have h8 := hv.1
  have ho := hv.2.2.1 s hs
  have a40 : (40 : Int32) + nI s = nI (8 * 5 + s) := nI_add 40 _
  have a24 : (24 : Int32) + nI s = nI (8 * 3 + s) := nI_add 24 _
  have w40 : w (8 * 5 + s) = nI (t (40 + s)) := h.2.2 5 (by decide) _ hs
  have w24 : w (8 * 3 + s) = nI (t (24 + s)) := h.2.2 3 (by decide) _ hs
  unfold f_X10_isDue
  rw [a40, a24, ga_ok (by omega) (by decide), ga_ok (by omega) (by decide), nI_clamp (by omega), nI_clamp (by omega), w40, w24]
  have k1 := nI_lit (a := t (40 + s)) (b := 1) (by omega) (by decide) 1 rfl
  have k5 := nI_lit (a := t (24 + s)) (b := 5) (by omega) (by decide) 5 rfl
  unfold isD b2
  by_cases g : t (40 + s) = 1
  · rw [if_pos (k1.mpr g)]
    by_cases g5 : t (24 + s) = 5
    · rw [if_pos (k5.mpr g5), gb_0, if_neg (by simp [g5])]
    · rw [if_neg (fun z => g5 (k5.mp z)), gb_1, if_pos (by simp [g, g5])]
  · rw [if_neg (fun z => g (k1.mp z)), if_neg (by simp [g])]
theorem f7_dueStreets {t : Nat → Nat} {fr to ln kd fg : Nat → Int32} {cl sz hm : Int32} (hv : vT t) (h : cR t fr to ln kd fg cl sz hm) {N : Nat} (hN : 100 ≤ N) : f_X7_dueStreets N cl sz kd = some (nI (dueB t (t 49))) := by
  have h8 := hv.1
  have g := lp_seq (b := fun s => f_X7_dueStreets_b4 sz s.2 s.1 cl kd) (fun i => (nI (bS (isD t) i), nI i)) (nI (bS (isD t) (t 49))) (t 49) (fun i hi => by
    show f_X7_dueStreets_b4 sz (nI i) (nI (bS (isD t) i)) cl kd = _
    unfold f_X7_dueStreets_b4
    rw [h.1, if_neg (nI_ge hi (by omega)), f7_isDue hv h hi, Option.bind_some, nI_1, sh1 (by omega), xI_or]
    congr 3
    rw [← bS_or]
    by_cases d : isD t i = true
    · rw [if_neg (fun z => b2_0.mp z d), if_pos d]
    · rw [if_pos (b2_0.mpr d), if_neg d, Nat.or_zero]) (by
    show f_X7_dueStreets_b4 sz (nI (t 49)) (nI (bS (isD t) (t 49))) cl kd = _
    unfold f_X7_dueStreets_b4
    rw [h.1, if_pos (nI_le (Nat.le_refl _) (by omega))]) (t 49) 0 N (by omega) (by omega)
  unfold f_X7_dueStreets
  rw [dueB_bS]
  exact (congrArg (fun z => Option.bind z fun e_2 => some e_2) g).trans rfl
theorem f10_due {t : Nat → Nat} {w : Nat → Int32} (hv : vT t) (h : mR t w) {N : Nat} (hN : 100 ≤ N) : f_X10_due N w = some (nI (dueB t (t 49))) := by
  have h8 := hv.1
  have e49 : Int32.toNatClampNeg (49 : Int32) = 49 := rfl
  have g := lp_seq (b := fun s => f_X10_due_b4 w s.2 s.1) (fun i => (nI (bS (isD t) i), nI i)) (nI (bS (isD t) (t 49))) (t 49) (fun i hi => by
    show f_X10_due_b4 w (nI i) (nI (bS (isD t) i)) = _
    unfold f_X10_due_b4
    rw [ga_in (by decide), e49, h.1, if_neg (nI_ge hi (by omega)), f10_isDue hv h hi, Option.bind_some, nI_1, sh1 (by omega)]
    congr 3
    rw [← bS_or]
    by_cases d : isD t i = true
    · rw [if_neg (fun z => b2_0.mp z d), if_pos d, xI_or]
    · rw [if_pos (b2_0.mpr d), if_neg d]; exact xI_or _ 0) (by
    show f_X10_due_b4 w (nI (t 49)) (nI (bS (isD t) (t 49))) = _
    unfold f_X10_due_b4
    rw [ga_in (by decide), e49, h.1, if_pos (nI_le (Nat.le_refl _) (by omega))]) (t 49) 0 N (by omega) (by omega)
  unfold f_X10_due
  rw [dueB_bS]
  exact (congrArg (fun z => Option.bind z fun e_2 => some e_2) g).trans rfl
def opS (t : Nat → Nat) (s : Nat) : Bool := decide (t (40 + s) = 1)
theorem f7_openStreets {t : Nat → Nat} {fr to ln kd fg : Nat → Int32} {cl sz hm : Int32} (hv : vT t) (h : cR t fr to ln kd fg cl sz hm) : f_X7_openStreets cl sz = some (nI (bS (opS t) (t 49))) := by
  have h8 := hv.1
  unfold f_X7_openStreets
  rw [h.1, h.2.2.1, sh1 (by omega), show (1 : Int32) = nI 1 from rfl, pk_sub (Nat.one_le_two_pow)]
  congr 1
  apply Int32.toBitVec_inj.mp
  rw [Int32.toBitVec_and, Int32.toBitVec_xor, nI_bv, nI_bv, nI_bv]
  apply BitVec.eq_of_getLsbD_eq
  intro i hi
  rw [BitVec.getLsbD_and, BitVec.getLsbD_xor, BitVec.getLsbD_ofNat, BitVec.getLsbD_ofNat, BitVec.getLsbD_ofNat]
  have hm : (Int32.toBitVec (-nI 1)).getLsbD i = true := by
    have : Int32.toBitVec (-nI 1) = BitVec.allOnes 32 := by decide
    rw [this, BitVec.getLsbD_allOnes]; exact decide_eq_true hi
  rw [hm, Nat.testBit_two_pow_sub_one, clB_bit, bS_bit]
  by_cases e : i < t 49
  · have ho := (hv.2.2.1 i e).2.2.2.2.2.2.2
    unfold opS
    by_cases g : t (40 + i) = 1
    · simp [e, g, hi]
    · have g0 : t (40 + i) = 0 := by omega
      simp [e, g0, hi]
  · simp [e]
theorem f10_count1 {t : Nat → Nat} {w : Nat → Int32} (hv : vT t) (h : mR t w) {N : Nat} (hN : 100 ≤ N) : lp (fun s_54 => f_X10_count_b54 w s_54.2 s_54.1) N ((0 : Int32), (0 : Int32)) = some (nI (bS (opS t) (t 49))) := by
  have h8 := hv.1
  have e49 : Int32.toNatClampNeg (49 : Int32) = 49 := rfl
  exact lp_seq (b := fun s => f_X10_count_b54 w s.2 s.1) (fun i => (nI (bS (opS t) i), nI i)) (nI (bS (opS t) (t 49))) (t 49) (fun i hi => by
    show f_X10_count_b54 w (nI i) (nI (bS (opS t) i)) = _
    have ho := (hv.2.2.1 i hi).2.2.2.2.2.2.2
    have a40 : (40 : Int32) + nI i = nI (8 * 5 + i) := nI_add 40 _
    have w40 : w (8 * 5 + i) = nI (t (40 + i)) := h.2.2 5 (by decide) _ hi
    unfold f_X10_count_b54
    rw [ga_in (by decide), e49, h.1, if_neg (nI_ge hi (by omega)), a40, ga_ok (by omega) (by decide), nI_clamp (by omega), w40, nI_1]
    congr 3
    rw [← bS_or]
    unfold opS
    by_cases d : t (40 + i) = 1
    · rw [d, show nI 1 = (1 : Int32) from rfl, sh1 (by omega), xI_or]; simp
    · rw [show t (40 + i) = 0 by omega, pk_shlN (n := 0) (nI i &&& 31) i (sm32 i (by omega)) (by omega), Nat.zero_mul]
      exact xI_or _ 0) (by
    show f_X10_count_b54 w (nI (t 49)) (nI (bS (opS t) (t 49))) = _
    unfold f_X10_count_b54
    rw [ga_in (by decide), e49, h.1, if_pos (nI_le (Nat.le_refl _) (by omega))]) (t 49) 0 N (by omega) (by omega)
def lnS (t : Nat → Nat) : Nat → Nat
  | 0 => 0
  | n + 1 => lnS t n + t (16 + n)
theorem f7_lengths {t : Nat → Nat} {fr to ln kd fg : Nat → Int32} {cl sz hm : Int32} (hv : vT t) (h : cR t fr to ln kd fg cl sz hm) {N : Nat} (hN : 100 ≤ N) : f_X7_lengthsTogether N sz ln = some (nI (lnS t (t 49))) := by
  have h8 := hv.1
  have g := lp_seq (b := fun s => f_X7_lengthsTogether_b4 sz s.2 s.1 ln) (fun i => (nI (lnS t i), nI i)) (nI (lnS t (t 49))) (t 49) (fun i hi => by
    show f_X7_lengthsTogether_b4 sz (nI i) (nI (lnS t i)) ln = _
    unfold f_X7_lengthsTogether_b4
    rw [h.1, if_neg (nI_ge hi (by omega)), ga_ok (by omega) (by decide), nI_clamp (by omega), (h.2.2.2 i hi).2.2.1, nI_add, nI_1]; rfl) (by
    show f_X7_lengthsTogether_b4 sz (nI (t 49)) (nI (lnS t (t 49))) ln = _
    unfold f_X7_lengthsTogether_b4
    rw [h.1, if_pos (nI_le (Nat.le_refl _) (by omega))]) (t 49) 0 N (by omega) (by omega)
  unfold f_X7_lengthsTogether
  exact (congrArg (fun z => Option.bind z fun e_2 => some e_2) g).trans rfl
theorem f10_count3 {t : Nat → Nat} {w : Nat → Int32} (hv : vT t) (h : mR t w) {N : Nat} (hN : 100 ≤ N) : lp (fun s_97 => f_X10_count_b97 w s_97.2 s_97.1) N ((0 : Int32), (0 : Int32)) = some (nI (lnS t (t 49))) := by
  have h8 := hv.1
  have e49 : Int32.toNatClampNeg (49 : Int32) = 49 := rfl
  exact lp_seq (b := fun s => f_X10_count_b97 w s.2 s.1) (fun i => (nI (lnS t i), nI i)) (nI (lnS t (t 49))) (t 49) (fun i hi => by
    show f_X10_count_b97 w (nI i) (nI (lnS t i)) = _
    have a16 : (16 : Int32) + nI i = nI (8 * 2 + i) := nI_add 16 _
    have w16 : w (8 * 2 + i) = nI (t (16 + i)) := h.2.2 2 (by decide) _ hi
    unfold f_X10_count_b97
    rw [ga_in (by decide), e49, h.1, if_neg (nI_ge hi (by omega)), a16, ga_ok (by omega) (by decide), nI_clamp (by omega), w16, nI_1, nI_add]; rfl) (by
    show f_X10_count_b97 w (nI (t 49)) (nI (lnS t (t 49))) = _
    unfold f_X10_count_b97
    rw [ga_in (by decide), e49, h.1, if_pos (nI_le (Nat.le_refl _) (by omega))]) (t 49) 0 N (by omega) (by omega)
