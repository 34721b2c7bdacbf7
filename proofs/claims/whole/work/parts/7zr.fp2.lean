/-! floats: NaN, the endless, nought -/
theorem nan_iff {r : UInt32} : isNaN32 r = true ↔ FP.Core.val32 r = .nan := by
  rw [isNaN32_iff]
  have h := FP.Core.ne_nan32 r
  have e : r.toNat &&& 0x7fffffff = r.toNat % 2 ^ 31 := Nat.and_two_pow_sub_one_eq_mod _ 31
  rw [e]
  constructor
  · intro g
    exact Classical.byContradiction fun n => by have := h.mp n; omega
  · intro g
    refine Nat.lt_of_not_le fun n => ?_
    exact h.mpr n g
theorem fdiv_nan {a b : UInt32} (h : isNaN32 b = true) : isNaN32 (FP.fdiv a b) = true := by
  have h' : FP.Core.decode FP.Core.b32 b.toNat = .nan := nan_iff.mp h
  have e : FP.fdiv a b = UInt32.ofNat (FP.Core.encode FP.Core.b32 .nan) := by
    show UInt32.ofNat (FP.Core.encode FP.Core.b32 (FP.Core.quotient FP.Core.b32 (FP.Core.decode FP.Core.b32 a.toNat) (FP.Core.decode FP.Core.b32 b.toNat))) = _
    rw [h']
    cases FP.Core.decode FP.Core.b32 a.toNat <;> rfl
  rw [e]
  decide
theorem fadd_nan {a b : UInt32} (h : isNaN32 b = true) : isNaN32 (FP.fadd a b) = true := by
  have h' : FP.Core.decode FP.Core.b32 b.toNat = .nan := nan_iff.mp h
  have e : FP.fadd a b = UInt32.ofNat (FP.Core.encode FP.Core.b32 .nan) := by
    show UInt32.ofNat (FP.Core.encode FP.Core.b32 (FP.Core.round FP.Core.b32 (FP.Core.exactSum (FP.Core.decode FP.Core.b32 a.toNat) (FP.Core.decode FP.Core.b32 b.toNat)))) = _
    rw [h']
    cases FP.Core.decode FP.Core.b32 a.toNat <;> rfl
  rw [e]
  decide
theorem div00 : isNaN32 (FP.fdiv (FP.i2f 0) (FP.i2f 0)) = true := by decide +kernel
theorem alike_nan {r x : UInt32} (h : alike32 r x = true) (hx : isNaN32 x = true) : isNaN32 r = true := by
  unfold alike32 at h
  rcases Bool.or_eq_true_iff.mp h with h | h
  · rw [of_decide_eq_true h]; exact hx
  · exact (Bool.and_eq_true_iff.mp h).1
theorem alike_cases {r x : UInt32} (h : alike32 r x = true) : r = x ∨ (isNaN32 r = true ∧ isNaN32 x = true) := by
  unfold alike32 at h
  rcases Bool.or_eq_true_iff.mp h with h | h
  · exact Or.inl (of_decide_eq_true h)
  · exact Or.inr (Bool.and_eq_true_iff.mp h)
theorem alike_of_nan {r x : UInt32} (h : isNaN32 r = true) (h2 : isNaN32 x = true) : alike32 r x = true := by
  unfold alike32
  rw [h, h2]
  simp
theorem fcmp_nan {a b : UInt32} (h : isNaN32 a = true ∨ isNaN32 b = true) : FP.fcmp a b = none := (FP.Core.fcmp_none a b).mpr (h.imp nan_iff.mp nan_iff.mp)
theorem qm32 : (-(FP.Core.b32).qmin).toNat = 149 := by rw [FP.Core.qmin_b32]; rfl
theorem i2f_nat (x : Int32) : (FP.i2f x).toNat = FP.Core.fromInt FP.Core.b32 x.toInt := by
  refine UInt32.toNat_ofNat_of_lt' ?_
  have := enc_lt FP.Core.good_b32 (FP.Core.round_fits FP.Core.good_b32 (FP.Core.Datum.fin (decide (x.toInt < 0)) x.toInt.natAbs 0))
  rw [FP.Core.half_b32] at this
  show FP.Core.fromInt FP.Core.b32 x.toInt < 4294967296
  have e : FP.Core.fromInt FP.Core.b32 x.toInt = FP.Core.encode FP.Core.b32 (FP.Core.round FP.Core.b32 (FP.Core.Datum.fin (decide (x.toInt < 0)) x.toInt.natAbs 0)) := rfl
  rw [e]
  omega
/-- an int that is not nought, as a float -/
theorem i2f_NR {x : Int32} (h : x ≠ 0) : NR FP.Core.b32 (decide (x.toInt < 0)) 127 158 (FP.i2f x).toNat := by
  rw [i2f_nat]
  have h0 : x.toInt ≠ 0 := fun e => h (Int32.toInt_inj.mp (by rw [e]; rfl))
  have h1 := x.toInt_lt
  have h2 := x.le_toInt
  exact NR_int FP.Core.good_b32 (j := 31) h0 (by omega) (by decide) (by rw [FP.Core.exps_b32]; decide) (by rw [qm32, FP.Core.p_b32]; decide) (by decide) (by rw [qm32, FP.Core.p_b32]; decide)
theorem cost_NR {c : Nat} (h : 1 ≤ c) (h2 : c ≤ 4096) : NR FP.Core.b32 false 127 139 (FP.i2f (nI c)).toNat := by
  rw [i2f_nat]
  have e : (nI c).toInt = (c : Int) := Int32.toInt_ofNat_of_lt (by omega)
  rw [e]
  have := NR_int FP.Core.good_b32 (i := (c : Int)) (j := 12) (lo := 127) (hi := 139) (by omega) (by omega) (by decide) (by rw [FP.Core.exps_b32]; decide) (by rw [qm32, FP.Core.p_b32]; decide) (by decide) (by rw [qm32, FP.Core.p_b32]; decide)
  rw [decide_eq_false (by omega)] at this
  exact this
theorem NR_dec {s : Bool} {lo hi : Nat} {x : UInt32} (h : NR FP.Core.b32 s lo hi x.toNat) (h1 : 1 ≤ lo) (h2 : hi < 255) : ∃ c q, FP.Core.decode FP.Core.b32 x.toNat = .fin s c q ∧ c ≠ 0 := by
  obtain ⟨c, q, x1, x2, x3⟩ := NR_fin FP.Core.good_b32 h (by rw [FP.Core.exps_b32]; exact h2)
  refine ⟨c, q, x1, ?_⟩
  rintro rfl
  have g1 : (FP.Core.b32).tails * 2 ^ (lo - 1) ≤ FP.Core.zmag FP.Core.b32 (.fin s 0 q) := by
    rw [x3, ← FP.Core.unitsOf_start h1]; exact FP.Core.unitsOf_le_iff.mpr h.2.1
  have z : FP.Core.zmag FP.Core.b32 (.fin s 0 q) = 0 := Nat.zero_mul _
  have := Nat.mul_pos (FP.Core.tails_pos FP.Core.b32) (Nat.two_pow_pos (lo - 1))
  omega
def infF (s : Bool) : UInt32 := if s then 4286578688 else 2139095040
def zerF (s : Bool) : UInt32 := if s then 2147483648 else 0
theorem dec_inf (s : Bool) : FP.Core.decode FP.Core.b32 (infF s).toNat = .inf s := by cases s <;> decide +kernel
theorem dec_zer (s : Bool) : FP.Core.decode FP.Core.b32 (zerF s).toNat = .fin s 0 (FP.Core.b32).qmin := by cases s <;> decide +kernel
theorem enc_inf (s : Bool) : UInt32.ofNat (FP.Core.encode FP.Core.b32 (.inf s)) = infF s := by cases s <;> decide +kernel
theorem enc_zer (s : Bool) : UInt32.ofNat (FP.Core.encode FP.Core.b32 (.fin s 0 (FP.Core.b32).qmin)) = zerF s := by cases s <;> decide +kernel
theorem i2f_0 : FP.i2f 0 = zerF false := by decide +kernel
/-- a number by nought -/
theorem by_zer {s t : Bool} {lo hi : Nat} {x : UInt32} (h : NR FP.Core.b32 s lo hi x.toNat) (h1 : 1 ≤ lo) (h2 : hi < 255) : FP.fdiv x (zerF t) = infF (s != t) := by
  obtain ⟨c, q, e, hc⟩ := NR_dec h h1 h2
  show UInt32.ofNat (FP.Core.encode FP.Core.b32 (FP.Core.quotient FP.Core.b32 (FP.Core.decode FP.Core.b32 x.toNat) (FP.Core.decode FP.Core.b32 (zerF t).toNat))) = _
  rw [e, dec_zer]
  have e2 : FP.Core.quotient FP.Core.b32 (.fin s c q) (.fin t 0 (FP.Core.b32).qmin) = .inf (s != t) := by
    simp only [FP.Core.quotient, if_neg hc, ↓reduceIte]
  rw [e2, enc_inf]
theorem by_inf {s t : Bool} {lo hi : Nat} {x : UInt32} (h : NR FP.Core.b32 s lo hi x.toNat) (h1 : 1 ≤ lo) (h2 : hi < 255) : FP.fdiv x (infF t) = zerF (s != t) := by
  obtain ⟨c, q, e, hc⟩ := NR_dec h h1 h2
  show UInt32.ofNat (FP.Core.encode FP.Core.b32 (FP.Core.quotient FP.Core.b32 (FP.Core.decode FP.Core.b32 x.toNat) (FP.Core.decode FP.Core.b32 (infF t).toNat))) = _
  rw [e, dec_inf]
  exact enc_zer _
theorem zer_by {s t : Bool} {lo hi : Nat} {x : UInt32} (h : NR FP.Core.b32 s lo hi x.toNat) (h1 : 1 ≤ lo) (h2 : hi < 255) : FP.fdiv (zerF t) x = zerF (t != s) := by
  obtain ⟨c, q, e, hc⟩ := NR_dec h h1 h2
  show UInt32.ofNat (FP.Core.encode FP.Core.b32 (FP.Core.quotient FP.Core.b32 (FP.Core.decode FP.Core.b32 (zerF t).toNat) (FP.Core.decode FP.Core.b32 x.toNat))) = _
  rw [e, dec_zer]
  show UInt32.ofNat (FP.Core.encode FP.Core.b32 (if c = 0 then _ else FP.Core.roundRatio FP.Core.b32 (t != s) 0 c ((FP.Core.b32).qmin - q))) = _
  rw [if_neg hc, ← enc_zer]
  have fz : FP.Core.fits FP.Core.b32 (.fin (t != s) 0 (FP.Core.b32).qmin) := dec_zer (t != s) ▸ FP.Core.decode_fits FP.Core.good_b32 _
  rw [FP.Core.roundRatio_exact FP.Core.good_b32 (Nat.pos_of_ne_zero hc) fz (by rw [Nat.zero_mul, Nat.zero_mul, Nat.zero_mul])]
theorem add_zer (t : Bool) : FP.fadd 0 (zerF t) = 0 := by cases t <;> decide +kernel
theorem add_inf0 (t : Bool) : FP.fadd 0 (infF t) = infF t := by cases t <;> decide +kernel
theorem add_inf (t : Bool) : FP.fadd (infF t) (infF t) = infF t := by cases t <;> decide +kernel
/-- the times, summed -/
def tS (c : Nat → Nat) (pace : UInt32) : Nat → UInt32
  | 0 => 0
  | n + 1 => FP.fadd (tS c pace n) (FP.fdiv (FP.i2f (nI (c n))) pace)
theorem tS_s (c : Nat → Nat) (pace : UInt32) (n : Nat) : tS c pace (n + 1) = FP.fadd (tS c pace n) (FP.fdiv (FP.i2f (nI (c n))) pace) := rfl
theorem tS_inf {c : Nat → Nat} {t : Bool} : ∀ n, (∀ i, i < n → 1 ≤ c i ∧ c i ≤ 4096) → tS c (infF t) n = 0
  | 0, _ => rfl
  | n + 1, h => by
    have := h n (Nat.lt_succ_self n)
    rw [tS_s, tS_inf n (fun i hi => h i (Nat.lt_succ_of_lt hi)), by_inf (cost_NR this.1 this.2) (by decide) (by decide), add_zer]
theorem tS_zer {c : Nat → Nat} {t : Bool} : ∀ n, (∀ i, i < n → 1 ≤ c i ∧ c i ≤ 4096) → tS c (zerF t) n = if n = 0 then 0 else infF t
  | 0, _ => rfl
  | n + 1, h => by
    have := h n (Nat.lt_succ_self n)
    rw [tS_s, tS_zer n (fun i hi => h i (Nat.lt_succ_of_lt hi)), by_zer (cost_NR this.1 this.2) (by decide) (by decide), if_neg (Nat.succ_ne_zero n), Bool.false_bne]
    by_cases z : n = 0
    · rw [if_pos z, add_inf0]
    · rw [if_neg z, add_inf]
theorem NR_mono {f : FP.Core.Fmt} {s : Bool} {lo hi hj n : Nat} (h : NR f s lo hi n) (hh : hi ≤ hj) : NR f s lo hj n := ⟨h.1, h.2.1, Nat.le_trans h.2.2.1 (Nat.mul_le_mul_right _ hh), h.2.2.2⟩
theorem fdiv_NR {s t : Bool} {lo hi : Nat} {x y : UInt32} (h : NR FP.Core.b32 (s != t) lo hi (FP.Core.div FP.Core.b32 x.toNat y.toNat)) : NR FP.Core.b32 (s != t) lo hi (FP.fdiv x y).toNat := by
  have e : (FP.fdiv x y).toNat = FP.Core.div FP.Core.b32 x.toNat y.toNat := by
    refine UInt32.toNat_ofNat_of_lt' ?_
    have := h.1
    rw [FP.Core.half_b32] at this
    show _ < 4294967296
    omega
  rw [e]; exact h
theorem pace_NR {x y : Int32} (hx : x ≠ 0) (hy : y ≠ 0) : NR FP.Core.b32 (decide (x.toInt < 0) != decide (y.toInt < 0)) 96 159 (FP.fdiv (FP.i2f x) (FP.i2f y)).toNat :=
  fdiv_NR (NR_div FP.Core.good_b32 (lo := 96) (hi := 159) (i2f_NR hx) (i2f_NR hy) (by rw [FP.Core.exps_b32]; decide) (by rw [FP.Core.exps_b32]; decide) (by decide) (by decide) (by decide) (by decide) (by rw [FP.Core.exps_b32]; decide) (by rw [qm32, FP.Core.p_b32]; decide) (by rw [qm32, FP.Core.p_b32]; decide) (by decide))
theorem term_NR {c : Nat} {s : Bool} {p : UInt32} (h : 1 ≤ c) (h2 : c ≤ 4096) (hp : NR FP.Core.b32 s 96 159 p.toNat) : NR FP.Core.b32 s 95 171 (FP.fdiv (FP.i2f (nI c)) p).toNat := by
  have := fdiv_NR (NR_div FP.Core.good_b32 (lo := 95) (hi := 171) (cost_NR h h2) hp (by rw [FP.Core.exps_b32]; decide) (by rw [FP.Core.exps_b32]; decide) (by decide) (by decide) (by decide) (by decide) (by rw [FP.Core.exps_b32]; decide) (by rw [qm32, FP.Core.p_b32]; decide) (by rw [qm32, FP.Core.p_b32]; decide) (by decide))
  rw [Bool.false_bne] at this
  exact this
theorem fadd_NR {s : Bool} {lo hi : Nat} {x y : UInt32} (h : NR FP.Core.b32 s lo hi (FP.Core.add FP.Core.b32 x.toNat y.toNat)) : NR FP.Core.b32 s lo hi (FP.fadd x y).toNat := by
  have e : (FP.fadd x y).toNat = FP.Core.add FP.Core.b32 x.toNat y.toNat := by
    refine UInt32.toNat_ofNat_of_lt' ?_
    have := h.1
    rw [FP.Core.half_b32] at this
    show _ < 4294967296
    omega
  rw [e]; exact h
theorem tS_NR {c : Nat → Nat} {s : Bool} {p : UInt32} (hp : NR FP.Core.b32 s 96 159 p.toNat) : ∀ n, n ≤ 60 → (∀ i, i < n + 1 → 1 ≤ c i ∧ c i ≤ 4096) → NR FP.Core.b32 s 95 (171 + n) (tS c p (n + 1)).toNat
  | 0, _, h => by
    have h0 := h 0 (by decide)
    have t := term_NR h0.1 h0.2 hp
    have e : tS c p 1 = FP.fdiv (FP.i2f (nI (c 0))) p := by
      show UInt32.ofNat (FP.Core.add FP.Core.b32 0 (FP.fdiv (FP.i2f (nI (c 0))) p).toNat) = _
      rw [add_zero FP.Core.good_b32 t (by rw [FP.Core.exps_b32]; decide) (by decide)]
      exact UInt32.ofNat_toNat
    rw [e]
    exact t
  | n + 1, hn, h => by
    have ih := tS_NR hp n (by omega) (fun i hi => h i (by omega))
    have h0 := h (n + 1) (by omega)
    have t := term_NR h0.1 h0.2 hp
    have := NR_add FP.Core.good_b32 ih (NR_mono t (show 171 ≤ 171 + n by omega)) (by rw [FP.Core.exps_b32]; show 171 + n < 255; omega) (by decide) (by decide) (by omega)
    rw [tS_s]
    exact fadd_NR this
theorem NR_ok {s : Bool} {lo hi : Nat} {x : UInt32} (h : NR FP.Core.b32 s lo hi x.toNat) (hh : hi ≤ 254) : x.toNat % 2 ^ 31 ≤ 2139095040 := by
  have h3 := h.2.2.1
  rw [FP.Core.tails_b32] at h3
  unfold FP.Core.mag at h3
  rw [FP.Core.half_b32] at h3
  have : hi * 8388608 ≤ 254 * 8388608 := Nat.mul_le_mul_right _ hh
  omega
