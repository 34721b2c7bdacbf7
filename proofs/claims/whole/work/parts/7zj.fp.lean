/-! floats and doubles: ranges, doubling, halving -/
/-- a number of sign s whose magnitude lies between two powers of two -/
def NR (f : FP.Core.Fmt) (s : Bool) (lo hi n : Nat) : Prop := n < 2 * FP.Core.half f ∧ lo * f.tails ≤ FP.Core.mag f n ∧ FP.Core.mag f n ≤ hi * f.tails ∧ decide (FP.Core.half f ≤ n) = s
theorem enc_lt {f : FP.Core.Fmt} (hf : FP.Core.Good f) {d : FP.Core.Datum} (h : FP.Core.fits f d) : FP.Core.encode f d < 2 * FP.Core.half f := by
  have := FP.Core.encode_lt hf d h
  unfold FP.Core.half
  rw [← Nat.mul_assoc]; exact this
/-- what is rounded has its sign -/
theorem sgn_of {f : FP.Core.Fmt} (hf : FP.Core.Good f) {s : Bool} {n A B : Nat} {e : Int} (hn : n < 2 * FP.Core.half f) (h : FP.Core.decode f n = FP.Core.roundRatio f s A B e) : decide (FP.Core.half f ≤ n) = s := by
  have h1 : FP.Core.mag f n ≤ FP.Core.infBits f := Nat.le_of_not_lt fun h1 => FP.Core.roundRatio_ne_nan f s A B e (h ▸ (FP.Core.decode_nan n).mpr h1)
  rw [← FP.Core.sgn_decode h1 hn, h, FP.Core.sgn_roundRatio]
theorem NR_int {f : FP.Core.Fmt} (hf : FP.Core.Good f) {i : Int} {j lo hi : Nat} (h0 : i ≠ 0) (hi' : i.natAbs ≤ 2 ^ j) (hl : 1 ≤ lo) (hl2 : lo ≤ f.exps - 1) (h1 : f.p - 1 + lo ≤ (-f.qmin).toNat + 1) (hh : 1 ≤ hi) (h2 : j + (-f.qmin).toNat + 1 ≤ f.p - 1 + hi) : NR f (decide (i < 0)) lo hi (FP.Core.fromInt f i) := by
  have hd : FP.Core.decode f (FP.Core.fromInt f i) = FP.Core.roundRatio f (decide (i < 0)) i.natAbs 1 0 := FP.Core.decode_enc hf (FP.Core.round_fits hf _)
  exact ⟨enc_lt hf (FP.Core.round_fits hf _), FP.Core.int_mag_ge hf h0 hl hl2 h1, FP.Core.int_mag hf hi' hh h2, sgn_of hf (enc_lt hf (FP.Core.round_fits hf _)) hd⟩
theorem NR_fin {f : FP.Core.Fmt} (hf : FP.Core.Good f) {s : Bool} {lo hi n : Nat} (h : NR f s lo hi n) (hh : hi < f.exps - 1) : ∃ c q, FP.Core.decode f n = .fin s c q ∧ FP.Core.fits f (.fin s c q) ∧ FP.Core.zmag f (.fin s c q) = FP.Core.unitsOf f (FP.Core.mag f n) := by
  have hm : FP.Core.mag f n < FP.Core.infBits f := Nat.lt_of_le_of_lt h.2.2.1 (Nat.mul_lt_mul_of_pos_right hh (FP.Core.tails_pos f))
  obtain ⟨c, q, e1, e2⟩ := FP.Core.decode_fin hm
  rw [FP.Core.fieldS_mag f h.1, h.2.2.2] at e1
  exact ⟨c, q, e1, e1 ▸ FP.Core.decode_fits hf n, e2⟩
theorem NR_div {f : FP.Core.Fmt} (hf : FP.Core.Good f) {s t : Bool} {l1 h1 l2 h2 lo hi x y : Nat} (hx : NR f s l1 h1 x) (hy : NR f t l2 h2 y) (k1 : h1 < f.exps - 1) (k2 : h2 < f.exps - 1) (a1 : 1 ≤ l1) (a2 : 1 ≤ l2) (a3 : 1 ≤ lo) (a4 : 1 ≤ hi) (a5 : lo ≤ f.exps - 1) (u : h1 + 1 + (-f.qmin).toNat + 1 ≤ hi + (f.p - 1) + l2) (v : lo + (f.p - 1) + h2 ≤ l1 + (-f.qmin).toNat + 1) (a6 : 1 ≤ h2) : NR f (s != t) lo hi (FP.Core.div f x y) := by
  obtain ⟨c, q, x1, x2, x3⟩ := NR_fin hf hx k1
  obtain ⟨d, r, y1, y2, y3⟩ := NR_fin hf hy k2
  have hq := FP.Core.qmin_neg hf
  have hyf : FP.Core.mag f y < FP.Core.infBits f := Nat.lt_of_le_of_lt hy.2.2.1 (Nat.mul_lt_mul_of_pos_right k2 (FP.Core.tails_pos f))
  have g1 : f.tails * 2 ^ (l1 - 1) ≤ FP.Core.zmag f (.fin s c q) := by
    rw [x3, ← FP.Core.unitsOf_start a1]; exact FP.Core.unitsOf_le_iff.mpr hx.2.1
  have g2 : f.tails * 2 ^ (l2 - 1) ≤ FP.Core.zmag f (.fin t d r) := by
    rw [y3, ← FP.Core.unitsOf_start a2]; exact FP.Core.unitsOf_le_iff.mpr hy.2.1
  have g3 : FP.Core.zmag f (.fin t d r) ≤ f.tails * 2 ^ (h2 - 1) := by
    rw [y3, ← FP.Core.unitsOf_start a6]; exact FP.Core.unitsOf_le_iff.mpr hy.2.2.1
  have hd0 : d ≠ 0 := by
    rintro rfl
    have z : FP.Core.zmag f (.fin t 0 r) = 0 := Nat.zero_mul _
    have := Nat.mul_pos (FP.Core.tails_pos f) (Nat.two_pow_pos (l2 - 1))
    omega
  have hd : FP.Core.decode f (FP.Core.div f x y) = FP.Core.roundRatio f (s != t) c d (q - r) := by
    unfold FP.Core.div
    rw [FP.Core.decode_enc hf (FP.Core.quotient_fits hf _ _), x1, y1]
    simp only [FP.Core.quotient, if_neg hd0]
  have hlt : FP.Core.div f x y < 2 * FP.Core.half f := enc_lt hf (FP.Core.quotient_fits hf _ _)
  have hx1 := x2.2.1
  have hy1 := y2.2.1
  refine ⟨hlt, ?_, ?_, sgn_of hf hlt hd⟩
  · refine FP.Core.mag_ge hf hd (by omega) (e0 := 2 * f.qmin - r) (by omega) (by omega) (Nat.mul_le_mul_right _ a5) ?_
    rw [FP.Core.unitsOf_start a3]
    have e1 : FP.Core.inUnits c (q - r) (2 * f.qmin - r) = FP.Core.zmag f (.fin s c q) * 2 ^ (-f.qmin).toNat := by
      show c * _ = c * _ * _
      rw [Nat.mul_assoc, ← Nat.pow_add]; congr 2; omega
    have e2 : 2 ^ (f.qmin - (2 * f.qmin - r)).toNat * d = FP.Core.zmag f (.fin t d r) := by
      show _ = d * _
      rw [Nat.mul_comm]; congr 2; omega
    rw [e1, Nat.mul_assoc, e2]
    calc f.tails * 2 ^ (lo - 1) * FP.Core.zmag f (.fin t d r) ≤ f.tails * 2 ^ (lo - 1) * (f.tails * 2 ^ (h2 - 1)) := Nat.mul_le_mul_left _ g3
      _ = f.tails * 2 ^ (lo - 1 + (f.p - 1) + (h2 - 1)) := by
        rw [Nat.pow_add, Nat.pow_add, show 2 ^ (f.p - 1) = f.tails from rfl]; ac_rfl
      _ ≤ f.tails * 2 ^ (l1 - 1 + (-f.qmin).toNat) := Nat.mul_le_mul_left _ (Nat.pow_le_pow_right (by decide) (by omega))
      _ = f.tails * 2 ^ (l1 - 1) * 2 ^ (-f.qmin).toNat := by rw [Nat.pow_add, Nat.mul_assoc]
      _ ≤ FP.Core.zmag f (.fin s c q) * 2 ^ (-f.qmin).toNat := Nat.mul_le_mul_right _ g1
  · exact FP.Core.div_mag hf (Ka := h1 + 1) (L := l2) (Nat.lt_of_le_of_lt hx.2.2.1 (Nat.mul_lt_mul_of_pos_right (Nat.lt_succ_self _) (FP.Core.tails_pos f))) hy.2.1 hyf (by omega) a2 a4 u
theorem NR_add {f : FP.Core.Fmt} (hf : FP.Core.Good f) {s : Bool} {l1 l2 h x y : Nat} (hx : NR f s l1 h x) (hy : NR f s l2 h y) (k : h < f.exps - 1) (a1 : 1 ≤ l1) (a2 : 1 ≤ l2) (a3 : 1 ≤ h) : NR f s l1 (h + 1) (FP.Core.add f x y) := by
  obtain ⟨c, q, x1, x2, x3⟩ := NR_fin hf hx k
  obtain ⟨d, r, y1, y2, y3⟩ := NR_fin hf hy k
  have g1 : f.tails * 2 ^ (l1 - 1) ≤ FP.Core.zmag f (.fin s c q) := by
    rw [x3, ← FP.Core.unitsOf_start a1]; exact FP.Core.unitsOf_le_iff.mpr hx.2.1
  have g1' : FP.Core.zmag f (.fin s c q) ≤ f.tails * 2 ^ (h - 1) := by
    rw [x3, ← FP.Core.unitsOf_start a3]; exact FP.Core.unitsOf_le_iff.mpr hx.2.2.1
  have g2 : f.tails * 2 ^ (l2 - 1) ≤ FP.Core.zmag f (.fin s d r) := by
    rw [y3, ← FP.Core.unitsOf_start a2]; exact FP.Core.unitsOf_le_iff.mpr hy.2.1
  have g2' : FP.Core.zmag f (.fin s d r) ≤ f.tails * 2 ^ (h - 1) := by
    rw [y3, ← FP.Core.unitsOf_start a3]; exact FP.Core.unitsOf_le_iff.mpr hy.2.2.1
  have p1 := Nat.mul_pos (FP.Core.tails_pos f) (Nat.two_pow_pos (l1 - 1))
  obtain ⟨sg, v, e, u1, u2, u3⟩ := FP.Core.sum_units x2 y2
  have u4 : sg = s ∧ FP.Core.inUnits v e f.qmin = FP.Core.zmag f (.fin s c q) + FP.Core.zmag f (.fin s d r) := by
    unfold FP.Core.zval at u3
    have z1 : FP.Core.sgn (.fin s c q) = s := rfl
    have z2 : FP.Core.sgn (.fin s d r) = s := rfl
    rw [z1, z2] at u3
    unfold FP.Core.signed at u3
    cases s <;> cases sg
    · simp at u3; exact ⟨rfl, by omega⟩
    · simp at u3; omega
    · simp at u3; omega
    · simp at u3; exact ⟨rfl, by omega⟩
  obtain ⟨rfl, u5⟩ := u4
  have hd : FP.Core.decode f (FP.Core.add f x y) = FP.Core.roundRatio f sg v 1 e := by
    unfold FP.Core.add
    rw [FP.Core.decode_enc hf (FP.Core.round_fits hf _), x1, y1, u1]; rfl
  have hlt : FP.Core.add f x y < 2 * FP.Core.half f := enc_lt hf (FP.Core.round_fits hf _)
  refine ⟨hlt, ?_, ?_, sgn_of hf hlt hd⟩
  · have kl : l1 ≤ f.exps - 1 := by
      have := Nat.le_of_mul_le_mul_right (Nat.le_trans hx.2.1 hx.2.2.1) (FP.Core.tails_pos f)
      omega
    refine FP.Core.mag_ge hf hd (by decide) (e0 := f.qmin) (by omega) u2 (Nat.mul_le_mul_right _ kl) ?_
    rw [FP.Core.unitsOf_start a1, Int.sub_self, Int.toNat_zero, Nat.pow_zero, Nat.mul_one, Nat.mul_one, u5]
    omega
  · refine FP.Core.mag_le hf hd (by decide) (e0 := f.qmin) (by omega) u2 ?_
    rw [FP.Core.unitsOf_start (by omega), Int.sub_self, Int.toNat_zero, Nat.pow_zero, Nat.mul_one, Nat.mul_one, u5, show h + 1 - 1 = (h - 1) + 1 by omega, Nat.pow_succ, ← Nat.mul_assoc]
    omega
/-- nought and a number -/
theorem add_zero {f : FP.Core.Fmt} (hf : FP.Core.Good f) {s : Bool} {lo hi y : Nat} (hy : NR f s lo hi y) (k : hi < f.exps - 1) (a : 1 ≤ lo) : FP.Core.add f 0 y = y := by
  obtain ⟨d, r, y1, y2, y3⟩ := NR_fin hf hy k
  have z0 : FP.Core.decode f 0 = .fin false 0 f.qmin := by
    have hm : FP.Core.mag f 0 = 0 := Nat.zero_mod _
    have hlt : FP.Core.mag f 0 < FP.Core.infBits f := by
      rw [hm]
      exact Nat.mul_pos (by have := FP.Core.emax_exps hf; have := FP.Core.emax_pos hf; omega) (FP.Core.tails_pos f)
    unfold FP.Core.decode
    have e1 : FP.Core.fieldE f 0 = 0 := by unfold FP.Core.fieldE; rw [Nat.zero_div, Nat.zero_mod]
    have e2 : FP.Core.fieldT f 0 = 0 := by unfold FP.Core.fieldT; rw [Nat.zero_mod]
    have e3 : FP.Core.fieldS f 0 = false := by unfold FP.Core.fieldS; rw [Nat.zero_div, Nat.zero_div]; rfl
    rw [e1, e2, e3, if_neg (by have := FP.Core.emax_exps hf; have := FP.Core.emax_pos hf; omega), if_pos rfl]
  have fz : FP.Core.fits f (.fin false 0 f.qmin) := z0 ▸ FP.Core.decode_fits hf 0
  obtain ⟨sg, v, e, u1, u2, u3⟩ := FP.Core.sum_units fz y2
  have g2 : f.tails * 2 ^ (lo - 1) ≤ FP.Core.zmag f (.fin s d r) := by
    rw [y3, ← FP.Core.unitsOf_start a]; exact FP.Core.unitsOf_le_iff.mpr hy.2.1
  have p1 := Nat.mul_pos (FP.Core.tails_pos f) (Nat.two_pow_pos (lo - 1))
  have zz : FP.Core.zval f (.fin false 0 f.qmin) = 0 := by
    unfold FP.Core.zval FP.Core.zmag FP.Core.signed FP.Core.inUnits
    simp
  rw [zz, Int.zero_add] at u3
  have u4 : sg = s ∧ FP.Core.inUnits v e f.qmin = FP.Core.zmag f (.fin s d r) := by
    unfold FP.Core.zval at u3
    have z2 : FP.Core.sgn (.fin s d r) = s := rfl
    rw [z2] at u3
    unfold FP.Core.signed at u3
    cases s <;> cases sg
    · simp at u3; exact ⟨rfl, by omega⟩
    · simp at u3; omega
    · simp at u3; omega
    · simp at u3; exact ⟨rfl, by omega⟩
  obtain ⟨rfl, u5⟩ := u4
  have rd : FP.Core.roundRatio f sg v 1 e = .fin sg d r := by
    have hr := y2.2.1
    refine FP.Core.roundRatio_exact hf (by decide) y2 ?_
    have u5' : v * 2 ^ (e - f.qmin).toNat = d * 2 ^ (r - f.qmin).toNat := u5
    rw [Nat.mul_one]
    have c1 : v * 2 ^ (e - r).toNat * 2 ^ ((min e r) - f.qmin).toNat = d * 2 ^ (r - e).toNat * 2 ^ ((min e r) - f.qmin).toNat := by
      rw [Nat.mul_assoc, Nat.mul_assoc, ← Nat.pow_add, ← Nat.pow_add, show (e - r).toNat + (min e r - f.qmin).toNat = (e - f.qmin).toNat by omega, show (r - e).toNat + (min e r - f.qmin).toNat = (r - f.qmin).toNat by omega]
      exact u5'
    exact Nat.eq_of_mul_eq_mul_right (Nat.two_pow_pos _) c1
  have hd : FP.Core.add f 0 y = FP.Core.encode f (.fin sg d r) := by
    unfold FP.Core.add
    rw [z0, y1, u1]
    show FP.Core.encode f (FP.Core.roundRatio f sg v 1 e) = _
    rw [rd]
  rw [hd, ← y1]
  refine FP.Core.encode_decode hf y ?_ (by rw [y1]; intro w; cases w)
  have := hy.1
  unfold FP.Core.half at this
  rw [← Nat.mul_assoc] at this
  exact this
/-- a number by its fields -/
theorem dec_as {f : FP.Core.Fmt} (hf : FP.Core.Good f) {s : Bool} {e T : Nat} (he : 1 ≤ e) (he2 : e < f.exps - 1) (hT : T < f.tails) : FP.Core.decode f (FP.Core.assemble f s e T) = .fin s (f.tails + T) (f.qmin + ((e : Int) - 1)) := by
  have he3 : e < f.exps := by omega
  unfold FP.Core.decode
  rw [FP.Core.fieldE_assemble f s e T he3 hT, FP.Core.fieldT_assemble f s e T hT, FP.Core.fieldS_assemble f s e T he3 hT, if_neg (by omega), if_neg (by omega)]
theorem enc_as {f : FP.Core.Fmt} (hf : FP.Core.Good f) {s : Bool} {e T : Nat} (he : 1 ≤ e) (he2 : e < f.exps - 1) (hT : T < f.tails) : FP.Core.encode f (.fin s (f.tails + T) (f.qmin + ((e : Int) - 1))) = FP.Core.assemble f s e T := by
  show (if f.tails + T < f.tails then _ else _) = _
  rw [if_neg (by omega)]
  congr 1
  · omega
  · omega
theorem fit_as {f : FP.Core.Fmt} (hf : FP.Core.Good f) {s : Bool} {e T : Nat} (he : 1 ≤ e) (he2 : e < f.exps - 1) (hT : T < f.tails) : FP.Core.fits f (.fin s (f.tails + T) (f.qmin + ((e : Int) - 1))) := dec_as hf (s := s) he he2 hT ▸ FP.Core.decode_fits hf _
def twoB (f : FP.Core.Fmt) : Nat := FP.Core.assemble f false (f.emax + 1) 0
theorem dec_two {f : FP.Core.Fmt} (hf : FP.Core.Good f) : FP.Core.decode f (twoB f) = .fin false f.tails (f.qmin + f.emax) := by
  have h1 := FP.Core.emax_exps hf
  have h2 := FP.Core.emax_pos hf
  have := dec_as hf (s := false) (e := f.emax + 1) (T := 0) (by omega) (by omega) (FP.Core.tails_pos f)
  unfold twoB
  rw [this]
  congr 1
  omega
theorem qmin_two {f : FP.Core.Fmt} (hf : FP.Core.Good f) : f.qmin + f.emax = 2 - (f.p : Int) := by unfold FP.Core.Fmt.qmin; omega
theorem dbl {f : FP.Core.Fmt} (hf : FP.Core.Good f) {s : Bool} {e T : Nat} (he : 1 ≤ e) (he2 : e + 1 < f.exps - 1) (hT : T < f.tails) : FP.Core.mul f (FP.Core.assemble f s e T) (twoB f) = FP.Core.assemble f s (e + 1) T := by
  have hp := hf.2
  unfold FP.Core.mul
  rw [dec_as hf he (by omega) hT, dec_two hf]
  show FP.Core.encode f (FP.Core.roundRatio f (s != false) ((f.tails + T) * f.tails) 1 (f.qmin + ((e : Int) - 1) + (f.qmin + f.emax))) = _
  rw [Bool.bne_false]
  have := FP.Core.roundRatio_exact hf (A := (f.tails + T) * f.tails) (B := 1) (e := f.qmin + ((e : Int) - 1) + (f.qmin + f.emax)) (by decide) (fit_as hf (s := s) (e := e + 1) (T := T) (by omega) (by omega) hT) (by
    rw [qmin_two hf, Nat.mul_one, show (f.qmin + ((e : Int) - 1) + (2 - (f.p : Int)) - (f.qmin + (((e + 1 : Nat) : Int) - 1))).toNat = 0 by omega, show (f.qmin + (((e + 1 : Nat) : Int) - 1) - (f.qmin + ((e : Int) - 1) + (2 - (f.p : Int)))).toNat = f.p - 1 by omega, Nat.pow_zero, Nat.mul_one]; rfl)
  rw [this, enc_as hf (by omega) (by omega) hT]
theorem hlv {f : FP.Core.Fmt} (hf : FP.Core.Good f) {s : Bool} {e T : Nat} (he : 2 ≤ e) (he2 : e < f.exps - 1) (hT : T < f.tails) : FP.Core.div f (FP.Core.assemble f s e T) (twoB f) = FP.Core.assemble f s (e - 1) T := by
  have hp := hf.2
  have ht := FP.Core.tails_pos f
  unfold FP.Core.div
  rw [dec_as hf (by omega) he2 hT, dec_two hf]
  show FP.Core.encode f (if f.tails = 0 then _ else FP.Core.roundRatio f (s != false) (f.tails + T) f.tails (f.qmin + ((e : Int) - 1) - (f.qmin + f.emax))) = _
  rw [if_neg (by omega), Bool.bne_false]
  have := FP.Core.roundRatio_exact hf (A := f.tails + T) (B := f.tails) (e := f.qmin + ((e : Int) - 1) - (f.qmin + f.emax)) ht (fit_as hf (s := s) (e := e - 1) (T := T) (by omega) (by omega) hT) (by
    rw [qmin_two hf, show (f.qmin + ((e : Int) - 1) - (2 - (f.p : Int)) - (f.qmin + (((e - 1 : Nat) : Int) - 1))).toNat = f.p - 1 by omega, show (f.qmin + (((e - 1 : Nat) : Int) - 1) - (f.qmin + ((e : Int) - 1) - (2 - (f.p : Int)))).toNat = 0 by omega, Nat.pow_zero, Nat.mul_one]; rfl)
  rw [this, enc_as hf (by omega) (by omega) hT]
