/-! the model's table holds the least costs -/
theorem sub_test {X U : Nat} (hX : X < 256) : nI X &&& (nI U ^^^ (-1)) = 0 ↔ X &&& U = X := by
  have hle := Nat.and_le_left (n := X) (m := U ^^^ 4294967295)
  rw [show (-1 : Int32) = nI 4294967295 from by decide, xI_xor, xI_and, show (0 : Int32) = nI 0 from rfl, nI_eq (by omega) (by decide)]
  have hM : ∀ i, i < 8 → (4294967295 : Nat).testBit i = true := by decide
  constructor
  · intro h
    apply Nat.eq_of_testBit_eq
    intro i
    have g : (X &&& (U ^^^ 4294967295)).testBit i = false := by rw [h]; exact Nat.zero_testBit i
    rw [Nat.testBit_and, Nat.testBit_xor] at g
    rw [Nat.testBit_and]
    by_cases e : i < 8
    · rw [hM i e] at g
      cases hx : X.testBit i <;> cases hy : U.testBit i <;> simp_all
    · rw [tb8 hX e]; rfl
  · intro h
    apply Nat.eq_of_testBit_eq
    intro i
    have g : (X &&& U).testBit i = X.testBit i := by rw [h]
    rw [Nat.testBit_and] at g
    rw [Nat.zero_testBit, Nat.testBit_and, Nat.testBit_xor]
    by_cases e : i < 8
    · rw [hM i e]
      cases hx : X.testBit i <;> cases hy : U.testBit i <;> simp_all
    · rw [tb8 hX e]; rfl
def dwn (U i : Nat) : Int32 := if i ≤ U then nI (U - i) else -1
theorem f10_seeks {t : Nat → Nat} {w x : Nat → Int32} (hv : vT t) (h : mR t w) {U hm : Nat} (hU : U < 256) (hh : hm < 6) {N : Nat} (hN : 8000000 ≤ N) : ∃ y, f_X10_seeks N (nI U) (nI hm) x w = some (toldC (Lf y (6 * 0 + t 48)), y) ∧ ∀ Y, Y &&& U = Y → Dn t U hm y Y := by
  have h48 := hv.2.1
  obtain ⟨y, e1, q1⟩ := lp_cnt (b := fun s : Int32 × (Nat → Int32) => f_X10_seeks_b3 N s.1 s.2 (nI U) (nI hm) w) (fun i y => (dwn U i, y)) (fun i y => ∀ Y, Y &&& U = Y → U + 1 ≤ Y + i → Dn t U hm y Y) (fun y => ∀ Y, Y &&& U = Y → Dn t U hm y Y) (U + 1) (fun i y hi hp => by
    show ∃ y', f_X10_seeks_b3 N (dwn U i) y (nI U) (nI hm) w = some (Sum.inl (dwn U (i + 1), y')) ∧ _
    have d1 : dwn U i = nI (U - i) := if_pos (by omega)
    have d2 : nI (U - i) + (-1) = dwn U (i + 1) := by
      unfold dwn
      by_cases e : i + 1 ≤ U
      · rw [if_pos e, show U - i = (U - (i + 1)) + 1 by omega, pk_m1]
      · rw [if_neg e, show U - i = 0 by omega]; rfl
    unfold f_X10_seeks_b3
    rw [d1, if_neg (nI_pos (by omega)), d2]
    by_cases e : (U - i) &&& U = U - i
    · obtain ⟨y', f1, f2, f3⟩ := f10_fillsSet (x := y) (X := U - i) hv h hU e hh (fun Y hY hlt c hc => (hp Y hY (by omega)).1 c hc) hN
      rw [if_pos ((sub_test (by omega)).mpr e), f1, Option.bind_some]
      refine ⟨y', rfl, fun Y hY hle => ?_⟩
      by_cases q : Y = U - i
      · rw [q]; exact f3
      · exact Dn_keep hv hU hY (show U - i < Y by omega) f2 hh (hp Y hY (by omega))
    · rw [if_neg (fun z => e ((sub_test (by omega)).mp z))]
      refine ⟨y, rfl, fun Y hY hle => ?_⟩
      by_cases q : Y = U - i
      · exact absurd (q ▸ hY) e
      · exact hp Y hY (by omega)) (fun y hp => by
    refine ⟨y, ?_, fun Y hY => hp Y hY (by omega)⟩
    show f_X10_seeks_b3 N (dwn U (U + 1)) y (nI U) (nI hm) w = _
    unfold f_X10_seeks_b3
    rw [show dwn U (U + 1) = -1 from if_neg (by omega), if_pos (by decide)]) (U + 1) 0 N x (by omega) (by omega) (fun Y hY hle => by
      have := Nat.and_le_right (n := Y) (m := U)
      omega)
  refine ⟨y, ?_, q1⟩
  have e1' : lp (fun s_3 => f_X10_seeks_b3 N s_3.1 s_3.2 (nI U) (nI hm) w) N (nI U, x) = some y := by
    have : dwn U 0 = nI U := if_pos (by omega)
    rw [← this]; exact e1
  have hk := (q1 0 (Nat.zero_and U)).1 (t 48) h48
  unfold f_X10_seeks
  rw [e1', Option.bind_some, ga_in (by decide), show Int32.toNatClampNeg (48 : Int32) = 48 from rfl, h.2.1, ga_ok (by omega) (by decide), nI_clamp (by omega)]
  have hk2 : y (t 48) = nI (Lf y (6 * 0 + t 48)) := by have := hk.2; rw [show 6 * 0 + t 48 = t 48 by omega] at this ⊢; exact this
  rw [hk2]
  unfold toldC
  by_cases g : Lf y (6 * 0 + t 48) < 1000000
  · rw [if_pos (show nI (Lf y (6 * 0 + t 48)) < (1000000 : Int32) from nI_lt (b := 1000000) g (by decide)), if_pos g]
  · rw [if_neg (show ¬ nI (Lf y (6 * 0 + t 48)) < (1000000 : Int32) from nI_nlt (b := 1000000) (by omega) (by have := hk.1; omega)), if_neg g]
theorem xor_sub {U S : Nat} (hS : S &&& U = S) : (U ^^^ S) &&& U = U ^^^ S := by
  apply Nat.eq_of_testBit_eq
  intro i
  have h2 : (S &&& U).testBit i = S.testBit i := by rw [hS]
  rw [Nat.testBit_and] at h2
  rw [Nat.testBit_and, Nat.testBit_xor]
  cases hx : S.testBit i <;> cases hy : U.testBit i <;> simp_all
theorem upX_clr {U S s : Nat} (hU : U < 256) (hS : S &&& U = S) (hs : s < 8) : upX U (U ^^^ S) s = U ^^^ clr S s := by
  obtain ⟨a, b⟩ := clr_ok (sub_lt hS hU) hs
  apply Nat.eq_of_testBit_eq
  intro i
  have h2 : (S &&& U).testBit i = S.testBit i := by rw [hS]
  rw [Nat.testBit_and] at h2
  unfold upX
  rw [Nat.testBit_or, Nat.testBit_xor, Nat.testBit_xor, Nat.testBit_and, Nat.testBit_two_pow]
  by_cases e : i < 8
  · rw [b i e]
    by_cases q : s = i
    · subst q
      cases hx : S.testBit s <;> cases hy : U.testBit s <;> simp_all
    · have q' : i ≠ s := fun z => q z.symm
      cases hx : S.testBit i <;> cases hy : U.testBit i <;> simp_all
  · rw [tb8 a e, tb8 hU e, tb8 (sub_lt hS hU) e]; rfl
/-- the table as least costs of what is still to walk -/
theorem Dn_IsV {t : Nat → Nat} (hv : vT t) {U hm : Nat} (hU : U < 256) (hh : hm < 6) {y : Nat → Int32} (hd : ∀ Y, Y &&& U = Y → Dn t U hm y Y) : IsV t hm U (fun S c => Lf y (6 * (U ^^^ S) + c)) := by
  have h8 := hv.1
  refine ⟨fun S c hS hc => ?_, ?_, fun S e hS he hc => ?_, fun S c hS hc hlt => ?_⟩
  · exact ((hd _ (xor_sub hS)).1 c hc).1
  · show Lf y (6 * (U ^^^ 0) + hm) = 0
    rw [Nat.xor_zero]
    exact (hd U (Nat.and_self U)).2.1 rfl
  · show Lf y (6 * (U ^^^ S) + sA t e) ≤ sC t e + Lf y (6 * (U ^^^ clr S (e / 2)) + sE t e)
    rw [← upX_clr hU hS (show e / 2 < 8 by omega)]
    exact (hd _ (xor_sub hS)).2.2.1 e he hc
  · have hlt' : Lf y (6 * (U ^^^ S) + c) < 1000000 := hlt
    rcases (hd _ (xor_sub hS)).2.2.2 c hc hlt' with ⟨a, b⟩ | ⟨e, f1, f2, f3, f4⟩
    · refine Or.inl ⟨?_, b⟩
      have : U ^^^ (U ^^^ S) = U ^^^ U := by rw [a]
      rw [← Nat.xor_assoc, Nat.xor_self, Nat.zero_xor] at this
      exact this
    · refine Or.inr ⟨e, f1, f2, f3, ?_⟩
      show Lf y (6 * (U ^^^ S) + c) = sC t e + Lf y (6 * (U ^^^ clr S (e / 2)) + sE t e)
      rw [← upX_clr hU hS (show e / 2 < 8 by omega)]
      have := (hd _ (xor_sub hS)).2.2.1 e f1 f2
      rw [f3] at this
      omega
