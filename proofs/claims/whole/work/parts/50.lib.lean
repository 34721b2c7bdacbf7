/-! pure library: loops, numbers, tests -/
theorem lp_inv {S E : Type} {b : S → Option (S ⊕ E)} (P : S → Prop) (μ : S → Nat) (Q : E → Prop)
    (h : ∀ s, P s → (∃ s', b s = some (.inl s') ∧ P s' ∧ μ s' < μ s) ∨ (∃ e, b s = some (.inr e) ∧ Q e)) : ∀ (N : Nat) (s : S), P s → μ s < N → ∃ e, lp b N s = some e ∧ Q e := by
  intro N
  induction N with
  | zero => intro s _ hm; omega
  | succ n ih =>
    intro s hs hm
    rcases h s hs with ⟨s', h1, h2, h3⟩ | ⟨e, h1, h2⟩
    · obtain ⟨e, h4, h5⟩ := ih s' h2 (by omega)
      refine ⟨e, ?_, h5⟩
      unfold lp
      rw [h1]
      exact h4
    · refine ⟨e, ?_, h2⟩
      unfold lp
      rw [h1]
/-- a loop that counts: its states are told -/
theorem lp_seq {S E : Type} {b : S → Option (S ⊕ E)} (st : Nat → S) (e : E) (n : Nat) (hs : ∀ i, i < n → b (st i) = some (.inl (st (i + 1)))) (he : b (st n) = some (.inr e)) : ∀ (k i N : Nat), i + k = n → k < N → lp b N (st i) = some e
  | 0, i, 0, _, hN => absurd hN (by omega)
  | 0, i, N + 1, hi, _ => by
    have : i = n := by omega
    subst this
    unfold lp
    rw [he]
  | k + 1, i, 0, _, hN => absurd hN (by omega)
  | k + 1, i, N + 1, hi, hN => by
    unfold lp
    rw [hs i (by omega)]
    exact lp_seq st e n hs he k (i + 1) N (by omega) (by omega)
theorem ga_ok {α : Type} {n m : Nat} {X : Option α} (h : n < m) (hm : m < 2 ^ 31) : ga (nI n) m X = X := by
  unfold ga
  have e1 : (nI n).toInt = (n : Int) := nI_toInt (by omega)
  rw [if_pos (by rw [e1]; omega)]
theorem ga_in {α : Type} {x : Int32} {m : Nat} {X : Option α} (h : 0 ≤ x.toInt ∧ x.toInt < m) : ga x m X = X := if_pos h
theorem gb_0 {α : Type} {X : Option α} : gb 0 X = X := if_pos (Or.inl rfl)
theorem gb_1 {α : Type} {X : Option α} : gb 1 X = X := if_pos (Or.inr rfl)
def b2 (p : Prop) [Decidable p] : Int32 := if p then 1 else 0
theorem gb_b2 {α : Type} {p : Prop} [Decidable p] {X : Option α} : gb (b2 p) X = X := by unfold b2; split; exact gb_1; exact gb_0
theorem b2_0 {p : Prop} [Decidable p] : b2 p = 0 ↔ ¬ p := by
  unfold b2
  split
  · rename_i h; exact ⟨fun e => absurd e (by decide), fun e => absurd h e⟩
  · rename_i h; exact ⟨fun _ => h, fun _ => rfl⟩
theorem i32_lt {x y : Int32} : x < y ↔ x.toInt < y.toInt := Int32.lt_iff_toInt_lt
theorem i32_le {x y : Int32} : x ≤ y ↔ x.toInt ≤ y.toInt := Int32.le_iff_toInt_le
theorem i32_eq {x y : Int32} : x = y ↔ x.toInt = y.toInt := Int32.toInt_inj.symm
theorem cin_nI {x : Int32} {n : Nat} (h : 0 ≤ x.toInt ∧ x.toInt < n) (hn : n ≤ 2 ^ 31) : ∃ j : Nat, j < n ∧ x = nI j := by
  refine ⟨x.toInt.toNat, by omega, ?_⟩
  apply i32_eq.mpr
  rw [nI_toInt (by omega)]
  omega
theorem nn_nI {x : Int32} (h : 0 ≤ x.toInt) : ∃ j : Nat, j < 2 ^ 31 ∧ x = nI j := cin_nI ⟨h, by have := x.toInt_lt; omega⟩ (Nat.le_refl _)
theorem tI0 : (0 : Int32).toInt = 0 := rfl
theorem f9_isCorner (x : Int32) : f_X9_isCorner x = some (b2 (0 ≤ x.toInt ∧ x.toInt < 6)) := by
  unfold f_X9_isCorner
  have e : (if x < 0 then (0 : Int32) else (if (6 : Int32) ≤ x then (0 : Int32) else (1 : Int32))) = b2 (0 ≤ x.toInt ∧ x.toInt < 6) := by
    unfold b2
    simp only [i32_lt, i32_le, tI0, show (6 : Int32).toInt = 6 from rfl]
    split
    · rw [if_neg (by omega)]
    · split
      · rw [if_neg (by omega)]
      · rw [if_pos (by omega)]
  rw [e, gb_b2]
theorem i64_lt {x y : Int64} : x < y ↔ x.toInt < y.toInt := Int64.lt_iff_toInt_lt
theorem f10_in (x y z : Int64) : f_X10_in x y z = some (b2 (y.toInt ≤ x.toInt ∧ x.toInt ≤ z.toInt)) := by
  unfold f_X10_in
  have e : (if (lg_cmp x y) < 0 then (0 : Int32) else (if 0 < (lg_cmp x z) then (0 : Int32) else (1 : Int32))) = b2 (y.toInt ≤ x.toInt ∧ x.toInt ≤ z.toInt) := by
    unfold b2
    have c1 : lg_cmp x y < 0 ↔ x.toInt < y.toInt := by
      unfold lg_cmp
      rcases Int.lt_trichotomy x.toInt y.toInt with h | h | h
      · have h2 : ¬ y < x := fun w => by have := i64_lt.mp w; omega
        have h4 : ¬ x = y := fun z => by subst z; omega
        rw [if_neg h2, if_neg h4]
        exact ⟨fun _ => h, fun _ => by decide⟩
      · have := Int64.toInt_inj.mp h; subst this; simp
      · have h2 : ¬ x < y := fun z => by have := i64_lt.mp z; omega
        have h3 : y < x := i64_lt.mpr h
        have h4 : ¬ x = y := fun z => by subst z; omega
        simp [h2, h3, h4]; omega
    have c2 : 0 < lg_cmp x z ↔ z.toInt < x.toInt := by
      unfold lg_cmp
      rcases Int.lt_trichotomy x.toInt z.toInt with h | h | h
      · have h2 : ¬ z < x := fun w => by have := i64_lt.mp w; omega
        have h4 : ¬ x = z := fun w => by subst w; omega
        rw [if_neg h2, if_neg h4]
        exact ⟨fun w => absurd w (by decide), fun w => by omega⟩
      · have := Int64.toInt_inj.mp h; subst this; simp
      · have h2 : ¬ x < z := fun w => by have := i64_lt.mp w; omega
        have h3 : z < x := i64_lt.mpr h
        have h4 : ¬ x = z := fun w => by subst w; omega
        simp [h2, h3, h4, h]
    by_cases g1 : lg_cmp x y < 0
    · rw [if_pos g1, if_neg (by have := c1.mp g1; omega)]
    · rw [if_neg g1]
      have g2 : ¬ x.toInt < y.toInt := fun z => g1 (c1.mpr z)
      by_cases g3 : 0 < lg_cmp x z
      · rw [if_pos g3, if_neg (by have := c2.mp g3; omega)]
      · rw [if_neg g3]
        have g4 : ¬ z.toInt < x.toInt := fun w => g3 (c2.mpr w)
        rw [if_pos (by omega)]
  rw [e, gb_b2]
theorem t64 (x : Int32) : (Int32.toInt64 x).toInt = x.toInt := Int32.toInt_toInt64 x
theorem f10_isCorner (x : Int32) : f_X10_isCorner x = some (b2 (0 ≤ x.toInt ∧ x.toInt < 6)) := by
  unfold f_X10_isCorner
  rw [f10_in, Option.bind_some, gb_b2, t64]
  congr 1
  unfold b2
  rw [show (0 : Int64).toInt = 0 from rfl, show (5 : Int64).toInt = 5 from rfl]
  split
  · rw [if_pos (by omega)]
  · rw [if_neg (by omega)]
theorem f7_has (x : Int32) {n : Nat} (hn : n < 2 ^ 31) : f_X7_has x (nI n) = some (b2 (0 ≤ x.toInt ∧ x.toInt < n)) := by
  unfold f_X7_has
  have e : (if x < 0 then (0 : Int32) else (if (nI n) ≤ x then (0 : Int32) else (1 : Int32))) = b2 (0 ≤ x.toInt ∧ x.toInt < n) := by
    unfold b2
    simp only [i32_lt, i32_le, tI0, nI_toInt hn]
    split
    · rw [if_neg (by omega)]
    · split
      · rw [if_neg (by omega)]
      · rw [if_pos (by omega)]
  rw [e, gb_b2]
theorem f10_isStreet (x : Int32) {w : Nat → Int32} {n : Nat} (hn : n ≤ 8) (hw : w 49 = nI n) : f_X10_isStreet x w = some (b2 (0 ≤ x.toInt ∧ x.toInt < n)) := by
  unfold f_X10_isStreet
  rw [ga_in (by decide), f10_in, Option.bind_some, gb_b2, t64, t64]
  congr 1
  have e1 : (Int32.toNatClampNeg (49 : Int32)) = 49 := rfl
  rw [e1, hw]
  have e2 : (nI n - 1).toInt = (n : Int) - 1 := pk_sub_toInt (a := n) (b := 1) (by omega) (by decide)
  unfold b2
  rw [e2, show (0 : Int64).toInt = 0 from rfl]
  split
  · rw [if_pos (by omega)]
  · rw [if_neg (by omega)]
theorem f9_refuse {k : Nat} (hk : 1 ≤ k) (hk6 : k ≤ 6) {x : Int32} (hx : x = -nI k) (r : Nat → Int32) : f_X9_refuse x r = some (x, upd r k (r k + 1)) := by
  have hm : -x = nI k := by rw [hx]; exact Int32.neg_neg
  have hc : (nI k).toNatClampNeg = k := nI_clamp (by omega)
  unfold f_X9_refuse
  rw [hm, if_neg (by rw [i32_le, nI_toInt (by omega), tI0]; omega), if_neg (by rw [i32_le, nI_toInt (by omega), show (7 : Int32).toInt = 7 from rfl]; omega), ga_ok (by omega) (by decide), ga_ok (by omega) (by decide), hc]
theorem f10_refused {k : Nat} (hk : 1 ≤ k) (hk6 : k ≤ 6) {x : Int32} (hx : x = -nI k) (r : Nat → Int32) : f_X10_refused x r = some (x, upd r k (r k + 1)) := by
  have hm : -x = nI k := by rw [hx]; exact Int32.neg_neg
  have hc : (nI k).toNatClampNeg = k := nI_clamp (by omega)
  unfold f_X10_refused
  rw [hm, ga_ok (by omega) (by decide), ga_ok (by omega) (by decide), hc]
theorem rf9_1 (r : Nat → Int32) : f_X9_refuse (-1) r = some (-1, upd r 1 (r 1 + 1)) := f9_refuse (k := 1) (by decide) (by decide) rfl r
theorem rf10_1 (r : Nat → Int32) : f_X10_refused (-1) r = some (-1, upd r 1 (r 1 + 1)) := f10_refused (k := 1) (by decide) (by decide) rfl r
theorem rf9_2 (r : Nat → Int32) : f_X9_refuse (-2) r = some (-2, upd r 2 (r 2 + 1)) := f9_refuse (k := 2) (by decide) (by decide) rfl r
theorem rf10_2 (r : Nat → Int32) : f_X10_refused (-2) r = some (-2, upd r 2 (r 2 + 1)) := f10_refused (k := 2) (by decide) (by decide) rfl r
theorem rf9_3 (r : Nat → Int32) : f_X9_refuse (-3) r = some (-3, upd r 3 (r 3 + 1)) := f9_refuse (k := 3) (by decide) (by decide) rfl r
theorem rf10_3 (r : Nat → Int32) : f_X10_refused (-3) r = some (-3, upd r 3 (r 3 + 1)) := f10_refused (k := 3) (by decide) (by decide) rfl r
theorem rf9_4 (r : Nat → Int32) : f_X9_refuse (-4) r = some (-4, upd r 4 (r 4 + 1)) := f9_refuse (k := 4) (by decide) (by decide) rfl r
theorem rf10_4 (r : Nat → Int32) : f_X10_refused (-4) r = some (-4, upd r 4 (r 4 + 1)) := f10_refused (k := 4) (by decide) (by decide) rfl r
theorem rf9_6 (r : Nat → Int32) : f_X9_refuse (-6) r = some (-6, upd r 6 (r 6 + 1)) := f9_refuse (k := 6) (by decide) (by decide) rfl r
theorem rf10_6 (r : Nat → Int32) : f_X10_refused (-6) r = some (-6, upd r 6 (r 6 + 1)) := f10_refused (k := 6) (by decide) (by decide) rfl r
