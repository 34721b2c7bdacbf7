/-! the model's table -/
def Lf (x : Nat → Int32) (i : Nat) : Nat := (x i).toNatClampNeg
def okc (x : Nat → Int32) (i : Nat) : Prop := Lf x i ≤ 1000000 ∧ x i = nI (Lf x i)
def upX (U X s : Nat) : Nat := X ||| (U &&& 2 ^ s)
def cls (t : Nat → Nat) (U : Nat) (x : Nat → Int32) (X e : Nat) : Prop := sC t e < 1000000 → Lf x (6 * X + sA t e) ≤ sC t e + Lf x (6 * upX U X (e / 2) + sE t e)
def rlz (t : Nat → Nat) (U h : Nat) (x : Nat → Int32) (X c : Nat) : Prop := Lf x (6 * X + c) < 1000000 → (X = U ∧ c = h) ∨ ∃ e, e < 2 * t 49 ∧ sC t e < 1000000 ∧ sA t e = c ∧ sC t e + Lf x (6 * upX U X (e / 2) + sE t e) ≤ Lf x (6 * X + c)
theorem Lf_s {x : Nat → Int32} {i v : Nat} (hv : v < 2 ^ 31) : Lf (upd x i (nI v)) i = v := by unfold Lf; rw [pk_us, nI_clamp hv]
theorem Lf_n {x : Nat → Int32} {i j v : Nat} (h : j ≠ i) : Lf (upd x i (nI v)) j = Lf x j := by unfold Lf; rw [pk_un h]
theorem upX_ok {U X s : Nat} (hU : U < 256) (hX : X &&& U = X) : upX U X s &&& U = upX U X s ∧ X ≤ upX U X s ∧ upX U X s < 256 := by
  have h1 : upX U X s &&& U = upX U X s := by
    apply Nat.eq_of_testBit_eq
    intro i
    have h2 : (X &&& U).testBit i = X.testBit i := by rw [hX]
    unfold upX
    rw [Nat.testBit_and] at h2
    rw [Nat.testBit_and, Nat.testBit_or, Nat.testBit_and]
    cases hx : X.testBit i <;> cases hy : U.testBit i <;> cases hz : (2 ^ s).testBit i <;> simp_all
  exact ⟨h1, Nat.left_le_or, sub_lt h1 hU⟩
theorem sAE {t : Nat → Nat} (hv : vT t) {e : Nat} (he : e < 2 * t 49) : sA t e ≠ sE t e := by
  have := hv.2.2.1 (e / 2) (by omega)
  unfold sA sE
  split <;> omega
theorem f10_leaves {t : Nat → Nat} {w x : Nat → Int32} (hv : vT t) (h : mR t w) {U X e : Nat} (hU : U < 256) (hX : X &&& U = X) (he : e < 2 * t 49) (hc : sC t e < 1000000) (hk : okc x (6 * upX U X (e / 2) + sE t e)) : f_X10_leaves (nI U) (nI X) (nI e) x w = some (nI (sC t e + Lf x (6 * upX U X (e / 2) + sE t e))) := by
  have h8 := hv.1
  have hd : nI e / (2 : Int32) = nI (e / 2) := pk_div (d := 2) (by omega) (by decide) (by decide)
  have hle := sE_lt hv he
  have hu := (upX_ok (s := e / 2) hU hX).2.2
  have eu : nI X ||| (nI U &&& nI (2 ^ (e / 2))) = nI (upX U X (e / 2)) := by rw [xI_and, xI_or]; rfl
  have tl : toldC (sC t e) = nI (sC t e) := if_pos hc
  unfold f_X10_leaves
  rw [f10_cost hv h he, Option.bind_some, f10_ends hv h he, Option.bind_some, hd, sh1 (by omega), eu, six', ga_ok (by omega) (by decide), nI_clamp (by omega), hk.2, tl, nI_add]
def PE (t : Nat → Nat) (U h X e : Nat) (x0 : Nat → Int32) (s : Int32 × (Nat → Int32)) : Prop :=
  (∀ i, ¬ (6 * X ≤ i ∧ i < 6 * X + 6) → s.2 i = x0 i) ∧ (∀ c, c < 6 → okc s.2 (6 * X + c) ∧ Lf s.2 (6 * X + c) ≤ Lf x0 (6 * X + c)) ∧ (∀ c, c < 6 → rlz t U h s.2 X c) ∧ (X = U → Lf s.2 (6 * X + h) = 0) ∧ ((s.1 = 0 ∧ s.2 = x0 ∧ ∀ f, f < e → cls t U s.2 X f) ∨ (s.1 = 1 ∧ ∃ c, c < 6 ∧ Lf s.2 (6 * X + c) < Lf x0 (6 * X + c)))
theorem f10_pass {t : Nat → Nat} {w x0 : Nat → Int32} (hv : vT t) (h : mR t w) {U X hm : Nat} (hU : U < 256) (hX : X &&& U = X) (hh : hm < 6) (hok : ∀ Y, Y &&& U = Y → X ≤ Y → ∀ c, c < 6 → okc x0 (6 * Y + c)) (hb : X = U → Lf x0 (6 * X + hm) = 0) (hr : ∀ c, c < 6 → rlz t U hm x0 X c) {N : Nat} (hN : 100 ≤ N) : ∃ o, lp (fun s_60 => f_X10_fillsSet_b60 w s_60.2.1 s_60.1 s_60.2.2 (nI U) (nI X)) N ((0 : Int32), (0 : Int32), x0) = some o ∧ PE t U hm X (2 * t 49) x0 o := by
  have h8 := hv.1
  have hX8 := sub_lt hX hU
  have e49 : Int32.toNatClampNeg (49 : Int32) = 49 := rfl
  have m2 : (2 : Int32) * nI (t 49) = nI (2 * t 49) := pk_mul 2 _
  exact lp_cnt (b := fun s : Int32 × Int32 × (Nat → Int32) => f_X10_fillsSet_b60 w s.2.1 s.1 s.2.2 (nI U) (nI X)) (fun e (y : Int32 × (Nat → Int32)) => (y.1, nI e, y.2)) (fun e y => PE t U hm X e x0 y) (fun y => PE t U hm X (2 * t 49) x0 y) (2 * t 49) (fun e y he hp => by
    obtain ⟨fl, x⟩ := y
    obtain ⟨p1, p2, p3, p4, p5⟩ := hp
    dsimp only at p1 p2 p3 p4 p5
    show ∃ y' : Int32 × (Nat → Int32), f_X10_fillsSet_b60 w (nI e) fl x (nI U) (nI X) = some (Sum.inl (y'.1, nI (e + 1), y'.2)) ∧ PE t U hm X (e + 1) x0 y'
    have la := sA_lt hv he
    have le := sE_lt hv he
    have hne := sAE hv he
    obtain ⟨u1, u2, u3⟩ := upX_ok (s := e / 2) hU hX
    have hku : okc x (6 * upX U X (e / 2) + sE t e) := by
      by_cases q : upX U X (e / 2) = X
      · rw [q]; exact (p2 _ le).1
      · have q1 := p1 (6 * upX U X (e / 2) + sE t e) (by omega)
        have q2 := hok _ u1 u2 _ le
        unfold okc Lf at q2 ⊢
        rw [show x (6 * upX U X (e / 2) + sE t e) = x0 (6 * upX U X (e / 2) + sE t e) from q1]
        exact q2
    have hka := (p2 _ la).1
    have hsm := sC_small hv he
    unfold f_X10_fillsSet_b60
    rw [ga_in (by decide), e49, h.1, m2, if_neg (nI_ge he (by omega)), f10_cost hv h he, Option.bind_some, nI_1]
    by_cases hc : sC t e < 1000000
    · have tl : toldC (sC t e) = nI (sC t e) := if_pos hc
      rw [tl, if_pos (nI_pos' (by omega)), f10_begins hv h he, Option.bind_some, f10_leaves hv h hU hX he hc hku, Option.bind_some, six', ga_ok (by omega) (by decide), ga_ok (by omega) (by decide), nI_clamp (by omega)]
      by_cases g : Lf x (6 * X + sA t e) ≤ sC t e + Lf x (6 * upX U X (e / 2) + sE t e)
      · rw [if_pos (by rw [hka.2]; exact nI_le g (by have := hku.1; omega))]
        refine ⟨(fl, x), rfl, p1, p2, p3, p4, ?_⟩
        rcases p5 with ⟨a, b, c⟩ | p5
        · exact Or.inl ⟨a, b, fun f hf => by
            by_cases q : f = e
            · subst q; exact fun _ => g
            · exact c f (by omega)⟩
        · exact Or.inr p5
      · have hvb : sC t e + Lf x (6 * upX U X (e / 2) + sE t e) < 2 ^ 31 := by have := hku.1; omega
        rw [if_neg (by rw [hka.2]; exact nI_ge (by omega) (by have := hka.1; omega))]
        refine ⟨(1, upd x (6 * X + sA t e) (nI (sC t e + Lf x (6 * upX U X (e / 2) + sE t e)))), rfl, fun i hi => ?_, fun c hcc => ?_, fun c hcc => ?_, fun hXU => ?_, Or.inr ⟨rfl, sA t e, la, ?_⟩⟩
        · show upd x (6 * X + sA t e) _ i = x0 i
          rw [pk_un (by omega)]; exact p1 i hi
        · show okc (upd x (6 * X + sA t e) _) _ ∧ Lf (upd x (6 * X + sA t e) _) _ ≤ _
          obtain ⟨a1, a2⟩ := p2 c hcc
          by_cases q : c = sA t e
          · subst q
            unfold okc
            rw [Lf_s hvb]
            exact ⟨⟨by have := a1.1; omega, pk_us⟩, by omega⟩
          · unfold okc
            rw [Lf_n (by omega), pk_un (by omega)]
            exact ⟨a1, a2⟩
        · show rlz t U hm (upd x (6 * X + sA t e) _) X c
          intro hlt
          by_cases q : c = sA t e
          · subst q
            refine Or.inr ⟨e, he, hc, rfl, ?_⟩
            rw [Lf_s hvb, Lf_n (by omega)]
            exact Nat.le_refl _
          · rw [Lf_n (by omega)] at hlt ⊢
            rcases p3 c hcc hlt with a | ⟨f, f1, f2, f3, f4⟩
            · exact Or.inl a
            · refine Or.inr ⟨f, f1, f2, f3, ?_⟩
              by_cases q2 : 6 * upX U X (f / 2) + sE t f = 6 * X + sA t e
              · rw [q2] at f4 ⊢
                rw [Lf_s hvb]
                have f4' : sC t f + Lf x (6 * X + sA t e) ≤ Lf x (6 * X + c) := f4
                omega
              · rw [Lf_n q2]; exact f4
        · show Lf (upd x (6 * X + sA t e) _) (6 * X + hm) = 0
          have z : Lf x (6 * X + hm) = 0 := p4 hXU
          by_cases q : hm = sA t e
          · rw [q] at z; omega
          · rw [Lf_n (by omega)]; exact z
        · show Lf (upd x (6 * X + sA t e) _) (6 * X + sA t e) < _
          rw [Lf_s hvb]
          have a2 : Lf x (6 * X + sA t e) ≤ Lf x0 (6 * X + sA t e) := (p2 _ la).2
          omega
    · have tn : toldC (sC t e) < 0 := (toldC_neg (by omega)).mpr (by omega)
      rw [if_neg (fun z => by rw [i32_le, tI0] at z; rw [i32_lt, tI0] at tn; omega)]
      refine ⟨(fl, x), rfl, p1, p2, p3, p4, ?_⟩
      rcases p5 with ⟨a, b, c⟩ | p5
      · exact Or.inl ⟨a, b, fun f hf => by
          by_cases q : f = e
          · subst q; exact fun z => absurd z hc
          · exact c f (by omega)⟩
      · exact Or.inr p5) (fun y hp => by
    refine ⟨y, ?_, hp⟩
    show f_X10_fillsSet_b60 w (nI (2 * t 49)) y.1 y.2 (nI U) (nI X) = _
    unfold f_X10_fillsSet_b60
    rw [ga_in (by decide), e49, h.1, m2, if_pos (nI_le (Nat.le_refl _) (by omega))]) (2 * t 49) 0 N ((0 : Int32), x0) (by omega) (by omega)
    ⟨fun _ _ => rfl, fun c hc => ⟨hok X hX (Nat.le_refl _) c hc, Nat.le_refl _⟩, hr, hb, Or.inl ⟨rfl, rfl, fun f hf => absurd hf (by omega)⟩⟩
