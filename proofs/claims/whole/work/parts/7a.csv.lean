/-! a table that is filled by first streets and least ways holds the least costs -/
def CV (t : Nat → Nat) (h U : Nat) (V F : Nat → Nat → Nat) : Prop :=
  (∀ c, c < 6 → V 0 c = dst t (sC t) (6 * c + h)) ∧
  ∀ S, S &&& U = S → S ≠ 0 → (∀ e, e < 2 * t 49 → S.testBit (e / 2) = true → F S (sA t e) ≤ sC t e + V (clr S (e / 2)) (sE t e)) ∧
    (∀ c, c < 6 → F S c < 1000000 → ∃ e, e < 2 * t 49 ∧ S.testBit (e / 2) = true ∧ sA t e = c ∧ F S c = sC t e + V (clr S (e / 2)) (sE t e)) ∧
    (∀ c d, c < 6 → d < 6 → V S c ≤ dst t (sC t) (6 * c + d) + F S d) ∧
    (∀ c, c < 6 → V S c < 1000000 → ∃ d, d < 6 ∧ V S c = dst t (sC t) (6 * c + d) + F S d) ∧
    ∀ c, c < 6 → V S c ≤ 1000000
theorem CV_le {t : Nat → Nat} {h U : Nat} {V F : Nat → Nat → Nat} (hh : h < 6) (hV : CV t h U V F) {S c : Nat} (hS : S &&& U = S) (hc : c < 6) : V S c ≤ 1000000 := by
  by_cases e : S = 0
  · subst e; rw [hV.1 c hc]; exact Bd_dst t (sC t) _ (by omega)
  · exact (hV.2 S hS e).2.2.2.2 c hc
theorem CV_tri {t : Nat → Nat} {h U : Nat} {V F : Nat → Nat → Nat} (hh : h < 6) (hV : CV t h U V F) {S c d : Nat} (hS : S &&& U = S) (hc : c < 6) (hd : d < 6) : V S c ≤ dst t (sC t) (6 * c + d) + V S d := by
  have tri := (dst_tri t (sC t)).2.2
  by_cases e : S = 0
  · subst e
    rw [hV.1 c hc, hV.1 d hd]
    exact tri c d h hc hd hh
  · obtain ⟨f1, f2, f3, f4, f5⟩ := hV.2 S hS e
    by_cases g : V S d < 1000000
    · obtain ⟨c', g1, g2⟩ := f4 d hd g
      have a := f3 c c' hc g1
      have b := tri c d c' hc hd g1
      omega
    · have := f5 c hc
      omega
theorem CV_step {t : Nat → Nat} (hv : vT t) {h U : Nat} {V F : Nat → Nat → Nat} (hh : h < 6) (hU : U < 256) (hV : CV t h U V F) {S e : Nat} (hS : S &&& U = S) (he : e < 2 * t 49) : V S (sA t e) ≤ sC t e + V (clr S (e / 2)) (sE t e) := by
  have la := sA_lt hv he
  have le := sE_lt hv he
  by_cases b : S.testBit (e / 2) = true
  · have hS0 : S ≠ 0 := fun z => by subst z; rw [Nat.zero_testBit] at b; cases b
    obtain ⟨f1, f2, f3, f4, f5⟩ := hV.2 S hS hS0
    have a1 := f1 e he b
    have a2 := f3 (sA t e) (sA t e) la la
    rw [(dst_tri t (sC t)).1 _ la] at a2
    omega
  · have hcl : clr S (e / 2) = S := if_neg b
    rw [hcl]
    have a1 := CV_tri hh hV hS la le
    have a2 := (dst_tri t (sC t)).2.1 (sA t e) (sE t e) la le
    have a3 := edN_at t (sC t) he
    omega
theorem clr_comm {S s r : Nat} (hS : S < 256) (hs : s < 8) (hr : r < 8) : clr (clr S s) r = clr (clr S r) s := by
  obtain ⟨a1, a2⟩ := clr_ok hS hs
  obtain ⟨b1, b2⟩ := clr_ok hS hr
  obtain ⟨c1, c2⟩ := clr_ok a1 hr
  obtain ⟨d1, d2⟩ := clr_ok b1 hs
  apply Nat.eq_of_testBit_eq
  intro i
  by_cases e : i < 8
  · rw [c2 i e, d2 i e, a2 i e, b2 i e, Bool.and_assoc, Bool.and_assoc, Bool.and_comm (decide (i ≠ s))]
  · rw [tb8 c1 e, tb8 d1 e]
theorem clr_le {S s : Nat} : clr S s ≤ S := by
  unfold clr
  split
  · exact Nat.sub_le _ _
  · exact Nat.le_refl _
theorem clr_bit {S s r : Nat} (hS : S < 256) (hs : s < 8) (hr : r < 8) (hb : S.testBit r = true) (hne : r ≠ s) : (clr S s).testBit r = true := by
  rw [(clr_ok hS hs).2 r hr, hb]; simp [hne]
theorem clr_self {S s : Nat} (hS : S < 256) (hs : s < 8) : clr (clr S s) s = clr S s := by
  have : ¬ (clr S s).testBit s = true := by rw [(clr_ok hS hs).2 s hs]; simp
  exact if_neg this
theorem clr_low {S s : Nat} (hb : S.testBit s = true) : clr S s < S := by
  unfold clr
  rw [if_pos hb]
  have h0 : S ≠ 0 := fun z => by subst z; rw [Nat.zero_testBit] at hb; cases hb
  have := Nat.two_pow_pos s
  omega
theorem CV_mono {t : Nat → Nat} (hv : vT t) {h U : Nat} {V F : Nat → Nat → Nat} (hh : h < 6) (hU : U < 256) (hV : CV t h U V F) : ∀ n S s c, S < n → S &&& U = S → s < 8 → c < 6 → V (clr S s) c ≤ V S c
  | 0, S, _, _, hn, _, _, _ => absurd hn (by omega)
  | n + 1, S, s, c, hn, hS, hs, hc => by
    have h8 := hv.1
    have hS8 := sub_lt hS hU
    by_cases b : S.testBit s = true
    · have hS0 : S ≠ 0 := fun z => by subst z; rw [Nat.zero_testBit] at b; cases b
      have hcS := clr_sub hS hU hs
      by_cases g : V S c < 1000000
      · obtain ⟨f1, f2, f3, f4, f5⟩ := hV.2 S hS hS0
        obtain ⟨d, d1, d2⟩ := f4 c hc g
        obtain ⟨e, e1, e2, e3, e4⟩ := f2 d d1 (by omega)
        have hes : e / 2 < 8 := by omega
        have a1 := CV_tri hh hV hcS hc d1
        have a2 := CV_step hv hh hU hV hcS e1
        rw [e3] at a2
        by_cases q : e / 2 = s
        · rw [q, clr_self hS8 hs] at a2
          rw [q] at e4
          omega
        · have a3 := CV_mono hv hh hU hV n (clr S (e / 2)) s (sE t e) (by have := clr_low e2; omega) (clr_sub hS hU hes) hs (sE_lt hv e1)
          rw [clr_comm hS8 hes hs] at a3
          omega
      · have := CV_le hh hV hcS hc
        have := CV_le hh hV hS hc
        omega
    · rw [show clr S s = S from if_neg b]; exact Nat.le_refl _
theorem CV_IsV {t : Nat → Nat} (hv : vT t) {h U : Nat} {V F : Nat → Nat → Nat} (hh : h < 6) (hU : U < 256) (hV : CV t h U V F) : IsV t h U V := by
  have h8 := hv.1
  have z := (dst_tri t (sC t)).1
  refine ⟨fun S c hS hc => CV_le hh hV hS hc, ?_, fun S e hS he _ => CV_step hv hh hU hV hS he, fun S c hS hc hlt => ?_⟩
  · rw [hV.1 h hh]; exact z h hh
  · have hS8 := sub_lt hS hU
    by_cases e0 : S = 0
    · subst e0
      by_cases q : c = h
      · exact Or.inl ⟨rfl, q⟩
      · rw [hV.1 c hc] at hlt
        obtain ⟨e, e1, e2, e3, e4⟩ := dst_next hv hc hh q hlt
        refine Or.inr ⟨e, e1, e2, e3, ?_⟩
        have hcl : clr 0 (e / 2) = 0 := if_neg (by rw [Nat.zero_testBit]; decide)
        rw [hcl, hV.1 c hc, hV.1 _ (sE_lt hv e1)]
        exact e4.symm
    · obtain ⟨f1, f2, f3, f4, f5⟩ := hV.2 S hS e0
      obtain ⟨d, d1, d2⟩ := f4 c hc hlt
      by_cases q : c = d
      · subst q
        rw [z c hc] at d2
        obtain ⟨e, e1, e2, e3, e4⟩ := f2 c hc (by omega)
        exact Or.inr ⟨e, e1, by omega, e3, by omega⟩
      · obtain ⟨e, e1, e2, e3, e4⟩ := dst_next hv hc d1 q (show dst t (sC t) (6 * c + d) < 1000000 by omega)
        refine Or.inr ⟨e, e1, e2, e3, ?_⟩
        have le := sE_lt hv e1
        have a1 := CV_step hv hh hU hV hS e1
        rw [e3] at a1
        have a2 := CV_mono hv hh hU hV _ S (e / 2) (sE t e) (Nat.lt_succ_self S) hS (by omega) le
        have a3 := f3 (sE t e) d le d1
        omega
