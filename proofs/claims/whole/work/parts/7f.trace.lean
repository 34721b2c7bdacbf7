/-! the class's trace is the round -/
theorem nar_b2 {p : Prop} [Decidable p] : vp_nar .boolean (if p then (1 : Int32) else 0) = if p then (1 : Int32) else 0 := by
  split <;> decide
theorem f6_leastStreet {t : Nat → Nat} {fr to on bk x : Nat → Int32} {sz : Int32} (hv : vT t) (hsz : sz = nI (t 49)) (hfr : ∀ s, s < t 49 → fr s = nI (t s)) (hto : ∀ s, s < t 49 → to s = nI (t (8 + s))) (hon : ∀ s, s < t 49 → on s = nI (sC t (2 * s))) (hbk : ∀ s, s < t 49 → bk s = nI (sC t (2 * s + 1))) {U : Nat} (hU : U < 256) (hx : ∀ S, S &&& U = S → ∀ c, c < 6 → okc x (6 * S + c)) {S c e : Nat} (hS : S &&& U = S) (hc : c < 6) (he : e < 2 * t 49) (hp : sC t e < 1000000 ∧ sA t e = c ∧ Lf x (6 * S + c) = sC t e + Lf x (6 * clr S (e / 2) + sE t e)) (hq : ∀ f, f < e → ¬ (sC t f < 1000000 ∧ sA t f = c ∧ Lf x (6 * S + c) = sC t f + Lf x (6 * clr S (f / 2) + sE t f))) {N : Nat} (hN : 100 ≤ N) : f_X6_leastStreet N (nI c) (nI S) sz fr to on bk x = some (nI (e / 2)) := by
  have h8 := hv.1
  have hS8 := sub_lt hS hU
  have hv0 := hx S hS c hc
  have key : ∀ s, s < t 49 → ∀ g, sA t g = c → g / 2 = s → g < 2 * t 49 → f_X6_leastStreet_b15 sz (nI s) (nI c) fr to on bk (nI S) x = if sC t g < 1000000 ∧ Lf x (6 * S + c) = sC t g + Lf x (6 * clr S (g / 2) + sE t g) then some (.inr (.inr (nI s))) else some (.inl (nI (s + 1))) := fun s hs g hg hgs hg2 => by
    have ho := hv.2.2.1 s hs
    obtain ⟨q1, q2⟩ := st_of hv hg2 hg
    rw [hgs] at q1 q2
    have cf : (if t s = c then sC t (2 * s) else if t (8 + s) = c then sC t (2 * s + 1) else 1000000) = sC t g := by
      by_cases z : t s = c
      · rw [if_pos z] at q1 ⊢; congr 1; omega
      · rw [if_neg z] at q1 ⊢
        have : t (8 + s) = c := by
          unfold sA at hg; rw [if_neg (fun w => z (q2.mpr w)), hgs] at hg; exact hg
        rw [if_pos this]; congr 1; omega
    have ce : (if t s = c then t (8 + s) else t s) = sE t g := by
      unfold sE
      rw [hgs]
      by_cases z : t s = c
      · rw [if_pos z, if_pos (q2.mp z)]
      · rw [if_neg z, if_neg (fun w => z (q2.mpr w))]
    have hsm := sC_small hv hg2
    have hle := sE_lt hv hg2
    have hcl := clr_sub (s := s) hS hU (by omega)
    have hcl8 := sub_lt hcl hU
    have hk := hx _ hcl _ hle
    have hk1 := hk.1
    have hv1 := hv0.1
    unfold f_X6_leastStreet_b15
    rw [hsz, if_neg (nI_ge hs (by omega)), f8_costFrom hv hfr hto hon hbk hs hc, Option.bind_some, cf, f7_otherEnd hv hfr hto hs hc, Option.bind_some, ce, sh1 (by omega), clrI S hS8 s (by omega), six, six, ga_ok (by omega) (by decide), nI_clamp (by omega), nI_clamp (by omega), hk.2, hv0.2, nI_add, nI_1, hgs]
    by_cases z : sC t g < 1000000
    · rw [if_neg (show ¬ (1000000 : Int32) ≤ nI (sC t g) from nI_ge (b := 1000000) z (by decide))]
      by_cases w : sC t g + Lf x (6 * clr S s + sE t g) = Lf x (6 * S + c)
      · rw [if_pos (by rw [w]), if_pos ⟨z, w.symm⟩]
      · rw [if_neg (fun u => w ((nI_eq (by omega) (by omega)).mp u)), if_neg (fun u => w u.2.symm)]
    · rw [if_pos (show (1000000 : Int32) ≤ nI (sC t g) from nI_le (a := 1000000) (by omega) (by omega)), if_neg (fun u => z u.1)]
  have hl := lp_seq (b := fun s => f_X6_leastStreet_b15 sz s (nI c) fr to on bk (nI S) x) (fun i => nI i) (Sum.inr (nI (e / 2))) (e / 2) (fun i hi => by
    have hin : i < t 49 := by omega
    have ho := hv.2.2.1 i hin
    show f_X6_leastStreet_b15 sz (nI i) (nI c) fr to on bk (nI S) x = _
    by_cases z : t i = c
    · have hg : sA t (2 * i) = c := by rw [sA_0]; exact z
      rw [key i hin (2 * i) hg (by omega) (by omega), if_neg (fun u => hq (2 * i) (by omega) ⟨u.1, hg, u.2⟩)]
    · by_cases w : t (8 + i) = c
      · have hg : sA t (2 * i + 1) = c := by rw [sA_1]; exact w
        rw [key i hin (2 * i + 1) hg (by omega) (by omega), if_neg (fun u => hq (2 * i + 1) (by omega) ⟨u.1, hg, u.2⟩)]
      · unfold f_X6_leastStreet_b15
        rw [hsz, if_neg (nI_ge hin (by omega)), f8_costFrom hv hfr hto hon hbk hin hc, Option.bind_some, if_neg z, if_neg w, if_pos (show (1000000 : Int32) ≤ nI 1000000 from nI_le (a := 1000000) (Nat.le_refl _) (by decide)), nI_1]) (by
    show f_X6_leastStreet_b15 sz (nI (e / 2)) (nI c) fr to on bk (nI S) x = _
    rw [key (e / 2) (by omega) e hp.2.1 rfl he, if_pos ⟨hp.1, hp.2.2⟩]) (e / 2) 0 N (by omega) (by omega)
  have hl' : lp (fun s_15 => f_X6_leastStreet_b15 sz s_15 (nI c) fr to on bk (nI S) x) N (0 : Int32) = some (Sum.inr (nI (e / 2))) := hl
  unfold f_X6_leastStreet
  rw [six, ga_ok (by omega) (by decide), hl']; rfl
