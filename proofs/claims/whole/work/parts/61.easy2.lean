theorem pm_letter {A I : Nat → Nat → Int32} (hI : Inv A I) {N : Nat} (hN : 8000000 ≤ N) (x1 : Int32) : ∃ oc, f_X9_letter x1 (I 61 1) (A 62) (A 64) = some oc ∧ ∃ om, f_X10_letter x1 ((uI_X9_letter A I oc) 65 8) ((uA_X9_letter A I oc) 69) ((uA_X9_letter A I oc) 71) = some om ∧ oc.1 = om.1 ∧ Inv (uA_X10_letter (uA_X9_letter A I oc) (uI_X9_letter A I oc) om) (uI_X10_letter (uA_X9_letter A I oc) (uI_X9_letter A I oc) om) := by
  obtain ⟨t, k, h1, h2, h3, h4, h5, h6, h7, h8⟩ := hI
  obtain ⟨n, hn, e1, e2, hr⟩ := id h6
  have hlit : (96 : Int32) = nI 96 := rfl
  by_cases hx : 0 ≤ x1
  · by_cases hx9 : (255 : Int32) < x1
    · have f9 : f_X9_letter x1 (I 61 1) (A 62) (A 64) = some (-6, I 61 1, A 62, upd (A 64) 6 (A 64 6 + 1)) := by
        unfold f_X9_letter f_X9_letter_j1
        rw [if_pos hx, if_pos hx9, rf9_6]; rfl
      refine ⟨_, f9, ?_⟩
      have f10 : ∀ r w : Nat → Int32, f_X10_letter x1 (I 65 8) r w = some (-6, I 65 8, upd r 6 (r 6 + 1), w) := fun r w => by
        unfold f_X10_letter f_X10_letter_j1
        rw [if_pos hx, if_pos hx9, rf10_6]; rfl
      exact ⟨_, f10 _ _, rfl, t, k, h1, h2, h3, h4.up (by decide), h5, h6, h7, h8⟩
    · by_cases hfull : n = 96
      · have f9 : f_X9_letter x1 (I 61 1) (A 62) (A 64) = some (-6, I 61 1, A 62, upd (A 64) 6 (A 64 6 + 1)) := by
          unfold f_X9_letter f_X9_letter_j1
          rw [if_pos hx, if_neg hx9, if_neg (by rw [e1, hfull]; decide), rf9_6]; rfl
        refine ⟨_, f9, ?_⟩
        have f10 : ∀ r w : Nat → Int32, f_X10_letter x1 (I 65 8) r w = some (-6, I 65 8, upd r 6 (r 6 + 1), w) := fun r w => by
          unfold f_X10_letter f_X10_letter_j1
          rw [if_pos hx, if_neg hx9, if_pos (by rw [e2, hfull]; rfl), rf10_6]; rfl
        exact ⟨_, f10 _ _, rfl, t, k, h1, h2, h3, h4.up (by decide), h5, h6, h7, h8⟩
      · have hv : ∃ v : Nat, v < 256 ∧ x1 = nI v := cin_nI (n := 256) ⟨by rw [i32_le, tI0] at hx; exact hx, by rw [i32_lt, show (255 : Int32).toInt = 255 from rfl] at hx9; omega⟩ (by decide)
        obtain ⟨v, hv, rfl⟩ := hv
        have f9 : f_X9_letter (nI v) (I 61 1) (A 62) (A 64) = some (I 61 1 + 1, I 61 1 + 1, upd (A 62) (I 61 1).toNatClampNeg (nI v), A 64) := by
          unfold f_X9_letter
          rw [if_pos hx, if_neg hx9, if_pos (by rw [e1, hlit]; exact nI_lt (by omega) (by decide)), e1]
          unfold f_X4_take
          rw [if_neg (by rw [hlit]; exact nI_ge (by omega) (by decide)), ga_ok (by omega) (by decide)]; rfl
        refine ⟨_, f9, ?_⟩
        have f10 : ∀ r w : Nat → Int32, f_X10_letter (nI v) (I 65 8) r w = some (I 65 8 + 1, I 65 8 + 1, r, upd w (I 65 8).toNatClampNeg (nI v)) := fun r w => by
          unfold f_X10_letter
          rw [if_pos hx, if_neg hx9, if_neg (by rw [e2, hlit]; intro z; exact hfull ((nI_eq (by omega) (by decide)).mp z)), e2, ga_ok (by omega) (by decide)]
        refine ⟨_, f10 _ _, ?_, t, k, h1, h2, h3, h4, h5, InvL.push (by omega) (by decide) e1 e2 hr hv, h7, h8⟩
        show I 61 1 + 1 = I 65 8 + 1
        rw [e1, e2]
  · have f9 : f_X9_letter x1 (I 61 1) (A 62) (A 64) = some (-4, I 61 1, A 62, upd (A 64) 4 (A 64 4 + 1)) := by
      unfold f_X9_letter
      rw [if_neg hx, rf9_4]; rfl
    refine ⟨_, f9, ?_⟩
    have f10 : ∀ r w : Nat → Int32, f_X10_letter x1 (I 65 8) r w = some (-4, I 65 8, upd r 4 (r 4 + 1), w) := fun r w => by
      unfold f_X10_letter
      rw [if_neg hx, rf10_4]; rfl
    exact ⟨_, f10 _ _, rfl, t, k, h1, h2, h3, h4.up (by decide), h5, h6, h7, h8⟩
theorem gcp_8 {α : Type} {X : Option α} : gcp 0 0 8 8 8 X = X := if_pos (by decide)
theorem mR.cpy {t : Nat → Nat} {w w2 : Nat → Int32} (hv : vT t) (h : mR t w) (hw : ∀ j, j < 50 → w2 j = w j) : mR t w2 := by
  refine ⟨(hw _ (by decide)).trans h.1, (hw _ (by decide)).trans h.2.1, fun r hr s hs => ?_⟩
  have := hv.1
  rw [hw _ (by omega)]
  exact h.2.2 r hr s hs
theorem cR.cpy {t : Nat → Nat} {fr to ln kd fg f2 t2 l2 k2 g2 : Nat → Int32} {cl sz hm : Int32} (hv : vT t) (h : cR t fr to ln kd fg cl sz hm) (h1 : ∀ j, j < 8 → f2 j = fr j) (h2 : ∀ j, j < 8 → t2 j = to j) (h3 : ∀ j, j < 8 → l2 j = ln j) (h4 : ∀ j, j < 8 → k2 j = kd j) (h5 : ∀ j, j < 8 → g2 j = fg j) : cR t f2 t2 l2 k2 g2 cl sz hm := by
  refine ⟨h.1, h.2.1, h.2.2.1, fun s hs => ?_⟩
  have hs8 : s < 8 := Nat.lt_of_lt_of_le hs hv.1
  rw [h1 s hs8, h2 s hs8, h3 s hs8, h4 s hs8, h5 s hs8]
  exact h.2.2.2 s hs
theorem cpy8 {f g : Nat → Int32} : ∀ j, j < 8 → va_cpy f g (Int32.toNatClampNeg (0 : Int32)) (Int32.toNatClampNeg (0 : Int32)) (Int32.toNatClampNeg (8 : Int32)) j = f j := by
  intro j hj
  rw [show Int32.toNatClampNeg (0 : Int32) = 0 from rfl, show Int32.toNatClampNeg (8 : Int32) = 8 from rfl, pk_cpy_in (by omega) (by omega)]
  congr 1; omega
theorem f7_takeOver {t : Nat → Nat} {fr to ln kd fg f2 t2 l2 k2 g2 : Nat → Int32} {cl sz hm c2 s2 h2 : Int32} (hv : vT t) (h : cR t fr to ln kd fg cl sz hm) : ∃ f3 t3 l3 k3 g3 : Nat → Int32, f_X7_takeOver c2 s2 h2 f2 t2 l2 k2 g2 cl sz hm fr to ln kd fg = some (cl, sz, hm, f3, t3, l3, k3, g3) ∧ cR t f3 t3 l3 k3 g3 cl sz hm := by
  unfold f_X7_takeOver
  rw [gcp_8, gcp_8, gcp_8, gcp_8, gcp_8]
  exact ⟨_, _, _, _, _, rfl, h.cpy hv cpy8 cpy8 cpy8 cpy8 cpy8⟩
/-- the copy of the first n numbers -/
def cpN (w p : Nat → Int32) (n : Nat) : Nat → Int32 := fun j => if j < n then p j else w j
theorem cpN_1 (w p : Nat → Int32) (n : Nat) : upd (cpN w p n) n (p n) = cpN w p (n + 1) := by
  funext j
  unfold upd cpN
  by_cases e : j = n
  · subst e; rw [if_pos rfl, if_pos (by omega)]
  · rw [if_neg e]
    by_cases g : j < n
    · rw [if_pos g, if_pos (by omega)]
    · rw [if_neg g, if_neg (by omega)]
theorem f10_copies (p w : Nat → Int32) {N : Nat} (hN : 100 ≤ N) : f_X10_copies N p w = some (cpN w p 50) := by
  have h := lp_seq (b := fun s => f_X10_copies_b2 s.1 s.2 p) (fun i => (nI i, cpN w p i)) (cpN w p 50) 50 (fun i hi => by
    show f_X10_copies_b2 (nI i) (cpN w p i) p = _
    unfold f_X10_copies_b2
    rw [if_neg (show ¬ (50 : Int32) ≤ nI i from nI_ge (b := 50) hi (by decide)), ga_ok hi (by decide), ga_ok hi (by decide), nI_clamp (by omega), cpN_1, nI_1]) (by
    show f_X10_copies_b2 (nI 50) (cpN w p 50) p = _
    unfold f_X10_copies_b2
    rw [if_pos (show (50 : Int32) ≤ nI 50 from nI_le (a := 50) (Nat.le_refl _) (by decide))]) 50 0 N rfl (by omega)
  unfold f_X10_copies
  have e : ((0 : Int32), w) = (nI 0, cpN w p 0) := by
    have : cpN w p 0 = w := by funext j; exact if_neg (by omega)
    rw [this]; rfl
  rw [e]
  exact (congrArg (fun z => Option.bind z fun e_2 => some e_2) h).trans rfl
theorem cpN_50 {w p : Nat → Int32} : ∀ j, j < 50 → cpN w p 50 j = p j := fun j hj => if_pos hj
theorem pm_image {A I : Nat → Nat → Int32} (hI : Inv A I) {N : Nat} (hN : 8000000 ≤ N) : ∃ oc, f_X9_image (I 0 3) (I 1 5) (I 1 6) (I 1 7) (A 2) (A 3) (A 4) (A 5) (A 6) (I 13 5) (I 13 6) (I 13 7) (A 14) (A 15) (A 16) (A 17) (A 18) = some oc ∧ ∃ om, f_X10_image N ((uI_X9_image A I oc) 65 3) ((uA_X9_image A I oc) 66) ((uA_X9_image A I oc) 67) = some om ∧ oc.1 = om.1 ∧ Inv (uA_X10_image (uA_X9_image A I oc) (uI_X9_image A I oc) om) (uI_X10_image (uA_X9_image A I oc) (uI_X9_image A I oc) om) := by
  obtain ⟨t, k, h1, h2, h3, h4, h5, h6, h7, h8⟩ := hI
  obtain ⟨f3, t3, l3, k3, g3, e1, e2⟩ := f7_takeOver (f2 := A 14) (t2 := A 15) (l2 := A 16) (k2 := A 17) (g2 := A 18) (c2 := I 13 5) (s2 := I 13 6) (h2 := I 13 7) h1.1 h1.2.1
  have f9 : f_X9_image (I 0 3) (I 1 5) (I 1 6) (I 1 7) (A 2) (A 3) (A 4) (A 5) (A 6) (I 13 5) (I 13 6) (I 13 7) (A 14) (A 15) (A 16) (A 17) (A 18) = some (I 1 6, 1, I 1 5, I 1 6, I 1 7, f3, t3, l3, k3, g3) := by
    unfold f_X9_image
    rw [e1]; rfl
  refine ⟨_, f9, ?_⟩
  have f10 : ∀ b : Int32, ∀ p w : Nat → Int32, f_X10_image N b p w = some (p 49, 1, cpN w p 50) := fun b p w => by
    unfold f_X10_image
    rw [f10_copies p w (by omega)]; exact ga_in (by decide)
  refine ⟨_, f10 _ _ _, ?_, t, t, h1, ⟨h1.1, e2, h1.2.2.cpy h1.1 cpN_50⟩, ⟨rfl, Or.inr rfl⟩, h4, h5, h6, h7, h8⟩
  exact h1.2.1.1.trans h1.2.2.1.symm
theorem pm_on {A I : Nat → Nat → Int32} (hI : Inv A I) {N : Nat} (hN : 8000000 ≤ N) : ∃ oc, f_X9_on (I 0 3) (I 1 5) (I 1 6) (I 1 7) (A 2) (A 3) (A 4) (A 5) (A 6) (I 13 5) (I 13 6) (I 13 7) (A 14) (A 15) (A 16) (A 17) (A 18) (A 64) = some oc ∧ ∃ om, f_X10_on N ((uI_X9_on A I oc) 65 3) ((uA_X9_on A I oc) 66) ((uA_X9_on A I oc) 67) ((uA_X9_on A I oc) 69) = some om ∧ oc.1 = om.1 ∧ Inv (uA_X10_on (uA_X9_on A I oc) (uI_X9_on A I oc) om) (uI_X10_on (uA_X9_on A I oc) (uI_X9_on A I oc) om) := by
  obtain ⟨t, k, h1, h2, h3, h4, h5, h6, h7, h8⟩ := hI
  by_cases hx : I 0 3 = 0
  · have f9 : f_X9_on (I 0 3) (I 1 5) (I 1 6) (I 1 7) (A 2) (A 3) (A 4) (A 5) (A 6) (I 13 5) (I 13 6) (I 13 7) (A 14) (A 15) (A 16) (A 17) (A 18) (A 64) = some (-3, I 1 5, I 1 6, I 1 7, A 2, A 3, A 4, A 5, A 6, upd (A 64) 3 (A 64 3 + 1)) := by
      unfold f_X9_on
      rw [if_pos hx, rf9_3]; rfl
    refine ⟨_, f9, ?_⟩
    have f10 : ∀ p w r : Nat → Int32, f_X10_on N (I 65 3) p w r = some (-3, p, upd r 3 (r 3 + 1)) := fun p w r => by
      unfold f_X10_on
      rw [if_pos (h3.1.symm.trans hx), rf10_3]; rfl
    exact ⟨_, f10 _ _ _, rfl, t, k, h1, h2, h3, h4.up (by decide), h5, h6, h7, h8⟩
  · obtain ⟨f3, t3, l3, k3, g3, e1, e2⟩ := f7_takeOver (f2 := A 2) (t2 := A 3) (l2 := A 4) (k2 := A 5) (g2 := A 6) (c2 := I 1 5) (s2 := I 1 6) (h2 := I 1 7) h2.1 h2.2.1
    have f9 : f_X9_on (I 0 3) (I 1 5) (I 1 6) (I 1 7) (A 2) (A 3) (A 4) (A 5) (A 6) (I 13 5) (I 13 6) (I 13 7) (A 14) (A 15) (A 16) (A 17) (A 18) (A 64) = some (I 13 6, I 13 5, I 13 6, I 13 7, f3, t3, l3, k3, g3, A 64) := by
      unfold f_X9_on
      rw [if_neg hx, e1]; rfl
    refine ⟨_, f9, ?_⟩
    have f10 : ∀ p w r : Nat → Int32, f_X10_on N (I 65 3) w p r = some (p 49, cpN w p 50, r) := fun p w r => by
      unfold f_X10_on
      rw [if_neg (fun z => hx (h3.1.trans z)), f10_copies p w (by omega)]
      exact ga_in (by decide)
    refine ⟨_, f10 _ _ _, ?_, k, k, ⟨h2.1, e2, h2.2.2.cpy h2.1 cpN_50⟩, h2, h3, h4, h5, h6, h7, h8⟩
    exact h2.2.1.1.trans h2.2.2.1.symm
