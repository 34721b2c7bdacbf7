theorem clB_cong {t t' : Nat → Nat} : ∀ n, (∀ s, s < n → t (40 + s) = t' (40 + s)) → clB t n = clB t' n
  | 0, _ => rfl
  | n + 1, h => by unfold clB; rw [clB_cong n (fun s hs => h s (by omega)), h n (by omega)]
theorem InvL.push {M m : Nat} {x y : Int32} {f g : Nat → Int32} {n : Nat} (hM : n < M) (hMM : M < 2 ^ 31) (hx : x = nI n) (hy : y = nI n) (h : ∀ j, j < n → f j = g j ∧ ∃ v : Nat, v < m ∧ f j = nI v) {v : Nat} (hv : v < m) : InvL M m (x + 1) (y + 1) (upd f x.toNatClampNeg (nI v)) (upd g y.toNatClampNeg (nI v)) := by
  have hc : (nI n).toNatClampNeg = n := nI_clamp (by omega)
  subst hx
  subst hy
  refine ⟨n + 1, by omega, nI_1 n, nI_1 n, fun j hj => ?_⟩
  rw [hc]
  unfold upd
  by_cases e : j = n
  · rw [if_pos e, if_pos e]; exact ⟨rfl, v, hv, rfl⟩
  · rw [if_neg e, if_neg e]; exact h j (by omega)
theorem pm_clear {A I : Nat → Nat → Int32} (hI : Inv A I) {N : Nat} (hN : 8000000 ≤ N) : ∃ oc, f_X9_clear (I 0 12) = some oc ∧ ∃ om, f_X10_clear ((uI_X9_clear A I oc) 65 6) = some om ∧ oc.1 = om.1 ∧ Inv (uA_X10_clear (uA_X9_clear A I oc) (uI_X9_clear A I oc) om) (uI_X10_clear (uA_X9_clear A I oc) (uI_X9_clear A I oc) om) := by
  obtain ⟨t, k, h1, h2, h3, h4, h5, h6, h7, h8⟩ := hI
  obtain ⟨n, hn, e1, e2, hr⟩ := id h5
  refine ⟨_, rfl, _, rfl, ?_, t, k, h1, h2, h3, h4, ⟨0, by decide, rfl, rfl, fun j hj => absurd hj (by omega)⟩, h6, h7, h8⟩
  exact e1.trans e2.symm
theorem pm_row {A I : Nat → Nat → Int32} (hI : Inv A I) {N : Nat} (hN : 8000000 ≤ N) (x1 : Int32) : ∃ oc, f_X9_row x1 (I 0 12) (A 63) (A 64) = some oc ∧ ∃ om, f_X10_row x1 ((uI_X9_row A I oc) 65 6) ((uA_X9_row A I oc) 69) ((uA_X9_row A I oc) 70) = some om ∧ oc.1 = om.1 ∧ Inv (uA_X10_row (uA_X9_row A I oc) (uI_X9_row A I oc) om) (uI_X10_row (uA_X9_row A I oc) (uI_X9_row A I oc) om) := by
  obtain ⟨t, k, h1, h2, h3, h4, h5, h6, h7, h8⟩ := hI
  obtain ⟨n, hn, e1, e2, hr⟩ := id h5
  have e2' : ∀ oc, (uI_X9_row A I oc) 65 6 = nI n := fun oc => e2
  have hlit : (32 : Int32) = nI 32 := rfl
  by_cases hx : 0 ≤ x1
  · by_cases hx9 : (9 : Int32) < x1
    · have f9 : f_X9_row x1 (I 0 12) (A 63) (A 64) = some (-6, I 0 12, A 63, upd (A 64) 6 (A 64 6 + 1)) := by
        unfold f_X9_row f_X9_row_j1
        rw [if_pos hx, if_pos hx9, rf9_6]; rfl
      refine ⟨_, f9, ?_⟩
      have f10 : ∀ r w : Nat → Int32, f_X10_row x1 (I 65 6) r w = some (-6, I 65 6, upd r 6 (r 6 + 1), w) := fun r w => by
        unfold f_X10_row f_X10_row_j1
        rw [if_pos hx, if_pos hx9, rf10_6]; rfl
      exact ⟨_, f10 _ _, rfl, t, k, h1, h2, h3, h4.up (by decide), h5, h6, h7, h8⟩
    · by_cases hfull : n = 32
      · have f9 : f_X9_row x1 (I 0 12) (A 63) (A 64) = some (-6, I 0 12, A 63, upd (A 64) 6 (A 64 6 + 1)) := by
          unfold f_X9_row f_X9_row_j1
          rw [if_pos hx, if_neg hx9, if_neg (by rw [e1, hfull]; decide), rf9_6]; rfl
        refine ⟨_, f9, ?_⟩
        have f10 : ∀ r w : Nat → Int32, f_X10_row x1 (I 65 6) r w = some (-6, I 65 6, upd r 6 (r 6 + 1), w) := fun r w => by
          unfold f_X10_row f_X10_row_j1
          rw [if_pos hx, if_neg hx9, if_pos (by rw [e2, hfull]; rfl), rf10_6]; rfl
        exact ⟨_, f10 _ _, rfl, t, k, h1, h2, h3, h4.up (by decide), h5, h6, h7, h8⟩
      · have hv : ∃ v : Nat, v < 10 ∧ x1 = nI v := cin_nI (n := 10) ⟨by rw [i32_le, tI0] at hx; exact hx, by rw [i32_lt, show (9 : Int32).toInt = 9 from rfl] at hx9; omega⟩ (by decide)
        obtain ⟨v, hv, rfl⟩ := hv
        have f9 : f_X9_row (nI v) (I 0 12) (A 63) (A 64) = some (I 0 12 + 1, I 0 12 + 1, upd (A 63) (I 0 12).toNatClampNeg (nI v), A 64) := by
          unfold f_X9_row
          rw [if_pos hx, if_neg hx9, if_pos (by rw [e1, hlit]; exact nI_lt (by omega) (by decide)), e1, ga_ok (by omega) (by decide)]
        refine ⟨_, f9, ?_⟩
        have f10 : ∀ r w : Nat → Int32, f_X10_row (nI v) (I 65 6) r w = some (I 65 6 + 1, I 65 6 + 1, r, upd w (I 65 6).toNatClampNeg (nI v)) := fun r w => by
          unfold f_X10_row
          rw [if_pos hx, if_neg hx9, if_neg (by rw [e2, hlit]; intro z; exact hfull ((nI_eq (by omega) (by decide)).mp z)), e2, ga_ok (by omega) (by decide)]
        refine ⟨_, f10 _ _, ?_, t, k, h1, h2, h3, h4, InvL.push (by omega) (by decide) e1 e2 hr hv, h6, h7, h8⟩
        show I 0 12 + 1 = I 65 6 + 1
        rw [e1, e2]
  · have f9 : f_X9_row x1 (I 0 12) (A 63) (A 64) = some (-4, I 0 12, A 63, upd (A 64) 4 (A 64 4 + 1)) := by
      unfold f_X9_row
      rw [if_neg hx, rf9_4]; rfl
    refine ⟨_, f9, ?_⟩
    have f10 : ∀ r w : Nat → Int32, f_X10_row x1 (I 65 6) r w = some (-4, I 65 6, upd r 4 (r 4 + 1), w) := fun r w => by
      unfold f_X10_row
      rw [if_neg hx, rf10_4]; rfl
    exact ⟨_, f10 _ _, rfl, t, k, h1, h2, h3, h4.up (by decide), h5, h6, h7, h8⟩
theorem pm_home {A I : Nat → Nat → Int32} (hI : Inv A I) {N : Nat} (hN : 8000000 ≤ N) (x1 : Int32) : ∃ oc, f_X9_home x1 (I 1 7) (A 64) = some oc ∧ ∃ om, f_X10_home x1 ((uA_X9_home A I oc) 66) ((uA_X9_home A I oc) 69) = some om ∧ oc.1 = om.1 ∧ Inv (uA_X10_home (uA_X9_home A I oc) (uI_X9_home A I oc) om) (uI_X10_home (uA_X9_home A I oc) (uI_X9_home A I oc) om) := by
  obtain ⟨t, k, h1, h2, h3, h4, h5, h6, h7, h8⟩ := hI
  obtain ⟨hv, hc, hm⟩ := id h1
  by_cases hx : 0 ≤ x1.toInt ∧ x1.toInt < 6
  · obtain ⟨v, hv6, rfl⟩ := cin_nI (n := 6) hx (by decide)
    have f9 : f_X9_home (nI v) (I 1 7) (A 64) = some (I 1 7, nI v, A 64) := by
      unfold f_X9_home
      rw [f9_isCorner, Option.bind_some, if_neg (fun z => b2_0.mp z hx)]
    refine ⟨_, f9, ?_⟩
    have f10 : ∀ w r : Nat → Int32, f_X10_home (nI v) w r = some (w 48, upd w 48 (nI v), r) := fun w r => by
      unfold f_X10_home
      rw [f10_isCorner, Option.bind_some, if_neg (fun z => b2_0.mp z hx), ga_in (by decide), ga_in (by decide)]; rfl
    refine ⟨_, f10 _ _, ?_, fun j => if j = 48 then v else t j, k, ⟨⟨hv.1, hv6, fun s hs => ?_, fun j j1 j2 j3 => ?_⟩, ⟨hc.1, rfl, ?_, fun s hs => ?_⟩, ?_, rfl, fun r hr s hs => ?_⟩, h2, h3, h4, h5, h6, h7, h8⟩
    · show I 1 7 = A 66 48
      rw [hc.2.1, hm.2.1]
    · have hs8 : s < 8 := Nat.lt_of_lt_of_le hs hv.1
      have := hv.2.2.1 s hs
      simp only [if_neg (show ¬ s = 48 by omega), if_neg (show ¬ 8 + s = 48 by omega), if_neg (show ¬ 16 + s = 48 by omega), if_neg (show ¬ 24 + s = 48 by omega), if_neg (show ¬ 32 + s = 48 by omega), if_neg (show ¬ 40 + s = 48 by omega)]
      exact this
    · show (if j = 48 then v else t j) = 0
      rw [if_neg j1]; exact hv.2.2.2 j j1 j2 j3
    · show I 1 5 = nI (clB (fun j => if j = 48 then v else t j) (t 49))
      rw [hc.2.2.1]
      congr 1
      exact (clB_cong _ (fun s hs => by show (if 40 + s = 48 then v else t (40 + s)) = t (40 + s); rw [if_neg (by have := hv.1; omega)])).symm
    · have hs8 : s < 8 := Nat.lt_of_lt_of_le hs hv.1
      have := hc.2.2.2 s hs
      simp only [if_neg (show ¬ s = 48 by omega), if_neg (show ¬ 8 + s = 48 by omega), if_neg (show ¬ 16 + s = 48 by omega), if_neg (show ¬ 24 + s = 48 by omega), if_neg (show ¬ 32 + s = 48 by omega)]
      exact this
    · show upd (A 66) 48 (nI v) 49 = nI (t 49)
      exact hm.1
    · have hs8 : s < 8 := Nat.lt_of_lt_of_le hs hv.1
      show upd (A 66) 48 (nI v) (8 * r + s) = nI (if 8 * r + s = 48 then v else t (8 * r + s))
      rw [if_neg (by omega)]
      unfold upd
      rw [if_neg (by omega)]
      exact hm.2.2 r hr s hs
  · have f9 : f_X9_home x1 (I 1 7) (A 64) = some (-1, I 1 7, upd (A 64) 1 (A 64 1 + 1)) := by
      unfold f_X9_home
      rw [f9_isCorner, Option.bind_some, if_pos (b2_0.mpr hx), rf9_1]; rfl
    refine ⟨_, f9, ?_⟩
    have f10 : ∀ w r : Nat → Int32, f_X10_home x1 w r = some (-1, w, upd r 1 (r 1 + 1)) := fun w r => by
      unfold f_X10_home
      rw [f10_isCorner, Option.bind_some, if_pos (b2_0.mpr hx), rf10_1]; rfl
    exact ⟨_, f10 _ _, rfl, t, k, h1, h2, h3, h4.up (by decide), h5, h6, h7, h8⟩
