/-! distances and corners -/
theorem cW_0 (t : Nat → Nat) : cW t 0 = sC t := by funext e; exact if_pos rfl
theorem pm_distance {A I : Nat → Nat → Int32} (hI : Inv A I) {N : Nat} (hN : 8000000 ≤ N) (x1 x2 : Int32) : ∃ oc, f_X9_distance N x1 x2 (I 1 5) (I 1 6) (I 1 7) (A 2) (A 3) (A 4) (A 5) (A 6) (I 20 5) (I 20 6) (I 20 7) (A 21) (A 22) (A 23) (A 24) (A 25) (A 26) (A 27) (A 28) (A 64) = some oc ∧ ∃ om, f_X10_distance N x1 x2 ((uA_X9_distance A I oc) 66) ((uA_X9_distance A I oc) 69) ((uA_X9_distance A I oc) 72) = some om ∧ oc.1 = om.1 ∧ Inv (uA_X10_distance (uA_X9_distance A I oc) (uI_X9_distance A I oc) om) (uI_X10_distance (uA_X9_distance A I oc) (uI_X9_distance A I oc) om) := by
  obtain ⟨t, k, h1, h2, h3, h4, h5, h6, h7, h8⟩ := hI
  obtain ⟨hv, hc, hm⟩ := id h1
  by_cases hx : 0 ≤ x1.toInt ∧ x1.toInt < 6
  · by_cases hy : 0 ≤ x2.toInt ∧ x2.toInt < 6
    · obtain ⟨a, ha, rfl⟩ := cin_nI (n := 6) hx (by decide)
      obtain ⟨b, hb, rfl⟩ := cin_nI (n := 6) hy (by decide)
      obtain ⟨f3, t3, l3, k3, g3, on3, bk3, least3, e1, e2, e3, e4⟩ := f8_learn (f2 := A 21) (t2 := A 22) (l2 := A 23) (k2 := A 24) (g2 := A 25) (on := A 26) (bk := A 27) (least := A 28) (c2 := I 20 5) (s2 := I 20 6) (h2 := I 20 7) (b := 0) hv hc (by decide) (show 100 ≤ N by omega)
      have e1' : f_X8_learn N (0 : Int32) (I 20 5) (I 20 6) (I 20 7) (A 21) (A 22) (A 23) (A 24) (A 25) (A 26) (A 27) (A 28) (I 1 5) (I 1 6) (I 1 7) (A 2) (A 3) (A 4) (A 5) (A 6) = _ := e1
      rw [cW_0] at e4
      have hd := Bd_dst t (sC t) (6 * a + b) (by omega)
      have f9 : f_X9_distance N (nI a) (nI b) (I 1 5) (I 1 6) (I 1 7) (A 2) (A 3) (A 4) (A 5) (A 6) (I 20 5) (I 20 6) (I 20 7) (A 21) (A 22) (A 23) (A 24) (A 25) (A 26) (A 27) (A 28) (A 64) = some (toldC (dst t (sC t) (6 * a + b)), I 1 5, I 1 6, I 1 7, f3, t3, l3, k3, g3, on3, bk3, least3, A 64) := by
        unfold f_X9_distance
        rw [f9_isCorner, Option.bind_some, if_neg (fun z => b2_0.mp z hx), f9_isCorner, Option.bind_some, if_neg (fun z => b2_0.mp z hy), e1', Option.bind_some]
        show (f_X8_between (nI a) (nI b) least3).bind _ = _
        rw [f8_between e4 ha hb, Option.bind_some, f9_orNone (by omega), Option.bind_some]
      refine ⟨_, f9, ?_⟩
      have f10 : ∀ d r : Nat → Int32, ∃ x, f_X10_distance N (nI a) (nI b) (A 66) r d = some (toldC (dst t (sC t) (6 * a + b)), r, x) := fun d r => by
        obtain ⟨x, m1, m2⟩ := f10_measures (d := d) hv hm (show 100 ≤ N by omega)
        refine ⟨x, ?_⟩
        unfold f_X10_distance
        rw [f10_isCorner, Option.bind_some, if_neg (fun z => b2_0.mp z hx), f10_isCorner, Option.bind_some, if_neg (fun z => b2_0.mp z hy), m1, Option.bind_some, f10_dist m2 ha hb, Option.bind_some]
        unfold toldC
        by_cases q : dst t (sC t) (6 * a + b) < 1000000
        · rw [if_neg (show ¬ (1000000 : Int32) ≤ nI (dst t (sC t) (6 * a + b)) from nI_ge (b := 1000000) q (by decide)), if_pos q]; rfl
        · rw [if_pos (show (1000000 : Int32) ≤ nI (dst t (sC t) (6 * a + b)) from nI_le (a := 1000000) (by omega) (by omega)), if_neg q]
      obtain ⟨x, f10⟩ := f10 (A 72) (A 69)
      exact ⟨_, f10, rfl, t, k, h1, h2, h3, h4, h5, h6, h7, h8⟩
    · have f9 : f_X9_distance N x1 x2 (I 1 5) (I 1 6) (I 1 7) (A 2) (A 3) (A 4) (A 5) (A 6) (I 20 5) (I 20 6) (I 20 7) (A 21) (A 22) (A 23) (A 24) (A 25) (A 26) (A 27) (A 28) (A 64) = some (-1, I 20 5, I 20 6, I 20 7, A 21, A 22, A 23, A 24, A 25, A 26, A 27, A 28, upd (A 64) 1 (A 64 1 + 1)) := by
        unfold f_X9_distance f_X9_distance_j2
        rw [f9_isCorner, Option.bind_some, if_neg (fun z => b2_0.mp z hx), f9_isCorner, Option.bind_some, if_pos (b2_0.mpr hy), rf9_1]; rfl
      refine ⟨_, f9, ?_⟩
      have f10 : ∀ d r : Nat → Int32, f_X10_distance N x1 x2 (A 66) r d = some (-1, upd r 1 (r 1 + 1), d) := fun d r => by
        unfold f_X10_distance f_X10_distance_j2
        rw [f10_isCorner, Option.bind_some, if_neg (fun z => b2_0.mp z hx), f10_isCorner, Option.bind_some, if_pos (b2_0.mpr hy), rf10_1]; rfl
      exact ⟨_, f10 _ _, rfl, t, k, h1, h2, h3, h4.up (by decide), h5, h6, h7, h8⟩
  · have f9 : f_X9_distance N x1 x2 (I 1 5) (I 1 6) (I 1 7) (A 2) (A 3) (A 4) (A 5) (A 6) (I 20 5) (I 20 6) (I 20 7) (A 21) (A 22) (A 23) (A 24) (A 25) (A 26) (A 27) (A 28) (A 64) = some (-1, I 20 5, I 20 6, I 20 7, A 21, A 22, A 23, A 24, A 25, A 26, A 27, A 28, upd (A 64) 1 (A 64 1 + 1)) := by
      unfold f_X9_distance f_X9_distance_j2
      rw [f9_isCorner, Option.bind_some, if_pos (b2_0.mpr hx), rf9_1]; rfl
    refine ⟨_, f9, ?_⟩
    have f10 : ∀ d r : Nat → Int32, f_X10_distance N x1 x2 (A 66) r d = some (-1, upd r 1 (r 1 + 1), d) := fun d r => by
      unfold f_X10_distance f_X10_distance_j2
      rw [f10_isCorner, Option.bind_some, if_pos (b2_0.mpr hx), rf10_1]; rfl
    exact ⟨_, f10 _ _, rfl, t, k, h1, h2, h3, h4.up (by decide), h5, h6, h7, h8⟩
/-- the corners that can be come to from a -/
def rea (t : Nat → Nat) (a b : Nat) : Bool := decide (dst t (sC t) (6 * a + b) < 1000000)
theorem reaStep (t : Nat → Nat) (a : Nat) {i : Nat} (hi : i < 6) (ha : a < 6) : ((1000000 : Int32) ≤ nI (dst t (sC t) (6 * a + i)) ↔ ¬ rea t a i = true) := by
  have hd := Bd_dst t (sC t) (6 * a + i) (by omega)
  unfold rea
  rw [decide_eq_true_iff, show (1000000 : Int32) = nI 1000000 from rfl, nI_leI (by decide) (by omega)]
  omega
theorem pm_corner {A I : Nat → Nat → Int32} (hI : Inv A I) {N : Nat} (hN : 8000000 ≤ N) (x1 x2 : Int32) : ∃ oc, f_X9_corner N x1 x2 (I 1 5) (I 1 6) (I 1 7) (A 2) (A 3) (A 4) (A 5) (A 6) (I 20 5) (I 20 6) (I 20 7) (A 21) (A 22) (A 23) (A 24) (A 25) (A 26) (A 27) (A 28) (A 64) = some oc ∧ ∃ om, f_X10_corner N x1 x2 ((uA_X9_corner A I oc) 66) ((uA_X9_corner A I oc) 69) ((uA_X9_corner A I oc) 72) = some om ∧ oc.1 = om.1 ∧ Inv (uA_X10_corner (uA_X9_corner A I oc) (uI_X9_corner A I oc) om) (uI_X10_corner (uA_X9_corner A I oc) (uI_X9_corner A I oc) om) := by
  obtain ⟨t, k, h1, h2, h3, h4, h5, h6, h7, h8⟩ := hI
  obtain ⟨hv, hc, hm⟩ := id h1
  have hin : f_X10_in (Int32.toInt64 x2) 0 2 = some (b2 (0 ≤ x2.toInt ∧ x2.toInt < 3)) := in_neg (by rw [t64, show (0 : Int64).toInt = 0 from rfl, show (2 : Int64).toInt = 2 from rfl]; omega)
  have e49 : Int32.toNatClampNeg (49 : Int32) = 49 := rfl
  have hn8 := hv.1
  by_cases hx : 0 ≤ x1.toInt ∧ x1.toInt < 6
  · by_cases hy : 0 ≤ x2.toInt ∧ x2.toInt < 3
    · obtain ⟨a, ha, rfl⟩ := cin_nI (n := 6) hx (by decide)
      obtain ⟨q, hq, rfl⟩ := cin_nI (n := 3) hy (by decide)
      have hq3 : q = 0 ∨ q = 1 ∨ q = 2 := by omega
      rcases hq3 with rfl | rfl | rfl
      · have f9 : f_X9_corner N (nI a) (nI 0) (I 1 5) (I 1 6) (I 1 7) (A 2) (A 3) (A 4) (A 5) (A 6) (I 20 5) (I 20 6) (I 20 7) (A 21) (A 22) (A 23) (A 24) (A 25) (A 26) (A 27) (A 28) (A 64) = some (nI (deg t a), I 20 5, I 20 6, I 20 7, A 21, A 22, A 23, A 24, A 25, A 26, A 27, A 28, A 64) := by
          unfold f_X9_corner
          rw [f9_isCorner, Option.bind_some, if_neg (fun z => b2_0.mp z hx), if_pos (show nI 0 = (0 : Int32) from rfl), f7_degree hv hc ha (by omega)]; rfl
        refine ⟨_, f9, ?_⟩
        have f10 : ∀ d r : Nat → Int32, f_X10_corner N (nI a) (nI 0) (A 66) r d = some (nI (deg t a), r, d) := fun d r => by
          unfold f_X10_corner
          rw [f10_isCorner, Option.bind_some, if_neg (fun z => b2_0.mp z hx), hin, Option.bind_some, if_neg (fun z => b2_0.mp z hy), if_pos (show nI 0 = (0 : Int32) from rfl), f10_degree hv hm ha (by omega)]; rfl
        exact ⟨_, f10 _ _, rfl, t, k, h1, h2, h3, h4, h5, h6, h7, h8⟩
      · have f9 : f_X9_corner N (nI a) (nI 1) (I 1 5) (I 1 6) (I 1 7) (A 2) (A 3) (A 4) (A 5) (A 6) (I 20 5) (I 20 6) (I 20 7) (A 21) (A 22) (A 23) (A 24) (A 25) (A 26) (A 27) (A 28) (A 64) = some (nI (bS (tch t a) (t 49)), I 20 5, I 20 6, I 20 7, A 21, A 22, A 23, A 24, A 25, A 26, A 27, A 28, A 64) := by
          unfold f_X9_corner
          rw [f9_isCorner, Option.bind_some, if_neg (fun z => b2_0.mp z hx), if_neg (show ¬ nI 1 = (0 : Int32) by decide), if_pos (show nI 1 = (1 : Int32) from rfl), f7_streetsAt hv hc ha (by omega)]; rfl
        refine ⟨_, f9, ?_⟩
        have hl : lp (fun s_55 => f_X10_corner_b55 (A 66) s_55.2 s_55.1 (nI a)) N ((0 : Int32), (0 : Int32)) = some (nI (bS (tch t a) (t 49))) :=
          lp_seq (b := fun s => f_X10_corner_b55 (A 66) s.2 s.1 (nI a)) (fun i => (nI (bS (tch t a) i), nI i)) (nI (bS (tch t a) (t 49))) (t 49) (fun i hi => by
            show f_X10_corner_b55 (A 66) (nI i) (nI (bS (tch t a) i)) (nI a) = _
            have ho := hv.2.2.1 i hi
            have a0 : (0 : Int32) + nI i = nI (8 * 0 + i) := nI_add 0 _
            have a8 : (8 : Int32) + nI i = nI (8 * 1 + i) := nI_add 8 _
            have w0 : A 66 (8 * 0 + i) = nI (t i) := by rw [hm.2.2 0 (by decide) _ hi]; congr 2; omega
            have w8 : A 66 (8 * 1 + i) = nI (t (8 + i)) := hm.2.2 1 (by decide) _ hi
            have j0 : nI (t i) = nI a ↔ t i = a := nI_eq (by omega) (by omega)
            have j8 : nI (t (8 + i)) = nI a ↔ t (8 + i) = a := nI_eq (by omega) (by omega)
            unfold f_X10_corner_b55 f_X10_corner_j6
            rw [ga_in (by decide), e49, hm.1, if_neg (nI_ge hi (by omega)), a0, a8, ga_ok (by omega) (by decide), ga_ok (by omega) (by decide), nI_clamp (by omega), nI_clamp (by omega), w0, w8, nI_1, sh1 (by omega), xI_or, show (0 : Int32) = nI 0 from rfl, xI_or]
            simp only [j0, j8]
            rw [← bS_or]
            unfold tch
            by_cases q1 : t i = a
            · rw [if_pos q1]; simp [q1]
            · rw [if_neg q1]
              by_cases q2 : t (8 + i) = a
              · rw [if_pos q2]; simp [q2]
              · rw [if_neg q2]; simp [q1, q2]) (by
            show f_X10_corner_b55 (A 66) (nI (t 49)) (nI (bS (tch t a) (t 49))) (nI a) = _
            unfold f_X10_corner_b55
            rw [ga_in (by decide), e49, hm.1, if_pos (nI_le (Nat.le_refl _) (by omega))]) (t 49) 0 N (by omega) (by omega)
        have f10 : ∀ d r : Nat → Int32, f_X10_corner N (nI a) (nI 1) (A 66) r d = some (nI (bS (tch t a) (t 49)), r, d) := fun d r => by
          unfold f_X10_corner
          rw [f10_isCorner, Option.bind_some, if_neg (fun z => b2_0.mp z hx), hin, Option.bind_some, if_neg (fun z => b2_0.mp z hy), if_neg (show ¬ nI 1 = (0 : Int32) by decide), if_pos (show nI 1 = (1 : Int32) from rfl), hl]; rfl
        exact ⟨_, f10 _ _, rfl, t, k, h1, h2, h3, h4, h5, h6, h7, h8⟩
      · obtain ⟨f3, t3, l3, k3, g3, on3, bk3, least3, e1, e2, e3, e4⟩ := f8_learn (f2 := A 21) (t2 := A 22) (l2 := A 23) (k2 := A 24) (g2 := A 25) (on := A 26) (bk := A 27) (least := A 28) (c2 := I 20 5) (s2 := I 20 6) (h2 := I 20 7) (b := 0) hv hc (by decide) (show 100 ≤ N by omega)
        have e1' : f_X8_learn N (0 : Int32) (I 20 5) (I 20 6) (I 20 7) (A 21) (A 22) (A 23) (A 24) (A 25) (A 26) (A 27) (A 28) (I 1 5) (I 1 6) (I 1 7) (A 2) (A 3) (A 4) (A 5) (A 6) = _ := e1
        rw [cW_0] at e4
        have l9 : lp (fun s_16 => f_X9_cornersFrom_b16 s_16.2 s_16.1 (nI a) least3) N ((0 : Int32), (0 : Int32)) = some (nI (bS (rea t a) 6)) :=
          lp_seq (b := fun s => f_X9_cornersFrom_b16 s.2 s.1 (nI a) least3) (fun i => (nI (bS (rea t a) i), nI i)) (nI (bS (rea t a) 6)) 6 (fun i hi => by
            show f_X9_cornersFrom_b16 (nI i) (nI (bS (rea t a) i)) (nI a) least3 = _
            unfold f_X9_cornersFrom_b16
            rw [if_neg (show ¬ (6 : Int32) ≤ nI i from nI_ge (b := 6) hi (by decide)), f8_between e4 ha hi, Option.bind_some, nI_1, sh1 (by omega), xI_or, ← bS_or]
            by_cases d : rea t a i = true
            · rw [if_neg (fun z => (reaStep t a hi ha).mp z d), if_pos d]
            · rw [if_pos ((reaStep t a hi ha).mpr d), if_neg d, Nat.or_zero]) (by
            show f_X9_cornersFrom_b16 (nI 6) (nI (bS (rea t a) 6)) (nI a) least3 = _
            unfold f_X9_cornersFrom_b16
            rw [if_pos (show (6 : Int32) ≤ nI 6 from nI_le (a := 6) (Nat.le_refl _) (by decide))]) 6 0 N (by omega) (by omega)
        have f9 : f_X9_corner N (nI a) (nI 2) (I 1 5) (I 1 6) (I 1 7) (A 2) (A 3) (A 4) (A 5) (A 6) (I 20 5) (I 20 6) (I 20 7) (A 21) (A 22) (A 23) (A 24) (A 25) (A 26) (A 27) (A 28) (A 64) = some (nI (bS (rea t a) 6), I 1 5, I 1 6, I 1 7, f3, t3, l3, k3, g3, on3, bk3, least3, A 64) := by
          unfold f_X9_corner f_X9_cornersFrom
          rw [f9_isCorner, Option.bind_some, if_neg (fun z => b2_0.mp z hx), if_neg (show ¬ nI 2 = (0 : Int32) by decide), if_neg (show ¬ nI 2 = (1 : Int32) by decide), if_pos (show nI 2 = (2 : Int32) from rfl), e1', Option.bind_some]
          show ((lp (fun s_16 => f_X9_cornersFrom_b16 s_16.2 s_16.1 (nI a) least3) N ((0 : Int32), (0 : Int32))).bind _).bind _ = _
          rw [l9]; rfl
        refine ⟨_, f9, ?_⟩
        have f10 : ∀ d r : Nat → Int32, ∃ x, f_X10_corner N (nI a) (nI 2) (A 66) r d = some (nI (bS (rea t a) 6), r, x) := fun d r => by
          obtain ⟨x, m1, m2⟩ := f10_measures (d := d) hv hm (show 100 ≤ N by omega)
          have l10 : lp (fun s_124 => f_X10_corner_b124 s_124.2 s_124.1 (nI a) x) N ((0 : Int32), (0 : Int32)) = some (nI (bS (rea t a) 6)) :=
            lp_seq (b := fun s => f_X10_corner_b124 s.2 s.1 (nI a) x) (fun i => (nI (bS (rea t a) i), nI i)) (nI (bS (rea t a) 6)) 6 (fun i hi => by
              show f_X10_corner_b124 (nI i) (nI (bS (rea t a) i)) (nI a) x = _
              unfold f_X10_corner_b124
              rw [if_neg (show ¬ (6 : Int32) ≤ nI i from nI_ge (b := 6) hi (by decide)), f10_dist m2 ha hi, Option.bind_some, nI_1, sh1 (by omega), ← bS_or]
              by_cases d : rea t a i = true
              · rw [if_neg (fun z => (reaStep t a hi ha).mp z d), if_pos d, xI_or]
              · rw [if_pos ((reaStep t a hi ha).mpr d), if_neg d, show (0 : Int32) = nI 0 from rfl, xI_or]) (by
              show f_X10_corner_b124 (nI 6) (nI (bS (rea t a) 6)) (nI a) x = _
              unfold f_X10_corner_b124
              rw [if_pos (show (6 : Int32) ≤ nI 6 from nI_le (a := 6) (Nat.le_refl _) (by decide))]) 6 0 N (by omega) (by omega)
          refine ⟨x, ?_⟩
          unfold f_X10_corner
          rw [f10_isCorner, Option.bind_some, if_neg (fun z => b2_0.mp z hx), hin, Option.bind_some, if_neg (fun z => b2_0.mp z hy), if_neg (show ¬ nI 2 = (0 : Int32) by decide), if_neg (show ¬ nI 2 = (1 : Int32) by decide), m1, Option.bind_some, l10]; rfl
        obtain ⟨x, f10⟩ := f10 (A 72) (A 69)
        exact ⟨_, f10, rfl, t, k, h1, h2, h3, h4, h5, h6, h7, h8⟩
    · have n : ∀ i : Nat, i < 3 → ¬ x2 = nI i := fun i hi z => hy (by rw [z, nI_toInt (by omega)]; omega)
      have f9 : f_X9_corner N x1 x2 (I 1 5) (I 1 6) (I 1 7) (A 2) (A 3) (A 4) (A 5) (A 6) (I 20 5) (I 20 6) (I 20 7) (A 21) (A 22) (A 23) (A 24) (A 25) (A 26) (A 27) (A 28) (A 64) = some (-2, I 20 5, I 20 6, I 20 7, A 21, A 22, A 23, A 24, A 25, A 26, A 27, A 28, upd (A 64) 2 (A 64 2 + 1)) := by
        unfold f_X9_corner
        rw [f9_isCorner, Option.bind_some, if_neg (fun z => b2_0.mp z hx), if_neg (show ¬ x2 = 0 from n 0 (by decide)), if_neg (show ¬ x2 = 1 from n 1 (by decide)), if_neg (show ¬ x2 = 2 from n 2 (by decide)), rf9_2]; rfl
      refine ⟨_, f9, ?_⟩
      have f10 : ∀ d r : Nat → Int32, f_X10_corner N x1 x2 (A 66) r d = some (-2, upd r 2 (r 2 + 1), d) := fun d r => by
        unfold f_X10_corner
        rw [f10_isCorner, Option.bind_some, if_neg (fun z => b2_0.mp z hx), hin, Option.bind_some, if_pos (b2_0.mpr hy), rf10_2]; rfl
      exact ⟨_, f10 _ _, rfl, t, k, h1, h2, h3, h4.up (by decide), h5, h6, h7, h8⟩
  · have f9 : f_X9_corner N x1 x2 (I 1 5) (I 1 6) (I 1 7) (A 2) (A 3) (A 4) (A 5) (A 6) (I 20 5) (I 20 6) (I 20 7) (A 21) (A 22) (A 23) (A 24) (A 25) (A 26) (A 27) (A 28) (A 64) = some (-1, I 20 5, I 20 6, I 20 7, A 21, A 22, A 23, A 24, A 25, A 26, A 27, A 28, upd (A 64) 1 (A 64 1 + 1)) := by
      unfold f_X9_corner
      rw [f9_isCorner, Option.bind_some, if_pos (b2_0.mpr hx), rf9_1]; rfl
    refine ⟨_, f9, ?_⟩
    have f10 : ∀ d r : Nat → Int32, f_X10_corner N x1 x2 (A 66) r d = some (-1, upd r 1 (r 1 + 1), d) := fun d r => by
      unfold f_X10_corner
      rw [f10_isCorner, Option.bind_some, if_pos (b2_0.mpr hx), rf10_1]; rfl
    exact ⟨_, f10 _ _, rfl, t, k, h1, h2, h3, h4.up (by decide), h5, h6, h7, h8⟩
