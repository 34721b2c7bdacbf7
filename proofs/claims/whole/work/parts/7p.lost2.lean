/-! lost -/
theorem f9_orL {d : Nat} (h1 : 1 ≤ d) (hd : d < 2 ^ 62) : (if (0 : Int32) ≤ lg_cmp (lN d) (1 : Int64) then lN d else (1 : Int64)) = lN d := by
  have : (0 : Int32) ≤ lg_cmp (lN d) (1 : Int64) := by
    unfold lg_cmp
    by_cases a : (1 : Int64) < lN d
    · rw [if_pos a]; decide
    · rw [if_neg a]
      have : d = 1 := by
        have : ¬ 1 < d := fun q => a ((pk_lLT (a := 1) (by decide) (by omega)).mpr q)
        omega
      rw [this]; decide
  rw [if_pos this]
theorem rl10 {k : Nat} (hk : 1 ≤ k) (hk6 : k ≤ 6) {x : Int32} (hx : x = -nI k) (r : Nat → Int32) : f_X10_refusedLong x r = some ((4000000000000000000 : Int64) - Int32.toInt64 x, upd r k (r k + 1)) := by
  unfold f_X10_refusedLong
  rw [f10_refused hk hk6 hx r, Option.bind_some]
theorem pm_lost {A I : Nat → Nat → Int32} (hI : Inv A I) {N : Nat} (hN : 8000000 ≤ N) (x1 x2 x3 : Int32) : ∃ oc, f_X9_lost N x1 x2 x3 (I 1 5) (I 1 6) (I 1 7) (A 2) (A 3) (A 4) (A 5) (A 6) (I 7 5) (I 7 6) (I 7 7) (A 8) (A 9) (A 10) (A 11) (A 12) (I 29 3) (I 29 4) (I 29 5) (I 31 5) (I 31 6) (I 31 7) (A 32) (A 33) (A 34) (A 35) (A 36) (A 37) (A 38) (A 39) (A 40) (A 41) (A 42) (A 43) (A 44) (A 45) (A 64) = some oc ∧ ∃ om, f_X10_lost N x1 x2 x3 ((uA_X9_lost A I oc) 66) ((uA_X9_lost A I oc) 68) ((uA_X9_lost A I oc) 69) ((uA_X9_lost A I oc) 73) = some om ∧ oc.1 = om.1 ∧ Inv (uA_X10_lost (uA_X9_lost A I oc) (uI_X9_lost A I oc) om) (uI_X10_lost (uA_X9_lost A I oc) (uI_X9_lost A I oc) om) := by
  obtain ⟨t, k, h1, h2, h3, h4, h5, h6, h7, h8⟩ := hI
  obtain ⟨hv, hc, hm⟩ := id h1
  have t8 := hv.1
  have hin : f_X10_in (Int32.toInt64 x3) (0 : Int64) (1 : Int64) = some (b2 (0 ≤ x3.toInt ∧ x3.toInt ≤ 1)) := in_neg (by rw [t64]; exact Iff.rfl)
  have i0 : x1 < 0 ↔ x1.toInt < 0 := by rw [i32_lt]; exact Iff.rfl
  have i2 : (2 : Int32) ≤ x2 ↔ 2 ≤ x2.toInt := by rw [i32_le]; exact Iff.rfl
  have i9 : (9999 : Int32) < x1 ↔ 9999 < x1.toInt := by rw [i32_lt]; exact Iff.rfl
  have i20 : x2 ≤ (20 : Int32) ↔ x2.toInt ≤ 20 := by rw [i32_le]; exact Iff.rfl
  by_cases ha : x1.toInt < 0 ∨ x2.toInt < 2
  · have f9 : f_X9_lost N x1 x2 x3 (I 1 5) (I 1 6) (I 1 7) (A 2) (A 3) (A 4) (A 5) (A 6) (I 7 5) (I 7 6) (I 7 7) (A 8) (A 9) (A 10) (A 11) (A 12) (I 29 3) (I 29 4) (I 29 5) (I 31 5) (I 31 6) (I 31 7) (A 32) (A 33) (A 34) (A 35) (A 36) (A 37) (A 38) (A 39) (A 40) (A 41) (A 42) (A 43) (A 44) (A 45) (A 64) = some ((4000000000000000000 : Int64) - Int32.toInt64 (-4 : Int32), I 7 5, I 7 6, I 7 7, A 8, A 9, A 10, A 11, A 12, I 29 3, I 29 4, I 29 5, I 31 5, I 31 6, I 31 7, A 32, A 33, A 34, A 35, A 36, A 37, A 38, A 39, A 40, A 41, A 42, A 43, A 44, A 45, upd (A 64) 4 (A 64 4 + 1)) := by
      unfold f_X9_lost f_X9_lost_j1
      rw [rf9_4, Option.bind_some]
      by_cases z : x1 < 0
      · rw [if_pos z]
      · rw [if_neg z, if_neg (fun q => by have := i2.mp q; have : ¬ x1.toInt < 0 := fun w => z (i0.mpr w); omega)]
    refine ⟨_, f9, ?_⟩
    have f10 : ∀ r : Nat → Int32, f_X10_lost N x1 x2 x3 (A 66) (A 68) r (A 73) = some ((4000000000000000000 : Int64) - Int32.toInt64 (-4 : Int32), A 68, upd r 4 (r 4 + 1), A 73) := fun r => by
      unfold f_X10_lost f_X10_lost_j1
      rw [rl10 (k := 4) (x := -4) (by decide) (by decide) rfl r, Option.bind_some]
      by_cases z : x1 < 0
      · rw [if_pos z]
      · rw [if_neg z, if_neg (fun q => by have := i2.mp q; have : ¬ x1.toInt < 0 := fun w => z (i0.mpr w); omega)]
    exact ⟨_, f10 _, rfl, t, k, h1, h2, h3, h4.up (by decide), h5, h6, h7, h8⟩
  · have z0 : ¬ x1 < 0 := fun q => ha (Or.inl (i0.mp q))
    have z2 : (2 : Int32) ≤ x2 := i2.mpr (by omega)
    by_cases hb : 9999 < x1.toInt ∨ 20 < x2.toInt
    · have f9 : f_X9_lost N x1 x2 x3 (I 1 5) (I 1 6) (I 1 7) (A 2) (A 3) (A 4) (A 5) (A 6) (I 7 5) (I 7 6) (I 7 7) (A 8) (A 9) (A 10) (A 11) (A 12) (I 29 3) (I 29 4) (I 29 5) (I 31 5) (I 31 6) (I 31 7) (A 32) (A 33) (A 34) (A 35) (A 36) (A 37) (A 38) (A 39) (A 40) (A 41) (A 42) (A 43) (A 44) (A 45) (A 64) = some ((4000000000000000000 : Int64) - Int32.toInt64 (-6 : Int32), I 7 5, I 7 6, I 7 7, A 8, A 9, A 10, A 11, A 12, I 29 3, I 29 4, I 29 5, I 31 5, I 31 6, I 31 7, A 32, A 33, A 34, A 35, A 36, A 37, A 38, A 39, A 40, A 41, A 42, A 43, A 44, A 45, upd (A 64) 6 (A 64 6 + 1)) := by
        unfold f_X9_lost f_X9_lost_j3
        rw [rf9_6, Option.bind_some, if_neg z0, if_pos z2]
        by_cases z : (9999 : Int32) < x1
        · rw [if_pos z]
        · rw [if_neg z, if_neg (fun q => by have := i20.mp q; have : ¬ 9999 < x1.toInt := fun w => z (i9.mpr w); omega)]
      refine ⟨_, f9, ?_⟩
      have f10 : ∀ r : Nat → Int32, f_X10_lost N x1 x2 x3 (A 66) (A 68) r (A 73) = some ((4000000000000000000 : Int64) - Int32.toInt64 (-6 : Int32), A 68, upd r 6 (r 6 + 1), A 73) := fun r => by
        unfold f_X10_lost f_X10_lost_j3
        rw [rl10 (k := 6) (x := -6) (by decide) (by decide) rfl r, Option.bind_some, if_neg z0, if_pos z2]
        by_cases z : (9999 : Int32) < x1
        · rw [if_pos z]
        · rw [if_neg z, if_neg (fun q => by have := i20.mp q; have : ¬ 9999 < x1.toInt := fun w => z (i9.mpr w); omega)]
      exact ⟨_, f10 _, rfl, t, k, h1, h2, h3, h4.up (by decide), h5, h6, h7, h8⟩
    · have z9 : ¬ (9999 : Int32) < x1 := fun q => hb (Or.inl (i9.mp q))
      have z20 : x2 ≤ (20 : Int32) := i20.mpr (by omega)
      by_cases hy : 0 ≤ x3.toInt ∧ x3.toInt ≤ 1
      · obtain ⟨n, hn, rfl⟩ := cin_nI (n := 10000) (x := x1) ⟨by omega, by omega⟩ (by decide)
        obtain ⟨T, hT, rfl⟩ := cin_nI (n := 21) (x := x2) ⟨by omega, by omega⟩ (by decide)
        have hT2 : 2 ≤ T := by
          have h := ha
          rw [nI_toInt (show T < 2 ^ 31 by omega)] at h
          omega
        have n01 : x3 = 0 ∨ x3 = 1 := by
          obtain ⟨j, hj, rfl⟩ := cin_nI (n := 2) (x := x3) ⟨hy.1, by omega⟩ (by decide)
          have : j = 0 ∨ j = 1 := by omega
          rcases this with rfl | rfl
          · exact Or.inl rfl
          · exact Or.inr rfl
        obtain ⟨z', e1, e2⟩ := f9_goodOdds hv hc (show n ≤ 9999 by omega) hT2 (show T ≤ 20 by omega) (I 7 5, I 7 6, I 7 7, A 8, A 9, A 10, A 11, A 12, I 29 3, I 29 4, I 29 5, I 31 5, I 31 6, I 31 7, A 32, A 33, A 34, A 35, A 36, A 37, A 38, A 39, A 40, A 41, A 42, A 43, A 44, A 45) h8 (show 1000 ≤ N by omega)
        obtain ⟨x', y', e3⟩ := f10_odds (x := A 68) (lf := A 73) hv hm (show n ≤ 9999 by omega) hT2 (show T ≤ 20 by omega) hN
        have e4 := f10_mayAll hv hm (show T ≤ 20 by omega) (show 100 ≤ N by omega)
        have hkM : kM t ≤ 6 := by unfold kM; split <;> omega
        have hcn : cnt (opS t) (kM t) ≤ 6 := Nat.le_trans (cnt_le _ _) hkM
        have gl := gdN_le t (M := bS (opS t) (kM t)) (n := n) (show T ≤ 20 by omega) 64
        have pl := (pw_le (show T ≤ 20 by omega) hcn).2
        have pp : 0 < T ^ cnt (opS t) (kM t) := Nat.pow_pos (by omega)
        generalize hG : gdN t (bS (opS t) (kM t)) n T 64 = G at e1 e3 gl
        generalize hAl : T ^ cnt (opS t) (kM t) = Al at e4 pl pp
        have g9 := f9_gcd 31 G Al 0 N (by omega) (by omega) (by decide) (by decide) (by omega)
        have g10 := f10_gcd 31 G Al N (by omega) (by omega) (by decide) (by omega)
        have gcp' : 0 < Nat.gcd G Al := Nat.gcd_pos_of_pos_right _ pp
        have gcl : Nat.gcd G Al ≤ Al := Nat.gcd_le_right _ pp
        have f10 : ∀ r : Nat → Int32, f_X10_lost N (nI n) (nI T) x3 (A 66) (A 68) r (A 73) = some (lN ((if x3 = 0 then G else Al) / Nat.gcd G Al), x', r, y') := fun r => by
          unfold f_X10_lost
          rw [if_neg z0, if_pos z2, if_neg z9, if_pos z20, hin, Option.bind_some, if_neg (fun q => b2_0.mp q hy), e4, Option.bind_some]
          dsimp only
          rw [e3, Option.bind_some]
          dsimp only
          unfold f_X10_lowest
          rw [g10, Option.bind_some, gdl_ok (by omega) (by omega)]
          rcases n01 with w | w
          · rw [if_pos w, if_pos w, pk_lDiv (by omega) (by omega) (by omega), Option.bind_some]
          · rw [if_neg (by rw [w]; decide), if_neg (by rw [w]; decide), pk_lDiv (by omega) (by omega) (by omega), Option.bind_some]
        have f9 : f_X9_lost N (nI n) (nI T) x3 (I 1 5) (I 1 6) (I 1 7) (A 2) (A 3) (A 4) (A 5) (A 6) (I 7 5) (I 7 6) (I 7 7) (A 8) (A 9) (A 10) (A 11) (A 12) (I 29 3) (I 29 4) (I 29 5) (I 31 5) (I 31 6) (I 31 7) (A 32) (A 33) (A 34) (A 35) (A 36) (A 37) (A 38) (A 39) (A 40) (A 41) (A 42) (A 43) (A 44) (A 45) (A 64) = some (lN ((if x3 = 0 then G else Al) / Nat.gcd G Al), z'.1, z'.2.1, z'.2.2.1, z'.2.2.2.1, z'.2.2.2.2.1, z'.2.2.2.2.2.1, z'.2.2.2.2.2.2.1, z'.2.2.2.2.2.2.2.1, z'.2.2.2.2.2.2.2.2.1, z'.2.2.2.2.2.2.2.2.2.1, z'.2.2.2.2.2.2.2.2.2.2.1, z'.2.2.2.2.2.2.2.2.2.2.2.1, z'.2.2.2.2.2.2.2.2.2.2.2.2.1, z'.2.2.2.2.2.2.2.2.2.2.2.2.2.1, z'.2.2.2.2.2.2.2.2.2.2.2.2.2.2.1, z'.2.2.2.2.2.2.2.2.2.2.2.2.2.2.2.1, z'.2.2.2.2.2.2.2.2.2.2.2.2.2.2.2.2.1, z'.2.2.2.2.2.2.2.2.2.2.2.2.2.2.2.2.2.1, z'.2.2.2.2.2.2.2.2.2.2.2.2.2.2.2.2.2.2.1, z'.2.2.2.2.2.2.2.2.2.2.2.2.2.2.2.2.2.2.2.1, z'.2.2.2.2.2.2.2.2.2.2.2.2.2.2.2.2.2.2.2.2.1, z'.2.2.2.2.2.2.2.2.2.2.2.2.2.2.2.2.2.2.2.2.2.1, z'.2.2.2.2.2.2.2.2.2.2.2.2.2.2.2.2.2.2.2.2.2.2.1, z'.2.2.2.2.2.2.2.2.2.2.2.2.2.2.2.2.2.2.2.2.2.2.2.1, z'.2.2.2.2.2.2.2.2.2.2.2.2.2.2.2.2.2.2.2.2.2.2.2.2.1, z'.2.2.2.2.2.2.2.2.2.2.2.2.2.2.2.2.2.2.2.2.2.2.2.2.2.1, z'.2.2.2.2.2.2.2.2.2.2.2.2.2.2.2.2.2.2.2.2.2.2.2.2.2.2.1, z'.2.2.2.2.2.2.2.2.2.2.2.2.2.2.2.2.2.2.2.2.2.2.2.2.2.2.2, A 64) := by
          have j5 : f_X9_lost_j5 N (A 64) (I 1 5) (I 1 6) (nI n) (nI T) (I 1 7) (A 2) (A 3) (A 4) (A 5) (A 6) (I 7 5) (I 7 6) (I 7 7) (A 8) (A 9) (A 10) (A 11) (A 12) (I 29 3) (I 29 4) (I 29 5) (I 31 5) (I 31 6) (I 31 7) (A 32) (A 33) (A 34) (A 35) (A 36) (A 37) (A 38) (A 39) (A 40) (A 41) (A 42) (A 43) (A 44) (A 45) x3 = some (lN ((if x3 = 0 then G else Al) / Nat.gcd G Al), z'.1, z'.2.1, z'.2.2.1, z'.2.2.2.1, z'.2.2.2.2.1, z'.2.2.2.2.2.1, z'.2.2.2.2.2.2.1, z'.2.2.2.2.2.2.2.1, z'.2.2.2.2.2.2.2.2.1, z'.2.2.2.2.2.2.2.2.2.1, z'.2.2.2.2.2.2.2.2.2.2.1, z'.2.2.2.2.2.2.2.2.2.2.2.1, z'.2.2.2.2.2.2.2.2.2.2.2.2.1, z'.2.2.2.2.2.2.2.2.2.2.2.2.2.1, z'.2.2.2.2.2.2.2.2.2.2.2.2.2.2.1, z'.2.2.2.2.2.2.2.2.2.2.2.2.2.2.2.1, z'.2.2.2.2.2.2.2.2.2.2.2.2.2.2.2.2.1, z'.2.2.2.2.2.2.2.2.2.2.2.2.2.2.2.2.2.1, z'.2.2.2.2.2.2.2.2.2.2.2.2.2.2.2.2.2.2.1, z'.2.2.2.2.2.2.2.2.2.2.2.2.2.2.2.2.2.2.2.1, z'.2.2.2.2.2.2.2.2.2.2.2.2.2.2.2.2.2.2.2.2.1, z'.2.2.2.2.2.2.2.2.2.2.2.2.2.2.2.2.2.2.2.2.2.1, z'.2.2.2.2.2.2.2.2.2.2.2.2.2.2.2.2.2.2.2.2.2.2.1, z'.2.2.2.2.2.2.2.2.2.2.2.2.2.2.2.2.2.2.2.2.2.2.2.1, z'.2.2.2.2.2.2.2.2.2.2.2.2.2.2.2.2.2.2.2.2.2.2.2.2.1, z'.2.2.2.2.2.2.2.2.2.2.2.2.2.2.2.2.2.2.2.2.2.2.2.2.2.1, z'.2.2.2.2.2.2.2.2.2.2.2.2.2.2.2.2.2.2.2.2.2.2.2.2.2.2.1, z'.2.2.2.2.2.2.2.2.2.2.2.2.2.2.2.2.2.2.2.2.2.2.2.2.2.2.2, A 64) := by
            unfold f_X9_lost_j5
            rw [f7_openStreets hv hc, Option.bind_some, show nI (bS (opS t) (t 49)) &&& (63 : Int32) = nI (bS (opS t) (kM t)) by rw [← may_eq]; exact xI_and _ 63, e1, Option.bind_some]
            dsimp only
            by_cases G0 : G = 0
            · rw [if_pos ((lgcN (by omega)).mpr G0), G0, Nat.gcd_zero_left]
              rcases n01 with w | w
              · rw [w, if_pos rfl, Nat.zero_div]; rfl
              · rw [w, if_neg (show ¬ (1 : Int32) = 0 by decide), Nat.div_self pp]; rfl
            · rw [if_neg (fun q => G0 ((lgcN (by omega)).mp q)), bitCount_bS (opS t) (show kM t ≤ 8 by omega), Option.bind_some, nI_l (by omega), f9_power _ _ (by omega) (by omega), Option.bind_some, hAl]
              unfold f_X9_commonDivisor
              rw [show lp (fun s_9 : Int64 × Int64 × Int32 => f_X9_commonDivisor_b9 s_9.2.2 s_9.1 s_9.2.1) N (lN G, lN Al, (0 : Int32)) = some (lN (Nat.gcd G Al)) from g9, Option.bind_some, Option.bind_some, f9_orL (by omega) (by omega), gdl_ok (by omega) (by omega)]
              rcases n01 with w | w
              · rw [if_pos w, if_pos w, pk_lDiv (by omega) (by omega) (by omega)]
              · rw [if_neg (by rw [w]; decide), if_neg (by rw [w]; decide), pk_lDiv (by omega) (by omega) (by omega)]
          unfold f_X9_lost
          rw [if_neg z0, if_pos z2, if_neg z9, if_pos z20, j5]
          rcases n01 with w | w
          · rw [if_pos w]
          · rw [if_neg (by rw [w]; decide), if_pos w]
        exact ⟨_, f9, _, f10 _, rfl, t, k, h1, h2, h3, h4, h5, h6, h7, e2⟩
      · have n0 : ¬ x3 = 0 := fun q => hy (by rw [q]; decide)
        have n1 : ¬ x3 = 1 := fun q => hy (by rw [q]; decide)
        have f9 : f_X9_lost N x1 x2 x3 (I 1 5) (I 1 6) (I 1 7) (A 2) (A 3) (A 4) (A 5) (A 6) (I 7 5) (I 7 6) (I 7 7) (A 8) (A 9) (A 10) (A 11) (A 12) (I 29 3) (I 29 4) (I 29 5) (I 31 5) (I 31 6) (I 31 7) (A 32) (A 33) (A 34) (A 35) (A 36) (A 37) (A 38) (A 39) (A 40) (A 41) (A 42) (A 43) (A 44) (A 45) (A 64) = some ((4000000000000000000 : Int64) - Int32.toInt64 (-2 : Int32), I 7 5, I 7 6, I 7 7, A 8, A 9, A 10, A 11, A 12, I 29 3, I 29 4, I 29 5, I 31 5, I 31 6, I 31 7, A 32, A 33, A 34, A 35, A 36, A 37, A 38, A 39, A 40, A 41, A 42, A 43, A 44, A 45, upd (A 64) 2 (A 64 2 + 1)) := by
          unfold f_X9_lost
          rw [if_neg z0, if_pos z2, if_neg z9, if_pos z20, if_neg n0, if_neg n1, rf9_2, Option.bind_some]
        refine ⟨_, f9, ?_⟩
        have f10 : ∀ r : Nat → Int32, f_X10_lost N x1 x2 x3 (A 66) (A 68) r (A 73) = some ((4000000000000000000 : Int64) - Int32.toInt64 (-2 : Int32), A 68, upd r 2 (r 2 + 1), A 73) := fun r => by
          unfold f_X10_lost
          rw [if_neg z0, if_pos z2, if_neg z9, if_pos z20, hin, Option.bind_some, if_pos (b2_0.mpr hy), rl10 (k := 2) (x := -2) (by decide) (by decide) rfl r, Option.bind_some]
        exact ⟨_, f10 _, rfl, t, k, h1, h2, h3, h4.up (by decide), h5, h6, h7, h8⟩
