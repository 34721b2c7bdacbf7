theorem pm_count {A I : Nat → Nat → Int32} (hI : Inv A I) {N : Nat} (hN : 8000000 ≤ N) (x1 : Int32) : ∃ oc, f_X9_count N x1 (I 0 12) (I 1 5) (I 1 6) (I 1 7) (A 4) (A 5) (I 61 1) (A 64) = some oc ∧ ∃ om, f_X10_count N x1 ((uI_X9_count A I oc) 65 6) ((uI_X9_count A I oc) 65 8) ((uA_X9_count A I oc) 66) ((uA_X9_count A I oc) 69) = some om ∧ oc = om ∧ Inv (uA_X10_count (uA_X9_count A I oc) (uI_X9_count A I oc) om) (uI_X10_count (uA_X9_count A I oc) (uI_X9_count A I oc) om) := by
  obtain ⟨t, k, h1, h2, h3, h4, h5, h6, h7, h8⟩ := hI
  obtain ⟨hv, hc, hm⟩ := id h1
  obtain ⟨n5, hn5, e5, e5', hr5⟩ := id h5
  obtain ⟨n6, hn6, e6, e6', hr6⟩ := id h6
  have hin : f_X10_in (Int32.toInt64 x1) 11 16 = some (b2 (11 ≤ x1.toInt ∧ x1.toInt ≤ 16)) := in_neg (by rw [t64, show (11 : Int64).toInt = 11 from rfl, show (16 : Int64).toInt = 16 from rfl])
  have key : ∃ v, f_X9_count N x1 (I 0 12) (I 1 5) (I 1 6) (I 1 7) (A 4) (A 5) (I 61 1) (A 64) = some v ∧ f_X10_count N x1 (I 65 6) (I 65 8) (A 66) (A 69) = some v := by
    unfold f_X9_count f_X10_count
    by_cases x0 : x1 = 0
    · rw [if_pos x0, if_pos x0, ga_in (by decide)]
      exact ⟨_, rfl, congrArg some (hm.1.trans hc.1.symm)⟩
    · rw [if_neg x0, if_neg x0]
      by_cases x1' : x1 = 1
      · rw [if_pos x1', if_pos x1', f7_openStreets hv hc, f10_count1 hv hm (by omega)]
        exact ⟨_, rfl, rfl⟩
      · rw [if_neg x1', if_neg x1']
        by_cases x2 : x1 = 2
        · rw [if_pos x2, if_pos x2, f7_dueStreets hv hc (by omega), f10_due hv hm (by omega)]
          exact ⟨_, rfl, rfl⟩
        · rw [if_neg x2, if_neg x2]
          by_cases x3 : x1 = 3
          · rw [if_pos x3, if_pos x3, f7_lengths hv hc (by omega), f10_count3 hv hm (by omega)]
            exact ⟨_, rfl, rfl⟩
          · rw [if_neg x3, if_neg x3]
            by_cases x4 : x1 = 4
            · rw [if_pos x4, if_pos x4, ga_in (by decide)]
              exact ⟨_, rfl, congrArg some (hm.2.1.trans hc.2.1.symm)⟩
            · rw [if_neg x4, if_neg x4]
              by_cases x5 : x1 = 5
              · rw [if_pos x5, if_pos x5]
                exact ⟨_, rfl, congrArg some (e5'.trans e5.symm)⟩
              · rw [if_neg x5, if_neg x5]
                by_cases x6 : x1 = 6
                · rw [if_pos x6, if_pos x6]
                  exact ⟨_, rfl, congrArg some (e6'.trans e6.symm)⟩
                · rw [if_neg x6, if_neg x6, hin, Option.bind_some]
                  by_cases g : 11 ≤ x1.toInt ∧ x1.toInt ≤ 16
                  · obtain ⟨j, hj, rfl⟩ := cin_nI (x := x1) (n := 17) (by omega) (by decide)
                    rw [nI_toInt (by omega)] at g
                    have ej : nI j - 10 = nI (j - 10) := pk_sub (b := 10) (by omega)
                    rw [if_neg (show ¬ nI j < (11 : Int32) from nI_nlt (b := 11) (by omega) (by omega)), if_neg (show ¬ (16 : Int32) < nI j from nI_nlt (a := 16) (by omega) (by decide)), if_neg (fun z => b2_0.mp z (by rw [nI_toInt (by omega)]; omega)), ej, ga_ok (by omega) (by decide), ga_ok (by omega) (by decide), nI_clamp (by omega)]
                    exact ⟨_, rfl, congrArg some (h4 _ (by omega)).symm⟩
                  · rw [if_pos (b2_0.mpr g)]
                    refine ⟨-9, ?_, rfl⟩
                    by_cases g1 : x1 < (11 : Int32)
                    · rw [if_pos g1]
                    · rw [if_neg g1, if_pos (by
                        rw [i32_lt] at g1 ⊢
                        rw [show (11 : Int32).toInt = 11 from rfl] at g1
                        rw [show (16 : Int32).toInt = 16 from rfl]
                        omega)]
  obtain ⟨v, k1, k2⟩ := key
  exact ⟨v, k1, v, k2, rfl, t, k, h1, h2, h3, h4, h5, h6, h7, h8⟩
