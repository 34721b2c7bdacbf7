/-! spliced -/
theorem f10_matchesR {t : Nat → Nat} {w d pa : Nat → Int32} (hv : vT t) (h : mR t w) {N : Nat} (hN : 100 ≤ N) : ∃ x p, f_X10_matches N d pa w = some (toldC (B2 (dst t (sC t)) (bS (oddC t) 6)), x, p) ∧ RI x (dst t (sC t)) ∧ ∀ q, q < 6 → p q = if B2 (dst t (sC t)) (bS (oddC t) 6) < 1000000 then mt (dst t (sC t)) (bS (oddC t) 6) (fun _ => -9) q else -9 := by
  obtain ⟨x, m1, m2⟩ := f10_measures (d := d) hv h hN
  have hS : bS (oddC t) 6 < 64 := bS_lt (oddC t) 6
  have hD := Bd_dst t (sC t)
  obtain ⟨p0, e1, e2⟩ := lp_cnt (b := fun s : Int32 × (Nat → Int32) => f_X10_matches_b7 s.1 s.2) (fun i y => (nI i, y)) (fun i y => ∀ q, q < i → y q = -9) (fun y => ∀ q, q < 6 → y q = -9) 6 (fun i y hi hp => by
    refine ⟨upd y i (-9), ?_, fun q hq => ?_⟩
    · show f_X10_matches_b7 (nI i) y = _
      unfold f_X10_matches_b7
      rw [if_neg (show ¬ (6 : Int32) ≤ nI i from nI_ge (b := 6) hi (by decide)), ga_ok hi (by decide), nI_clamp (by omega), nI_1]
    · by_cases e : q = i
      · subst e; rw [pk_us]
      · rw [pk_un e]; exact hp q (by omega)) (fun y hp => by
    refine ⟨y, ?_, hp⟩
    show f_X10_matches_b7 (nI 6) y = _
    unfold f_X10_matches_b7
    rw [if_pos (show (6 : Int32) ≤ nI 6 from nI_le (a := 6) (Nat.le_refl _) (by decide))]) 6 0 N pa (by omega) (by omega) (fun q hq => absurd hq (by omega))
  have e1' : lp (fun s_7 => f_X10_matches_b7 s_7.1 s_7.2) N ((0 : Int32), pa) = some p0 := e1
  have hpc := pcS_le (bS (oddC t) 6)
  have hB := B2_le (dst t (sC t)) (bS (oddC t) 6)
  unfold f_X10_matches
  rw [m1, Option.bind_some, e1', Option.bind_some, f10_oddSet hv h hN, Option.bind_some, f10_byTwos m2 hD hN 8 _ hS (by omega), Option.bind_some]
  unfold toldC
  by_cases z : B2 (dst t (sC t)) (bS (oddC t) 6) < 1000000
  · rw [if_pos (show nI (B2 (dst t (sC t)) (bS (oddC t) 6)) < (1000000 : Int32) from nI_lt (b := 1000000) z (by decide)), f10_mt m2 hD hN 64 _ N p0 (by omega) hS (by omega) z, Option.bind_some, if_pos z]
    refine ⟨_, _, rfl, m2, fun q hq => ?_⟩
    rw [if_pos z]
    exact mt_congr 64 _ _ _ (by omega) hS z (fun p hp _ => e2 p hp) q hq
  · rw [if_neg (show ¬ nI (B2 (dst t (sC t)) (bS (oddC t) 6)) < (1000000 : Int32) from nI_nlt (b := 1000000) (by omega) (by omega)), if_neg z]
    refine ⟨_, _, rfl, m2, fun q hq => ?_⟩
    rw [if_neg z]
    exact e2 q hq
theorem pm_spliced {A I : Nat → Nat → Int32} (hI : Inv A I) {N : Nat} (hN : 8000000 ≤ N) (x1 : Int32) : ∃ oc, f_X9_spliced N x1 (I 1 5) (I 1 6) (I 1 7) (A 2) (A 3) (A 4) (A 5) (A 6) (I 20 5) (I 20 6) (I 20 7) (A 21) (A 22) (A 23) (A 24) (A 25) (A 26) (A 27) (A 28) (I 46 2) (A 47) (A 48) (I 49 2) (I 49 4) (A 50) (A 51) (A 52) (A 64) = some oc ∧ ∃ om, f_X10_spliced N x1 ((uI_X9_spliced A I oc) 65 16) ((uA_X9_spliced A I oc) 66) ((uA_X9_spliced A I oc) 69) ((uA_X9_spliced A I oc) 72) ((uA_X9_spliced A I oc) 75) ((uA_X9_spliced A I oc) 76) ((uA_X9_spliced A I oc) 77) ((uA_X9_spliced A I oc) 78) = some om ∧ oc.1 = om.1 ∧ Inv (uA_X10_spliced (uA_X9_spliced A I oc) (uI_X9_spliced A I oc) om) (uI_X10_spliced (uA_X9_spliced A I oc) (uI_X9_spliced A I oc) om) := by
  obtain ⟨t, k, h1, h2, h3, h4, h5, h6, h7, h8⟩ := hI
  obtain ⟨hv, hc, hm⟩ := id h1
  have h48 := hv.2.1
  have i1 : (-1 : Int32) ≤ x1 ↔ -1 ≤ x1.toInt := by rw [i32_le]; exact Iff.rfl
  by_cases hx : -1 ≤ x1.toInt
  · obtain ⟨f3, t3, l3, k3, g3, on3, bk3, least3, e1, e2, e3, e4⟩ := f8_learn (f2 := A 21) (t2 := A 22) (l2 := A 23) (k2 := A 24) (g2 := A 25) (on := A 26) (bk := A 27) (least := A 28) (c2 := I 20 5) (s2 := I 20 6) (h2 := I 20 7) (b := 0) hv hc (by decide) (show 100 ≤ N by omega)
    have e1' : f_X8_learn N (0 : Int32) (I 20 5) (I 20 6) (I 20 7) (A 21) (A 22) (A 23) (A 24) (A 25) (A 26) (A 27) (A 28) (I 1 5) (I 1 6) (I 1 7) (A 2) (A 3) (A 4) (A 5) (A 6) = _ := e1
    rw [cW_0] at e3 e4
    have hS : bS (oddC t) 6 < 64 := bS_lt (oddC t) 6
    obtain ⟨o, s1, s2, s3⟩ := f3_seek e4 (Bd_dst t (sC t)) (show 100 ≤ N by omega) hS (I 46 2) (A 47) (A 48)
    have sp : f_X9_seekPairs N (I 1 5) (I 1 6) (I 1 7) (A 2) (A 3) (A 4) (A 5) (A 6) (I 20 5) (I 20 6) (I 20 7) (A 21) (A 22) (A 23) (A 24) (A 25) (A 26) (A 27) (A 28) (I 46 2) (A 47) (A 48) = some (I 1 5, I 1 6, I 1 7, f3, t3, l3, k3, g3, on3, bk3, least3, o.1, o.2.1, o.2.2) := by
      unfold f_X9_seekPairs
      rw [e1', Option.bind_some, f7_oddCorners hv hc (by omega), Option.bind_some]
      show (f_X3_seek N (nI (bS (oddC t) 6)) (I 46 2) (A 47) (A 48) least3).bind _ = _
      rw [s1, Option.bind_some]
    obtain ⟨x, p, m1, m2, m3⟩ := f10_matchesR (d := A 72) (pa := A 75) hv hm (show 100 ≤ N by omega)
    have hBl := B2_le (dst t (sC t)) (bS (oddC t) 6)
    by_cases z : B2 (dst t (sC t)) (bS (oddC t) 6) < 1000000
    · obtain ⟨pm1, pm2⟩ := mt_PM 64 (bS (oddC t) 6) (fun _ => -9) (by omega) hS z (fun q _ => Or.inl rfl)
      have hpc := pcS_le (bS (oddC t) 6)
      have c0 : cnt (gtB (fun _ => (-9 : Int32))) 6 = 0 := by decide
      have sL := lyT_sum hv pm1 6 (Nat.le_refl _)
      obtain ⟨lf1, y1, y2⟩ := f5_lay (lf := A 50) (pa := o.2.2) hv e2 (fun s hs => (e3 s hs).1) (fun s hs => (e3 s hs).2) e4 pm1 (fun q hq => by rw [s3 q hq, if_pos z]) (show 100 ≤ N by omega)
      obtain ⟨l1, l2, y3, y4, y5⟩ := f10_lay (tm := A 76) (pa := p) hv hm m2 pm1 (fun q hq => by rw [m3 q hq, if_pos z]) (show 100 ≤ N by omega)
      obtain ⟨ps', lf', pt', co', y6, y7⟩ := f5_start (ps := I 49 2) (pt := A 51) (co := upd (A 52) 0 (nI (t 48))) hv e2 y2 (by omega) h48 pk_us (show 1000 ≤ N by omega)
      have hL1 : AL (upd (A 77) 0 (nI (t 48))) 0 [t 48] := fun j hj => by
        have : j = 0 := by simp at hj; exact hj
        subst this
        exact pk_us
      obtain ⟨tm', sp', pc', y8, y9⟩ := f10_turns hv hm (show 100 ≤ N by omega) 60 24 (lyT t (mt (dst t (sC t)) (bS (oddC t) 6) (fun _ => -9)) 6) [t 48] 0 N l2 (upd (A 77) 0 (nI (t 48))) (A 78) (by show 2 * _ + (1 - 0) ≤ 60; omega) (by omega) (by omega) (by show 1 + _ ≤ 25; omega) (by omega) (fun q hq => by rw [List.mem_singleton.mp hq]; exact h48) (fun j hj => absurd hj (by omega)) y5 hL1
      have ln := spF_len hv 24 (lyT t (mt (dst t (sC t)) (bS (oddC t) 6) (fun _ => -9)) 6) [t 48] (by omega) (by omega)
      rw [List.length_singleton] at ln
      generalize hLL : spF t 24 (lyT t (mt (dst t (sC t)) (bS (oddC t) 6) (fun _ => -9)) 6) [t 48] = L at *
      have sk : f_X5_seek N (I 49 2) (I 49 4) (A 50) (A 51) (A 52) (I 1 5) (I 1 6) (I 1 7) f3 t3 k3 on3 bk3 least3 o.2.2 = some (ps', nI L.length, lf', pt', co') := by
        unfold f_X5_seek
        rw [y1, Option.bind_some, ga_in (by decide), hc.2.1]
        exact (congrArg (fun q => Option.bind q _) y6).trans rfl
      have mk : f_X10_splices N (I 65 16) (A 72) (A 75) (A 76) (A 77) (A 78) (A 66) = some (1, nI L.length, x, p, tm', sp', pc') := by
        unfold f_X10_splices
        rw [m1, Option.bind_some]
        dsimp only
        rw [show toldC (B2 (dst t (sC t)) (bS (oddC t) 6)) = nI (B2 (dst t (sC t)) (bS (oddC t) 6)) from if_pos z, if_pos (nI_pos' (by omega)), y3, Option.bind_some, y4, Option.bind_some, ga_in (by decide), ga_in (by decide), show A 66 (Int32.toNatClampNeg (48 : Int32)) = nI (t 48) from hm.2.1]
        exact (congrArg (fun q => Option.bind q _) y8).trans rfl
      have core : ∃ v, f_X9_spliced N x1 (I 1 5) (I 1 6) (I 1 7) (A 2) (A 3) (A 4) (A 5) (A 6) (I 20 5) (I 20 6) (I 20 7) (A 21) (A 22) (A 23) (A 24) (A 25) (A 26) (A 27) (A 28) (I 46 2) (A 47) (A 48) (I 49 2) (I 49 4) (A 50) (A 51) (A 52) (A 64) = some (v, I 1 5, I 1 6, I 1 7, f3, t3, l3, k3, g3, on3, bk3, least3, o.1, o.2.1, o.2.2, ps', nI L.length, lf', pt', co', A 64) ∧ ∀ r : Nat → Int32, f_X10_spliced N x1 (I 65 16) (A 66) r (A 72) (A 75) (A 76) (A 77) (A 78) = some (v, nI L.length, r, x, p, tm', sp', pc') := by
        have c9 : f_X9_spliced N x1 (I 1 5) (I 1 6) (I 1 7) (A 2) (A 3) (A 4) (A 5) (A 6) (I 20 5) (I 20 6) (I 20 7) (A 21) (A 22) (A 23) (A 24) (A 25) (A 26) (A 27) (A 28) (I 46 2) (A 47) (A 48) (I 49 2) (I 49 4) (A 50) (A 51) (A 52) (A 64) = (if x1 = -1 then some (nI L.length, I 1 5, I 1 6, I 1 7, f3, t3, l3, k3, g3, on3, bk3, least3, o.1, o.2.1, o.2.2, ps', nI L.length, lf', pt', co', A 64) else (if nI L.length ≤ x1 then some ((-9 : Int32), I 1 5, I 1 6, I 1 7, f3, t3, l3, k3, g3, on3, bk3, least3, o.1, o.2.1, o.2.2, ps', nI L.length, lf', pt', co', A 64) else ga x1 32 (some (co' (Int32.toNatClampNeg x1), I 1 5, I 1 6, I 1 7, f3, t3, l3, k3, g3, on3, bk3, least3, o.1, o.2.1, o.2.2, ps', nI L.length, lf', pt', co', A 64)))) := by
          unfold f_X9_spliced
          rw [if_pos (i1.mpr hx), sp, Option.bind_some]
          dsimp only
          rw [s2, if_pos (show nI (B2 (dst t (sC t)) (bS (oddC t) 6)) < (1000000 : Int32) from nI_lt (b := 1000000) z (by decide)), sk, Option.bind_some]
        have m9 : ∀ r : Nat → Int32, f_X10_spliced N x1 (I 65 16) (A 66) r (A 72) (A 75) (A 76) (A 77) (A 78) = (if x1 = -1 then some (nI L.length, nI L.length, r, x, p, tm', sp', pc') else (if nI L.length ≤ x1 then some ((-9 : Int32), nI L.length, r, x, p, tm', sp', pc') else ga x1 26 (some (sp' (Int32.toNatClampNeg x1), nI L.length, r, x, p, tm', sp', pc')))) := fun r => by
          unfold f_X10_spliced
          rw [if_pos (i1.mpr hx), mk, Option.bind_some]
          dsimp only
          rw [if_neg (show ¬ (1 : Int32) = 0 by decide)]
        rw [c9]
        by_cases a : x1 = -1
        · exact ⟨nI L.length, by rw [if_pos a], fun r => by rw [m9, if_pos a]⟩
        · by_cases b : nI L.length ≤ x1
          · exact ⟨-9, by rw [if_neg a, if_pos b], fun r => by rw [m9, if_neg a, if_pos b]⟩
          · have b' : x1.toInt < L.length := by rw [i32_le, nI_toInt (by omega)] at b; omega
            have a' : x1.toInt ≠ -1 := fun w => a (i32_eq.mpr w)
            obtain ⟨j, hj, ej⟩ := cin_nI (n := L.length) (x := x1) ⟨by omega, b'⟩ (by omega)
            have v1 : co' j = nI (L.getD j 0) := by have := y7 j hj; rw [Nat.zero_add] at this; exact this
            have v2 : sp' j = nI (L.getD j 0) := by have := y9 j hj; rw [Nat.zero_add] at this; exact this
            refine ⟨nI (L.getD j 0), ?_, fun r => ?_⟩
            · rw [if_neg a, if_neg b, ej, ga_ok (by omega) (by decide), nI_clamp (by omega), v1]
            · rw [m9, if_neg a, if_neg b, ej, ga_ok (by omega) (by decide), nI_clamp (by omega), v2]
      obtain ⟨v, c1, c2⟩ := core
      exact ⟨_, c1, _, c2 _, rfl, t, k, h1, h2, h3, h4, h5, h6, h7, h8⟩
    · have f9 : f_X9_spliced N x1 (I 1 5) (I 1 6) (I 1 7) (A 2) (A 3) (A 4) (A 5) (A 6) (I 20 5) (I 20 6) (I 20 7) (A 21) (A 22) (A 23) (A 24) (A 25) (A 26) (A 27) (A 28) (I 46 2) (A 47) (A 48) (I 49 2) (I 49 4) (A 50) (A 51) (A 52) (A 64) = some (-9, I 1 5, I 1 6, I 1 7, f3, t3, l3, k3, g3, on3, bk3, least3, o.1, o.2.1, o.2.2, I 49 2, I 49 4, A 50, A 51, A 52, A 64) := by
        unfold f_X9_spliced
        rw [if_pos (i1.mpr hx), sp, Option.bind_some]
        dsimp only
        rw [s2, if_neg (show ¬ nI (B2 (dst t (sC t)) (bS (oddC t) 6)) < (1000000 : Int32) from nI_nlt (b := 1000000) (by omega) (by omega))]
      refine ⟨_, f9, ?_⟩
      have f10 : ∀ r : Nat → Int32, f_X10_spliced N x1 (I 65 16) (A 66) r (A 72) (A 75) (A 76) (A 77) (A 78) = some (-9, I 65 16, r, x, p, A 76, A 77, A 78) := fun r => by
        unfold f_X10_spliced f_X10_splices
        rw [if_pos (i1.mpr hx), m1, Option.bind_some]
        dsimp only
        rw [show toldC (B2 (dst t (sC t)) (bS (oddC t) 6)) = -9 from if_neg z, if_neg (show ¬ (0 : Int32) ≤ -9 by decide), Option.bind_some]
        dsimp only
        rw [if_pos rfl]
      exact ⟨_, f10 _, rfl, t, k, h1, h2, h3, h4, h5, h6, h7, h8⟩
  · have f9 : f_X9_spliced N x1 (I 1 5) (I 1 6) (I 1 7) (A 2) (A 3) (A 4) (A 5) (A 6) (I 20 5) (I 20 6) (I 20 7) (A 21) (A 22) (A 23) (A 24) (A 25) (A 26) (A 27) (A 28) (I 46 2) (A 47) (A 48) (I 49 2) (I 49 4) (A 50) (A 51) (A 52) (A 64) = some (-4, I 20 5, I 20 6, I 20 7, A 21, A 22, A 23, A 24, A 25, A 26, A 27, A 28, I 46 2, A 47, A 48, I 49 2, I 49 4, A 50, A 51, A 52, upd (A 64) 4 (A 64 4 + 1)) := by
      unfold f_X9_spliced
      rw [if_neg (fun q => hx (i1.mp q)), rf9_4, Option.bind_some]
    refine ⟨_, f9, ?_⟩
    have f10 : ∀ r : Nat → Int32, f_X10_spliced N x1 (I 65 16) (A 66) r (A 72) (A 75) (A 76) (A 77) (A 78) = some (-4, I 65 16, upd r 4 (r 4 + 1), A 72, A 75, A 76, A 77, A 78) := fun r => by
      unfold f_X10_spliced
      rw [if_neg (fun q => hx (i1.mp q)), rf10_4, Option.bind_some]
    exact ⟨_, f10 _, rfl, t, k, h1, h2, h3, h4.up (by decide), h5, h6, h7, h8⟩
