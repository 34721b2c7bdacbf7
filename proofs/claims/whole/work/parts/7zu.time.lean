/-! time and rank -/
theorem rb10_3 (r : Nat → Int32) : f_X10_refusedBelow (-3) r = some ((-100000 : Int32) + (-3), upd r 3 (r 3 + 1)) := by
  unfold f_X10_refusedBelow
  rw [rf10_3]
  rfl
theorem pace_ok {x1 x2 : Int32} (h : ¬ (x1 = 0 ∧ x2 = 0)) : (FP.fdiv (FP.i2f x1) (FP.i2f x2)).toNat % 2 ^ 31 ≤ 2139095040 := by
  by_cases a : x1 = 0
  · have b : x2 ≠ 0 := fun b => h ⟨a, b⟩
    rw [a, i2f_0, zer_by (i2f_NR b) (by decide) (by decide)]
    cases (false != decide (x2.toInt < 0)) <;> decide +kernel
  · by_cases b : x2 = 0
    · rw [b, i2f_0, by_zer (i2f_NR a) (by decide) (by decide)]
      cases (decide (x1.toInt < 0) != false) <;> decide +kernel
    · exact NR_ok (pace_NR a b) (by decide)
theorem f10_tloop {t : Nat → Nat} {w st : Nat → Int32} {es : List Nat} (hv : vT t) (hm : mR t w) (h53 : es.length ≤ 53) (hmm : ∀ i, i < es.length → es.getD i 0 < 2 * t 49 ∧ sC t (es.getD i 0) < 1000000) (hst : ∀ i, i < es.length → st i = nI (es.getD i 0)) {x1 x2 : Int32} (ok : ∀ i, i < es.length → (FP.fdiv (FP.i2f (nI (sC t (es.getD i 0)))) (FP.fdiv (FP.i2f x1) (FP.i2f x2))).toNat % 2 ^ 31 ≤ 2139095040 ∧ (tS (fun i => sC t (es.getD i 0)) (FP.fdiv (FP.i2f x1) (FP.i2f x2)) (i + 1)).toNat % 2 ^ 31 ≤ 2139095040) {N : Nat} (hN : 100 ≤ N) : lp (fun s_12 : UInt32 × Int32 => f_X10_timeBy_b12 (nI es.length) s_12.2 s_12.1 st w x1 x2) N (FP.fconst0, (0 : Int32)) = some (tS (fun i => sC t (es.getD i 0)) (FP.fdiv (FP.i2f x1) (FP.i2f x2)) es.length) :=
  lp_seq (b := fun s_12 : UInt32 × Int32 => f_X10_timeBy_b12 (nI es.length) s_12.2 s_12.1 st w x1 x2) (fun i => (tS (fun i => sC t (es.getD i 0)) (FP.fdiv (FP.i2f x1) (FP.i2f x2)) i, nI i)) (tS (fun i => sC t (es.getD i 0)) (FP.fdiv (FP.i2f x1) (FP.i2f x2)) es.length) es.length (fun i hi => by
    show f_X10_timeBy_b12 (nI es.length) (nI i) (tS (fun i => sC t (es.getD i 0)) (FP.fdiv (FP.i2f x1) (FP.i2f x2)) i) st w x1 x2 = some (Sum.inl (tS (fun i => sC t (es.getD i 0)) (FP.fdiv (FP.i2f x1) (FP.i2f x2)) (i + 1), nI (i + 1)))
    obtain ⟨o1, o2⟩ := ok i hi
    have tl : toldC (sC t (es.getD i 0)) = nI (sC t (es.getD i 0)) := if_pos (hmm i hi).2
    unfold f_X10_timeBy_b12
    rw [tS_s] at o2
    rw [if_neg (nI_ge hi (by omega)), ga_ok (by omega) (by decide), nI_clamp (by omega), hst i hi, f10_cost hv hm (hmm i hi).1, Option.bind_some, tl, gf_ok o1, gf_ok o2, nI_1, tS_s]) (by
    show f_X10_timeBy_b12 (nI es.length) (nI es.length) _ st w x1 x2 = _
    unfold f_X10_timeBy_b12
    rw [if_pos (nI_le (Nat.le_refl _) (by omega))]) es.length 0 N (by omega) (by omega)
theorem f9_tloop {c : Nat → Nat} {n : Nat} {cs : Nat → Int32} (hn : n ≤ 53) (hcs : ∀ i, i < n → cs i = nI (c i)) {x1 x2 : Int32} (ok : ∀ i, i < n → (FP.fdiv (FP.i2f (nI (c i))) (FP.fdiv (FP.i2f x1) (FP.i2f x2))).toNat % 2 ^ 31 ≤ 2139095040 ∧ (tS c (FP.fdiv (FP.i2f x1) (FP.i2f x2)) (i + 1)).toNat % 2 ^ 31 ≤ 2139095040) {N : Nat} (hN : 100 ≤ N) : lp (fun s_55 : UInt32 × Int32 => f_X9_bitsOfTime_b55 (nI n) s_55.2 s_55.1 cs x1 x2) N (FP.fconst0, (0 : Int32)) = some (tS c (FP.fdiv (FP.i2f x1) (FP.i2f x2)) n) :=
  lp_seq (b := fun s_55 : UInt32 × Int32 => f_X9_bitsOfTime_b55 (nI n) s_55.2 s_55.1 cs x1 x2) (fun i => (tS c (FP.fdiv (FP.i2f x1) (FP.i2f x2)) i, nI i)) (tS c (FP.fdiv (FP.i2f x1) (FP.i2f x2)) n) n (fun i hi => by
    show f_X9_bitsOfTime_b55 (nI n) (nI i) (tS c (FP.fdiv (FP.i2f x1) (FP.i2f x2)) i) cs x1 x2 = some (Sum.inl (tS c (FP.fdiv (FP.i2f x1) (FP.i2f x2)) (i + 1), nI (i + 1)))
    obtain ⟨o1, o2⟩ := ok i hi
    unfold f_X9_bitsOfTime_b55
    rw [tS_s] at o2
    rw [if_neg (nI_ge hi (by omega)), ga_ok (by omega) (by decide), nI_clamp (by omega), hcs i hi, gf_ok o1, gf_ok o2, nI_1, tS_s]) (by
    show f_X9_bitsOfTime_b55 (nI n) (nI n) _ cs x1 x2 = _
    unfold f_X9_bitsOfTime_b55
    rw [if_pos (nI_le (Nat.le_refl _) (by omega))]) n 0 N (by omega) (by omega)
theorem tBn_is {t : Nat → Nat} {w st : Nat → Int32} {es : List Nat} (hv : vT t) (hm : mR t w) (h53 : es.length ≤ 53) (hmm : ∀ i, i < es.length → es.getD i 0 < 2 * t 49 ∧ sC t (es.getD i 0) < 1000000) (hst : ∀ i, i < es.length → st i = nI (es.getD i 0)) {N : Nat} (hN : 100 ≤ N) : tBn N (nI es.length) w st = some (if nI es.length ≤ 0 then (0 : UInt32) else 2143289344) := by
  have l := lp_seq (b := fun s_12 : Int32 => tBn_b12 (nI es.length) s_12 st w) (fun i => nI i) (nI es.length) es.length (fun i hi => by
    show tBn_b12 (nI es.length) (nI i) st w = some (Sum.inl (nI (i + 1)))
    unfold tBn_b12
    rw [if_neg (nI_ge hi (by omega)), ga_ok (by omega) (by decide), nI_clamp (by omega), hst i hi, f10_cost hv hm (hmm i hi).1, Option.bind_some, nI_1]) (by
    show tBn_b12 (nI es.length) (nI es.length) st w = _
    unfold tBn_b12
    rw [if_pos (nI_le (Nat.le_refl _) (by omega))]) es.length 0 N (by omega) (by omega)
  have l' : lp (fun s_12 : Int32 => tBn_b12 (nI es.length) s_12 st w) N (0 : Int32) = some (nI es.length) := l
  unfold tBn
  rw [l', Option.bind_some]
theorem okF_num {a : UInt32} (h : a.toNat % 2 ^ 31 ≤ 2139095040) (h0 : a.toNat ≠ 2147483648) : okF a := Or.inr ⟨h, h0⟩
theorem tB_num {t : Nat → Nat} {w st : Nat → Int32} {es : List Nat} (hv : vT t) (hm : mR t w) (h53 : es.length ≤ 53) (hmm : ∀ i, i < es.length → es.getD i 0 < 2 * t 49 ∧ sC t (es.getD i 0) < 1000000) (hst : ∀ i, i < es.length → st i = nI (es.getD i 0)) {x1 x2 : Int32} (hx : ¬ (x1 = 0 ∧ x2 = 0)) (ok : ∀ i, i < es.length → (FP.fdiv (FP.i2f (nI (sC t (es.getD i 0)))) (FP.fdiv (FP.i2f x1) (FP.i2f x2))).toNat % 2 ^ 31 ≤ 2139095040 ∧ (tS (fun i => sC t (es.getD i 0)) (FP.fdiv (FP.i2f x1) (FP.i2f x2)) (i + 1)).toNat % 2 ^ 31 ≤ 2139095040) {N : Nat} (hN : 100 ≤ N) : tB N x1 x2 (nI es.length) w st = some (tS (fun i => sC t (es.getD i 0)) (FP.fdiv (FP.i2f x1) (FP.i2f x2)) es.length) := by
  unfold tB
  rw [if_neg hx]
  unfold f_X10_timeBy
  rw [gf_ok (pace_ok hx), f10_tloop hv hm h53 hmm hst ok hN, Option.bind_some]
theorem time_both {t : Nat → Nat} {w st cs : Nat → Int32} {es : List Nat} (hv : vT t) (hm : mR t w) (h53 : es.length ≤ 53) (hmm : ∀ i, i < es.length → es.getD i 0 < 2 * t 49 ∧ sC t (es.getD i 0) < 1000000) (hst : ∀ i, i < es.length → st i = nI (es.getD i 0)) (hcs : ∀ i, i < es.length → cs i = nI (sC t (es.getD i 0))) {N : Nat} (hN : 8000000 ≤ N) (x1 x2 : Int32) : ∃ r p, tB N x1 x2 (nI es.length) w st = some r ∧ okF r ∧ f_Jxf58ca_floatToIntBits_5c35a r = some p ∧ f_X9_bitsOfTime N x1 x2 (nI es.length) cs = some p := by
  have hcc : ∀ i, i < es.length → 1 ≤ sC t (es.getD i 0) ∧ sC t (es.getD i 0) ≤ 4096 := fun i hi => by
    have a := sC_small hv (hmm i hi).1
    have b := (hmm i hi).2
    omega
  have f0 : f_Jxf58ca_floatToIntBits_5c35a 0 = some 0 := fb_ok (by decide)
  have k0 : okF 0 := okF_num (by decide) (by decide)
  have z0 : nI es.length = (0 : Int32) ↔ es.length = 0 := nI_lit (by omega) (by decide) 0 rfl
  by_cases hn : es.length = 0
  · have f9 : f_X9_bitsOfTime N x1 x2 (nI es.length) cs = some 0 := by
      unfold f_X9_bitsOfTime
      rw [if_pos (z0.mpr hn)]
    refine ⟨0, 0, ?_, k0, f0, f9⟩
    by_cases hx : x1 = 0 ∧ x2 = 0
    · unfold tB
      rw [if_pos hx, tBn_is hv hm h53 hmm hst (by omega), hn]
      rfl
    · rw [tB_num hv hm h53 hmm hst hx (fun i hi => by omega) (by omega), hn]
      rfl
  · have nz : ¬ nI es.length = (0 : Int32) := fun z => hn (z0.mp z)
    by_cases hx : x1 = 0 ∧ x2 = 0
    · refine ⟨2143289344, 2143289344, ?_, Or.inl (by decide), fb_nan (by decide), ?_⟩
      · unfold tB
        rw [if_pos hx, tBn_is hv hm h53 hmm hst (by omega), if_neg (fun z => by
          rw [i32_le, nI_toInt (by omega)] at z
          have : ((es.length : Nat) : Int) ≤ 0 := z
          omega)]
      · unfold f_X9_bitsOfTime
        rw [if_neg nz, if_pos hx.2, if_pos hx.1]
    · by_cases b : x2 = 0
      · have a : x1 ≠ 0 := fun a => hx ⟨a, b⟩
        have pe : FP.fdiv (FP.i2f x1) (FP.i2f x2) = infF (decide (x1.toInt < 0) != false) := by
          rw [b, i2f_0, by_zer (i2f_NR a) (by decide) (by decide)]
        refine ⟨0, 0, ?_, k0, f0, ?_⟩
        · rw [tB_num hv hm h53 hmm hst hx (fun i hi => ?_) (by omega), pe, tS_inf _ hcc]
          rw [pe, by_inf (cost_NR (hcc i hi).1 (hcc i hi).2) (by decide) (by decide), tS_inf _ (fun j hj => hcc j (by omega))]
          cases (false != (decide (x1.toInt < 0) != false)) <;> decide +kernel
        · unfold f_X9_bitsOfTime
          rw [if_neg nz, if_pos b, if_neg a]
      · by_cases a : x1 = 0
        · have pe : FP.fdiv (FP.i2f x1) (FP.i2f x2) = zerF (decide (x2.toInt < 0)) := by
            rw [a, i2f_0, zer_by (i2f_NR b) (by decide) (by decide), Bool.false_bne]
          have io : ∀ s : Bool, (infF s).toNat % 2 ^ 31 ≤ 2139095040 ∧ (infF s).toNat ≠ 2147483648 ∧ (infF s).toInt32 = (if s then -8388608 else 2139095040 : Int32) := by
            intro s
            cases s <;> decide +kernel
          obtain ⟨i1, i2, i3⟩ := io (decide (x2.toInt < 0))
          refine ⟨infF (decide (x2.toInt < 0)), (infF (decide (x2.toInt < 0))).toInt32, ?_, okF_num i1 i2, fb_ok i1, ?_⟩
          · rw [tB_num hv hm h53 hmm hst hx (fun i hi => ?_) (by omega), pe, tS_zer _ hcc, if_neg hn]
            rw [pe, by_zer (cost_NR (hcc i hi).1 (hcc i hi).2) (by decide) (by decide), tS_zer _ (fun j hj => hcc j (by omega)), if_neg (by omega), Bool.false_bne]
            exact ⟨i1, i1⟩
          · unfold f_X9_bitsOfTime
            rw [if_neg nz, if_neg b, if_pos a, i3]
            congr 1
            have b' : x2.toInt ≠ 0 := fun e => b (Int32.toInt_inj.mp (by rw [e]; rfl))
            by_cases q : x2.toInt < 0
            · rw [if_pos (i32_le.mpr (by show x2.toInt ≤ 0; omega)), decide_eq_true q]
              rfl
            · rw [if_neg (fun z => by rw [i32_le] at z; have : x2.toInt ≤ 0 := z; omega), decide_eq_false q]
              rfl
        · have pn := pace_NR a b
          have ok : ∀ i, i < es.length → (FP.fdiv (FP.i2f (nI (sC t (es.getD i 0)))) (FP.fdiv (FP.i2f x1) (FP.i2f x2))).toNat % 2 ^ 31 ≤ 2139095040 ∧ (tS (fun i => sC t (es.getD i 0)) (FP.fdiv (FP.i2f x1) (FP.i2f x2)) (i + 1)).toNat % 2 ^ 31 ≤ 2139095040 := fun i hi =>
            ⟨NR_ok (term_NR (hcc i hi).1 (hcc i hi).2 pn) (by decide), NR_ok (tS_NR pn i (by omega) (fun j hj => hcc j (by omega))) (by omega)⟩
          obtain ⟨n, hn'⟩ : ∃ n, es.length = n + 1 := ⟨es.length - 1, by omega⟩
          have tn := tS_NR (c := fun i => sC t (es.getD i 0)) pn n (by omega) (fun j hj => hcc j (by omega))
          rw [← hn'] at tn
          obtain ⟨e, T, q1, q2, q3, q4⟩ := NR_sF tn
          have okr := NR_ok tn (by omega)
          refine ⟨_, _, tB_num hv hm h53 hmm hst hx ok (by omega), okF_num okr ?_, fb_ok okr, ?_⟩
          · rw [q1, sF_nat _ (by omega) q4]
            cases (decide (x1.toInt < 0) != decide (x2.toInt < 0)) <;> simp only [Bool.toNat_true, Bool.toNat_false] <;> omega
          · unfold f_X9_bitsOfTime
            rw [if_neg nz, if_neg b, if_neg a, gf_ok (pace_ok hx), f9_tloop (c := fun i => sC t (es.getD i 0)) h53 hcs ok (by omega), Option.bind_some, q1, f9_bitsOfFloat _ (by omega) (by omega) q4 (by omega), Option.bind_some]
theorem pm_time {A I : Nat → Nat → Int32} (hI : Inv A I) {N : Nat} (hN : 8000000 ≤ N) (x1 x2 : Int32) : ∃ oc, f_X9_time N x1 x2 (I 1 5) (I 1 6) (I 1 7) (A 2) (A 3) (A 4) (A 5) (A 6) (I 29 3) (I 29 4) (I 29 5) (I 31 5) (I 31 6) (I 31 7) (A 32) (A 33) (A 34) (A 35) (A 36) (A 37) (A 38) (A 39) (A 40) (A 41) (A 42) (A 43) (A 44) (A 45) = some oc ∧ ∃ om, fD_X10_time N x1 x2 ((uI_X9_time A I oc) 65 12) ((uA_X9_time A I oc) 66) ((uA_X9_time A I oc) 73) ((uA_X9_time A I oc) 74) = some om ∧ oc.1 = om.1 ∧ Inv (uA_X10_time (uA_X9_time A I oc) (uI_X9_time A I oc) om) (uI_X10_time (uA_X9_time A I oc) (uI_X9_time A I oc) om) := by
  obtain ⟨t, k, h1, h2, h3, h4, h5, h6, h7, h8⟩ := hI
  obtain ⟨hv, hc, hm⟩ := id h1
  have hU := dueB_lt hv
  have h48 := hv.2.1
  have hUU : dueB t (t 49) &&& dueB t (t 49) = dueB t (t 49) := Nat.and_self _
  obtain ⟨du1, ss1, f3, t3, l3, k3, g3, on3, bk3, le3, clf3, cf3, st3, co3, cs3, ag3, sk, c3, tr⟩ := f6_seek (on := A 37) (bk := A 38) (le := A 39) (cf := A 41) hv hc h8 (show 1000 ≤ N by omega)
  have iT := InvT_of hv c3 tr
  obtain ⟨V, hV, d1, d2, d3, d4⟩ := tr
  have hle := hV.1 _ _ hUU h48
  have hfd := f6_found (x := clf3) d1 hc.2.1 hU h48 (d2 _ _ hUU h48) hle
  have core : ∃ v, f_X9_time N x1 x2 (I 1 5) (I 1 6) (I 1 7) (A 2) (A 3) (A 4) (A 5) (A 6) (I 29 3) (I 29 4) (I 29 5) (I 31 5) (I 31 6) (I 31 7) (A 32) (A 33) (A 34) (A 35) (A 36) (A 37) (A 38) (A 39) (A 40) (A 41) (A 42) (A 43) (A 44) (A 45) = some (v, 1, du1, ss1, I 1 5, I 1 6, I 1 7, f3, t3, l3, k3, g3, on3, bk3, le3, clf3, cf3, st3, co3, cs3, ag3) ∧ ∀ (sm : Int32) (lf st : Nat → Int32), ∃ sm' y st', fD_X10_time N x1 x2 sm (A 66) lf st = some (v, sm', y, st') := by
    rcases d4 with ⟨d4, d5⟩ | ⟨d4, es, h53, hR, d5, d6⟩
    · refine ⟨-1082130432, ?_, fun sm lf st => ?_⟩
      · unfold f_X9_time
        rw [sk, Option.bind_some]
        dsimp only
        rw [hfd, Option.bind_some, if_pos (b2_0.mpr (by omega))]
      · obtain ⟨y, e⟩ := f10_walksNo (sm := sm) (x := lf) (st := st) hv hm hV d4 hN
        refine ⟨nI 0, y, st, ?_⟩
        unfold fD_X10_time
        rw [e, Option.bind_some]
        dsimp only
        rw [if_neg (by decide), Option.bind_some, fb_ok (by decide), Option.bind_some]
        rfl
    · have hmm := fun i hi => IsR_mem es _ _ i hR hi
      have hcs : ∀ i, i < es.length → cs3 i = nI (sC t (es.getD i 0)) := fun i hi => (d6 i hi).2.2.1
      obtain ⟨y0, st0, e0, e0'⟩ := f10_walksYes (sm := 0) (x := A 73) (st := A 74) hv hm hV d4 hR h53 hN
      obtain ⟨r, p, r1, r2, r3, r4⟩ := time_both hv hm h53 hmm e0' hcs hN x1 x2
      refine ⟨p, ?_, fun sm lf st => ?_⟩
      · unfold f_X9_time
        rw [sk, Option.bind_some]
        dsimp only
        rw [hfd, Option.bind_some, if_neg (fun q => b2_0.mp q d4), d5, r4, Option.bind_some]
      · obtain ⟨y, st', e, e'⟩ := f10_walksYes (sm := sm) (x := lf) (st := st) hv hm hV d4 hR h53 hN
        obtain ⟨r', p', s1, s2, s3, s4⟩ := time_both hv hm h53 hmm e' hcs hN x1 x2
        rw [r4] at s4
        cases s4
        refine ⟨nI es.length, y, st', ?_⟩
        unfold fD_X10_time
        rw [e, Option.bind_some]
        dsimp only
        rw [if_pos (Int32.not_lt.mp (nI_pos (by omega))), s1, Option.bind_some, Option.bind_some, s3, Option.bind_some]
  obtain ⟨v, e1, e2⟩ := core
  obtain ⟨sm', y, st', e3⟩ := e2 (I 65 12) (A 73) (A 74)
  exact ⟨_, e1, _, e3, rfl, t, k, h1, h2, h3, h4, h5, h6, h7, iT⟩
theorem pm_rank {A I : Nat → Nat → Int32} (hI : Inv A I) {N : Nat} (hN : 8000000 ≤ N) (x1 x2 x3 x4 : Int32) : ∃ oc, f_X9_rank N x1 x2 x3 x4 (I 1 5) (I 1 6) (I 1 7) (A 2) (A 3) (A 4) (A 5) (A 6) (I 29 3) (I 29 4) (I 29 5) (I 31 5) (I 31 6) (I 31 7) (A 32) (A 33) (A 34) (A 35) (A 36) (A 37) (A 38) (A 39) (A 40) (A 41) (A 42) (A 43) (A 44) (A 45) (A 64) = some oc ∧ ∃ om, fD_X10_rank N x1 x2 x3 x4 ((uI_X9_rank A I oc) 65 12) ((uA_X9_rank A I oc) 66) ((uA_X9_rank A I oc) 69) ((uA_X9_rank A I oc) 73) ((uA_X9_rank A I oc) 74) = some om ∧ oc.1 = om.1 ∧ Inv (uA_X10_rank (uA_X9_rank A I oc) (uI_X9_rank A I oc) om) (uI_X10_rank (uA_X9_rank A I oc) (uI_X9_rank A I oc) om) := by
  obtain ⟨t, k, h1, h2, h3, h4, h5, h6, h7, h8⟩ := hI
  obtain ⟨hv, hc, hm⟩ := id h1
  have hU := dueB_lt hv
  have h48 := hv.2.1
  have hUU : dueB t (t 49) &&& dueB t (t 49) = dueB t (t 49) := Nat.and_self _
  obtain ⟨du1, ss1, f3, t3, l3, k3, g3, on3, bk3, le3, clf3, cf3, st3, co3, cs3, ag3, sk, c3, tr⟩ := f6_seek (on := A 37) (bk := A 38) (le := A 39) (cf := A 41) hv hc h8 (show 1000 ≤ N by omega)
  have iT := InvT_of hv c3 tr
  obtain ⟨V, hV, d1, d2, d3, d4⟩ := tr
  have hle := hV.1 _ _ hUU h48
  have hfd := f6_found (x := clf3) d1 hc.2.1 hU h48 (d2 _ _ hUU h48) hle
  rcases d4 with ⟨d4, d5⟩ | ⟨d4, es, h53, hR, d5, d6⟩
  · have f9 : f_X9_rank N x1 x2 x3 x4 (I 1 5) (I 1 6) (I 1 7) (A 2) (A 3) (A 4) (A 5) (A 6) (I 29 3) (I 29 4) (I 29 5) (I 31 5) (I 31 6) (I 31 7) (A 32) (A 33) (A 34) (A 35) (A 36) (A 37) (A 38) (A 39) (A 40) (A 41) (A 42) (A 43) (A 44) (A 45) (A 64) = some ((-100000 : Int32) + (-3), 1, du1, ss1, I 1 5, I 1 6, I 1 7, f3, t3, l3, k3, g3, on3, bk3, le3, clf3, cf3, st3, co3, cs3, ag3, upd (A 64) 3 (A 64 3 + 1)) := by
      unfold f_X9_rank
      rw [sk, Option.bind_some]
      dsimp only
      rw [hfd, Option.bind_some, if_pos (b2_0.mpr (by omega)), rf9_3, Option.bind_some]
    refine ⟨_, f9, ?_⟩
    have f10 : ∀ (sm : Int32) (r lf st : Nat → Int32), ∃ sm' y st', fD_X10_rank N x1 x2 x3 x4 sm (A 66) r lf st = some ((-100000 : Int32) + (-3), sm', upd r 3 (r 3 + 1), y, st') := fun sm r lf st => by
      obtain ⟨y, e⟩ := f10_walksNo (sm := sm) (x := lf) (st := st) hv hm hV d4 hN
      refine ⟨nI 0, y, st, ?_⟩
      unfold fD_X10_rank
      rw [e, Option.bind_some]
      dsimp only
      rw [if_neg (by decide), rb10_3, Option.bind_some]
    obtain ⟨sm', y, st', e3⟩ := f10 (I 65 12) (A 69) (A 73) (A 74)
    exact ⟨_, e3, rfl, t, k, h1, h2, h3, h4.up (by decide), h5, h6, h7, iT⟩
  · have hmm := fun i hi => IsR_mem es _ _ i hR hi
    have hcs : ∀ i, i < es.length → cs3 i = nI (sC t (es.getD i 0)) := fun i hi => (d6 i hi).2.2.1
    have core : ∃ v, f_X9_rank N x1 x2 x3 x4 (I 1 5) (I 1 6) (I 1 7) (A 2) (A 3) (A 4) (A 5) (A 6) (I 29 3) (I 29 4) (I 29 5) (I 31 5) (I 31 6) (I 31 7) (A 32) (A 33) (A 34) (A 35) (A 36) (A 37) (A 38) (A 39) (A 40) (A 41) (A 42) (A 43) (A 44) (A 45) (A 64) = some (v, 1, du1, ss1, I 1 5, I 1 6, I 1 7, f3, t3, l3, k3, g3, on3, bk3, le3, clf3, cf3, st3, co3, cs3, ag3, A 64) ∧ ∀ (sm : Int32) (r lf st : Nat → Int32), ∃ sm' y st', fD_X10_rank N x1 x2 x3 x4 sm (A 66) r lf st = some (v, sm', r, y, st') := by
      obtain ⟨y0, st0, e0, e0'⟩ := f10_walksYes (sm := 0) (x := A 73) (st := A 74) hv hm hV d4 hR h53 hN
      obtain ⟨r, p, r1, r2, r3, r4⟩ := time_both hv hm h53 hmm e0' hcs hN x1 x2
      obtain ⟨u, q, u1, u2, u3, u4⟩ := time_both hv hm h53 hmm e0' hcs hN x3 x4
      refine ⟨if (ordB q) ≤ (ordB p) then (if (ordB p) = (ordB q) then (0 : Int32) else (1 : Int32)) else (-1 : Int32), ?_, fun sm rr lf st => ?_⟩
      · have o1 : f_X9_inOrder p = some (ordB p) := rfl
        have o2 : f_X9_inOrder q = some (ordB q) := rfl
        have o3 : f_J6_compare_7cf53 (ordB p) (ordB q) = some (if (ordB q) ≤ (ordB p) then (if (ordB p) = (ordB q) then (0 : Int32) else (1 : Int32)) else (-1 : Int32)) := rfl
        unfold f_X9_rank
        rw [sk, Option.bind_some]
        dsimp only
        rw [hfd, Option.bind_some, if_neg (fun z => b2_0.mp z d4), d5, r4, Option.bind_some, o1, Option.bind_some, u4, Option.bind_some, o2, Option.bind_some, o3, Option.bind_some]
      · obtain ⟨y, st', e, e'⟩ := f10_walksYes (sm := sm) (x := lf) (st := st) hv hm hV d4 hR h53 hN
        obtain ⟨r', p', s1, s2, s3, s4⟩ := time_both hv hm h53 hmm e' hcs hN x1 x2
        obtain ⟨u', q', v1, v2, v3, v4⟩ := time_both hv hm h53 hmm e' hcs hN x3 x4
        rw [r4] at s4
        cases s4
        rw [u4] at v4
        cases v4
        refine ⟨nI es.length, y, st', ?_⟩
        unfold fD_X10_rank
        rw [e, Option.bind_some]
        dsimp only
        rw [if_pos (Int32.not_lt.mp (nI_pos (by omega))), s1, Option.bind_some, v1, Option.bind_some, cmp_ok s2 v2 s3 v3]
        rfl
    obtain ⟨v, e1, e2⟩ := core
    obtain ⟨sm', y, st', e3⟩ := e2 (I 65 12) (A 69) (A 73) (A 74)
    exact ⟨_, e1, _, e3, rfl, t, k, h1, h2, h3, h4, h5, h6, h7, iT⟩
