/-! the round as a list of its own; the row held against it -/
noncomputable def rE (t : Nat → Nat) : List Nat := @dite (List Nat) (∃ es, ∃ V, IsV t (t 48) (dueB t (t 49)) V ∧ IsR t V (dueB t (t 49)) (t 48) es) (Classical.propDecidable _) (fun h => Classical.choose h) (fun _ => [])
theorem rE_eq {t : Nat → Nat} (hv : vT t) {V : Nat → Nat → Nat} {es : List Nat} (hV : IsV t (t 48) (dueB t (t 49)) V) (hR : IsR t V (dueB t (t 49)) (t 48) es) : es = rE t := by
  have h : ∃ es, ∃ V, IsV t (t 48) (dueB t (t 49)) V ∧ IsR t V (dueB t (t 49)) (t 48) es := ⟨es, V, hV, hR⟩
  unfold rE
  rw [dif_pos h]
  obtain ⟨W, hW, hR'⟩ := Classical.choose_spec h
  exact IsR_one hv (dueB_lt hv) (fun S c hS hc => IsV_one hv (dueB_lt hv) hV hW hS hc) _ _ _ _ (Nat.and_self _) hv.2.1 hR hR'
noncomputable def lT (t : Nat → Nat) : Nat := if rC t < 1000000 then (rE t).length else 0
noncomputable def mT (t : Nat → Nat) : Nat := if rC t < 1000000 then (rE t).length + 1 else 0
/-- all that is known of the round's list -/
theorem rE_ok {t : Nat → Nat} (hv : vT t) {w : Nat → Int32} (h : mR t w) (hf : rC t < 1000000) : (rE t).length ≤ 53 ∧ ∃ V, IsV t (t 48) (dueB t (t 49)) V ∧ IsR t V (dueB t (t 49)) (t 48) (rE t) := by
  have hex : ∃ V, IsV t (t 48) (dueB t (t 49)) V := by
    obtain ⟨y, _, e2⟩ := f10_seeks (x := w) hv h (dueB_lt hv) hv.2.1 (Nat.le_refl 8000000)
    exact ⟨_, Dn_IsV hv (dueB_lt hv) hv.2.1 e2⟩
  obtain ⟨V, hV⟩ := hex
  have hf' := hf
  rw [← rC_eq hv hV] at hf'
  obtain ⟨es, r1, r2⟩ := IsR_53 hv (dueB_lt hv) hV (Nat.and_self _) hv.2.1 hf'
  have e := rE_eq hv hV r1
  rw [← e]
  exact ⟨r2, V, hV, r1⟩
theorem f10_walksC {t : Nat → Nat} {w x st : Nat → Int32} {sm : Int32} (hv : vT t) (h : mR t w) {N : Nat} (hN : 8000000 ≤ N) : ∃ y st', f_X10_walks N sm x st w = some (toldC (rC t), nI (lT t), y, st') ∧ (rC t < 1000000 → ∀ i, i < (rE t).length → st' i = nI ((rE t).getD i 0)) := by
  by_cases hf : rC t < 1000000
  · obtain ⟨h53, V, hV, hR⟩ := rE_ok hv h hf
    have hf' := hf
    rw [← rC_eq hv hV] at hf'
    obtain ⟨y, st', e, e'⟩ := f10_walksYes (sm := sm) (x := x) (st := st) hv h hV hf' hR h53 hN
    refine ⟨y, st', ?_, fun _ => e'⟩
    rw [e, rC_eq hv hV, show toldC (rC t) = nI (rC t) from if_pos hf, show lT t = (rE t).length from if_pos hf]
  · have hex : ∃ V, IsV t (t 48) (dueB t (t 49)) V := by
      obtain ⟨y, _, e2⟩ := f10_seeks (x := w) hv h (dueB_lt hv) hv.2.1 (Nat.le_refl 8000000)
      exact ⟨_, Dn_IsV hv (dueB_lt hv) hv.2.1 e2⟩
    obtain ⟨V, hV⟩ := hex
    have rl := rC_le hv
    have e0 : V (dueB t (t 49)) (t 48) = 1000000 := by rw [rC_eq hv hV]; omega
    obtain ⟨y, e⟩ := f10_walksNo (sm := sm) (x := x) (st := st) hv h hV e0 hN
    refine ⟨y, st, ?_, fun q => absurd q hf⟩
    rw [e, show toldC (rC t) = -9 from if_neg hf, show lT t = 0 from if_neg hf]
theorem tour_is {t : Nat → Nat} {cl st co cs ag : Nat → Int32} {du sz : Int32} (hv : vT t) (hT : TourIs t cl st co cs ag du sz) : du = nI (dueB t (t 49)) ∧ cl (6 * dueB t (t 49) + t 48) = nI (rC t) ∧ sz = nI (lT t) ∧ (rC t < 1000000 → ∀ j, j ≤ (rE t).length → co j = nI (corN t (rE t) j)) := by
  obtain ⟨V, hV, d1, d2, d3, d4⟩ := hT
  have e := d2 _ _ (Nat.and_self (dueB t (t 49))) hv.2.1
  rw [rC_eq hv hV] at e
  rw [rC_eq hv hV] at d4
  refine ⟨d1, e, ?_, fun hf j hj => ?_⟩
  · rcases d4 with ⟨d4, d5⟩ | ⟨d4, es, h53, hR, d5, d6⟩
    · rw [d5, show lT t = 0 from if_neg (by omega)]
    · rw [d5, show lT t = (rE t).length from if_pos d4, ← rE_eq hv hV hR]
  · rcases d4 with ⟨d4, d5⟩ | ⟨d4, es, h53, hR, d5, d6⟩
    · omega
    · have ee := rE_eq hv hV hR
      subst ee
      cases j with
      | zero => exact d3
      | succ j => exact (d6 j (by omega)).2.1
/-- how many lead on from i -/
def ldT (p : Nat → Bool) : Nat → Nat → Nat
  | i, 0 => i
  | i, k + 1 => if p i then ldT p (i + 1) k else i
theorem ldT_le (p : Nat → Bool) : ∀ k i, ldT p i k ≤ i + k
  | 0, i => Nat.le_refl _
  | k + 1, i => by
    unfold ldT
    split
    · have := ldT_le p k (i + 1); omega
    · omega
theorem f6_cornersToTell {t : Nat → Nat} {x : Nat → Int32} {du sz hm : Int32} (hv : vT t) (hd : du = nI (dueB t (t 49))) (hh : hm = nI (t 48)) (hs : sz = nI (lT t)) (hx : x (6 * dueB t (t 49) + t 48) = nI (rC t)) : f_X6_cornersToTell du sz hm x = some (nI (mT t)) := by
  unfold f_X6_cornersToTell
  rw [f6_found hd hh (dueB_lt hv) hv.2.1 hx (rC_le hv), Option.bind_some]
  by_cases z : rC t < 1000000
  · rw [if_neg (fun q => b2_0.mp q z), hs, nI_1, show lT t = (rE t).length from if_pos z, show mT t = (rE t).length + 1 from if_pos z]
  · rw [if_pos (b2_0.mpr z), show mT t = 0 from if_neg z]; rfl
def smP (t : Nat → Nat) (f : Nat → Int32) (es : List Nat) (i : Nat) : Bool := decide (f i = nI (corN t es i))
theorem f9_sameCorners {t : Nat → Nat} {x co f : Nat → Int32} {du sz hm tl : Int32} (hv : vT t) (hd : du = nI (dueB t (t 49))) (hh : hm = nI (t 48)) (hs : sz = nI (lT t)) (hx : x (6 * dueB t (t 49) + t 48) = nI (rC t)) (hco : rC t < 1000000 → ∀ j, j ≤ (rE t).length → co j = nI (corN t (rE t) j)) (h53 : mT t ≤ 54) {n : Nat} (hn : n ≤ 32) (htl : tl = nI n) {N : Nat} (hN : 100 ≤ N) : f_X9_sameCorners N tl du sz hm x co f = some (nI (ldT (smP t f (rE t)) 0 (min n (mT t)))) := by
  have ct := f6_cornersToTell hv hd hh hs hx
  have key : ∀ k i M, i + k = min n (mT t) → k < M → lp (fun s_2 => f_X9_sameCorners_b2 tl s_2 du sz hm x f co) M (nI i) = some (nI (ldT (smP t f (rE t)) i k)) := by
    intro k
    induction k with
    | zero =>
      intro i M hi hM
      obtain ⟨M, rfl⟩ : ∃ M', M = M' + 1 := ⟨M - 1, by omega⟩
      apply lp_r
      show f_X9_sameCorners_b2 tl (nI i) du sz hm x f co = _
      unfold f_X9_sameCorners_b2
      by_cases z : n ≤ i
      · rw [htl, if_pos (nI_le z (by omega))]; rfl
      · rw [htl, if_neg (nI_ge (by omega) (by omega)), ct, Option.bind_some, if_pos (nI_le (by omega) (by omega))]; rfl
    | succ k ih =>
      intro i M hi hM
      obtain ⟨M, rfl⟩ : ∃ M', M = M' + 1 := ⟨M - 1, by omega⟩
      have hm0 : rC t < 1000000 := by
        by_cases z : rC t < 1000000
        · exact z
        · have : mT t = 0 := if_neg z
          omega
      have hmT : mT t = (rE t).length + 1 := if_pos hm0
      have body : f_X9_sameCorners_b2 tl (nI i) du sz hm x f co = if smP t f (rE t) i then some (.inl (nI (i + 1))) else some (.inr (nI i)) := by
        unfold f_X9_sameCorners_b2
        rw [htl, if_neg (nI_ge (by omega) (by omega)), ct, Option.bind_some, if_neg (nI_ge (by omega) (by omega)), ga_ok (by omega) (by decide), ga_ok (by omega) (by decide), nI_clamp (by omega), hco hm0 i (by omega), nI_1]
        unfold smP
        by_cases y : f i = nI (corN t (rE t) i)
        · rw [if_pos y, if_pos (decide_eq_true y)]
        · rw [if_neg y, if_neg (by rw [decide_eq_true_iff]; exact y)]
      unfold ldT
      by_cases y : smP t f (rE t) i = true
      · rw [if_pos y] at body
        rw [if_pos y]
        exact (lp_l body).trans (ih (i + 1) M (by omega) (by omega))
      · rw [if_neg y] at body
        rw [if_neg y]
        exact lp_r body
  unfold f_X9_sameCorners
  have := key (min n (mT t)) 0 N (by omega) (by omega)
  rw [show lp (fun s_2 => f_X9_sameCorners_b2 tl s_2 du sz hm x f co) N (0 : Int32) = _ from this, Option.bind_some]
theorem f10_cornerOf {t : Nat → Nat} {w st : Nat → Int32} (hv : vT t) (h : mR t w) (hf : rC t < 1000000) (hst : ∀ i, i < (rE t).length → st i = nI ((rE t).getD i 0)) {k : Nat} (hk : k ≤ (rE t).length) : f_X10_cornerOf (nI k) st w = some (nI (corN t (rE t) k)) := by
  obtain ⟨h53, V, hV, hR⟩ := rE_ok hv h hf
  unfold f_X10_cornerOf
  cases k with
  | zero => rw [if_pos (show nI 0 = 0 from rfl), ga_in (by decide)]; exact congrArg some h.2.1
  | succ k =>
    rw [if_neg (nI_ne0 (by omega) (by omega)), nI_pred, ga_ok (by omega) (by decide), nI_clamp (by omega), hst k (by omega), f10_ends hv h (IsR_mem _ _ _ k hR (by omega)).1, Option.bind_some]; rfl
theorem f10_judgeLoop {t : Nat → Nat} {w st f g : Nat → Int32} (hv : vT t) (h : mR t w) (hst : rC t < 1000000 → ∀ i, i < (rE t).length → st i = nI ((rE t).getD i 0)) {n : Nat} (hn : n ≤ 32) (hg : ∀ j, j < n → f j = g j) {N : Nat} (hN : 100 ≤ N) : lp (fun s_34 => f_X10_judge_b34 (nI n) s_34 (toldC (rC t)) (nI (lT t)) st w g) N (0 : Int32) = some (nI (ldT (smP t f (rE t)) 0 (min n (mT t)))) := by
  have h54 : mT t ≤ 54 := by
    by_cases z : rC t < 1000000
    · have := (rE_ok hv h z).1
      have e : mT t = (rE t).length + 1 := if_pos z
      omega
    · have e : mT t = 0 := if_neg z
      omega
  have em : (if (0 : Int32) ≤ toldC (rC t) then (nI (lT t) + (1 : Int32)) else (0 : Int32)) = nI (mT t) := by
    by_cases z : rC t < 1000000
    · rw [show toldC (rC t) = nI (rC t) from if_pos z, if_pos (nI_pos' (by omega)), nI_1, show lT t = (rE t).length from if_pos z, show mT t = (rE t).length + 1 from if_pos z]
    · rw [show toldC (rC t) = -9 from if_neg z, if_neg (by decide), show mT t = 0 from if_neg z]; rfl
  have key : ∀ k i M, i + k = min n (mT t) → k < M → lp (fun s_34 => f_X10_judge_b34 (nI n) s_34 (toldC (rC t)) (nI (lT t)) st w g) M (nI i) = some (nI (ldT (smP t f (rE t)) i k)) := by
    intro k
    induction k with
    | zero =>
      intro i M hi hM
      obtain ⟨M, rfl⟩ : ∃ M', M = M' + 1 := ⟨M - 1, by omega⟩
      apply lp_r
      show f_X10_judge_b34 (nI n) (nI i) (toldC (rC t)) (nI (lT t)) st w g = _
      unfold f_X10_judge_b34
      by_cases z : n ≤ i
      · rw [if_pos (nI_le z (by omega))]; rfl
      · rw [if_neg (nI_ge (by omega) (by omega)), em, if_pos (nI_le (by omega) (by omega))]; rfl
    | succ k ih =>
      intro i M hi hM
      obtain ⟨M, rfl⟩ : ∃ M', M = M' + 1 := ⟨M - 1, by omega⟩
      have hm0 : rC t < 1000000 := by
        by_cases z : rC t < 1000000
        · exact z
        · have : mT t = 0 := if_neg z
          omega
      have hmT : mT t = (rE t).length + 1 := if_pos hm0
      have body : f_X10_judge_b34 (nI n) (nI i) (toldC (rC t)) (nI (lT t)) st w g = if smP t f (rE t) i then some (.inl (nI (i + 1))) else some (.inr (nI i)) := by
        unfold f_X10_judge_b34
        rw [if_neg (nI_ge (by omega) (by omega)), em, if_neg (nI_ge (by omega) (by omega)), ga_ok (by omega) (by decide), f10_cornerOf hv h hm0 (hst hm0) (show i ≤ (rE t).length by omega), Option.bind_some, nI_clamp (by omega), ← hg i (by omega), nI_1]
        unfold smP
        by_cases y : f i = nI (corN t (rE t) i)
        · rw [if_pos y, if_pos (decide_eq_true y)]
        · rw [if_neg y, if_neg (by rw [decide_eq_true_iff]; exact y)]
      unfold ldT
      by_cases y : smP t f (rE t) i = true
      · rw [if_pos y] at body
        rw [if_pos y]
        exact (lp_l body).trans (ih (i + 1) M (by omega) (by omega))
      · rw [if_neg y] at body
        rw [if_neg y]
        exact lp_r body
  exact key (min n (mT t)) 0 N (by omega) (by omega)
theorem mT_54 {t : Nat → Nat} {w : Nat → Int32} (hv : vT t) (h : mR t w) : mT t ≤ 54 := by
  by_cases z : rC t < 1000000
  · have := (rE_ok hv h z).1
    have e : mT t = (rE t).length + 1 := if_pos z
    omega
  · have e : mT t = 0 := if_neg z
    omega
theorem mT_I {t : Nat → Nat} (hv : vT t) : (if (0 : Int32) ≤ toldC (rC t) then (nI (lT t) + (1 : Int32)) else (0 : Int32)) = nI (mT t) := by
  by_cases z : rC t < 1000000
  · rw [show toldC (rC t) = nI (rC t) from if_pos z, if_pos (nI_pos' (by omega)), nI_1, show lT t = (rE t).length from if_pos z, show mT t = (rE t).length + 1 from if_pos z]
  · rw [show toldC (rC t) = -9 from if_neg z, if_neg (by decide), show mT t = 0 from if_neg z]; rfl
theorem pm_judge {A I : Nat → Nat → Int32} (hI : Inv A I) {N : Nat} (hN : 8000000 ≤ N) : ∃ oc, f_X9_judge N (I 0 12) (I 1 5) (I 1 6) (I 1 7) (A 2) (A 3) (A 4) (A 5) (A 6) (I 29 3) (I 29 4) (I 29 5) (I 31 5) (I 31 6) (I 31 7) (A 32) (A 33) (A 34) (A 35) (A 36) (A 37) (A 38) (A 39) (A 40) (A 41) (A 42) (A 43) (A 44) (A 45) (A 63) = some oc ∧ ∃ om, f_X10_judge N ((uI_X9_judge A I oc) 65 6) ((uI_X9_judge A I oc) 65 12) ((uA_X9_judge A I oc) 66) ((uA_X9_judge A I oc) 70) ((uA_X9_judge A I oc) 73) ((uA_X9_judge A I oc) 74) = some om ∧ oc.1 = om.1 ∧ Inv (uA_X10_judge (uA_X9_judge A I oc) (uI_X9_judge A I oc) om) (uI_X10_judge (uA_X9_judge A I oc) (uI_X9_judge A I oc) om) := by
  obtain ⟨t, k, h1, h2, h3, h4, h5, h6, h7, h8⟩ := hI
  obtain ⟨hv, hc, hm⟩ := id h1
  obtain ⟨n, hn, tl, rl, hr⟩ := id h5
  have h54 := mT_54 hv hm
  obtain ⟨du1, ss1, f3, t3, l3, k3, g3, on3, bk3, le3, clf3, cf3, st3, co3, cs3, ag3, sk, c3, tr⟩ := f6_seek (on := A 37) (bk := A 38) (le := A 39) (cf := A 41) hv hc h8 (show 1000 ≤ N by omega)
  have iT := InvT_of hv c3 tr
  obtain ⟨d1, d2, d3, d4⟩ := tour_is hv tr
  have sc := f9_sameCorners (f := A 63) hv d1 hc.2.1 d3 d2 d4 h54 hn tl (show 100 ≤ N by omega)
  have ct := f6_cornersToTell hv d1 hc.2.1 d3 d2
  have hle := ldT_le (smP t (A 63) (rE t)) (min n (mT t)) 0
  have core : ∃ v, f_X9_judge N (I 0 12) (I 1 5) (I 1 6) (I 1 7) (A 2) (A 3) (A 4) (A 5) (A 6) (I 29 3) (I 29 4) (I 29 5) (I 31 5) (I 31 6) (I 31 7) (A 32) (A 33) (A 34) (A 35) (A 36) (A 37) (A 38) (A 39) (A 40) (A 41) (A 42) (A 43) (A 44) (A 45) (A 63) = some (v, 0, 1, du1, ss1, I 1 5, I 1 6, I 1 7, f3, t3, l3, k3, g3, on3, bk3, le3, clf3, cf3, st3, co3, cs3, ag3) ∧ ∀ (sm : Int32) (lf st : Nat → Int32), ∃ sm' y st', f_X10_judge N (I 65 6) sm (A 66) (A 70) lf st = some (v, 0, sm', y, st') := by
    have f9 : f_X9_judge N (I 0 12) (I 1 5) (I 1 6) (I 1 7) (A 2) (A 3) (A 4) (A 5) (A 6) (I 29 3) (I 29 4) (I 29 5) (I 31 5) (I 31 6) (I 31 7) (A 32) (A 33) (A 34) (A 35) (A 36) (A 37) (A 38) (A 39) (A 40) (A 41) (A 42) (A 43) (A 44) (A 45) (A 63) = some (if ldT (smP t (A 63) (rE t)) 0 (min n (mT t)) = n ∧ ldT (smP t (A 63) (rE t)) 0 (min n (mT t)) = mT t then -9 else nI (ldT (smP t (A 63) (rE t)) 0 (min n (mT t))), 0, 1, du1, ss1, I 1 5, I 1 6, I 1 7, f3, t3, l3, k3, g3, on3, bk3, le3, clf3, cf3, st3, co3, cs3, ag3) := by
      unfold f_X9_judge
      rw [sk, Option.bind_some]
      dsimp only
      rw [sc, Option.bind_some, ct]
      by_cases z : ldT (smP t (A 63) (rE t)) 0 (min n (mT t)) = n
      · rw [if_pos (by rw [tl, z]), Option.bind_some]
        by_cases y : ldT (smP t (A 63) (rE t)) 0 (min n (mT t)) = mT t
        · rw [if_pos (by rw [y]), Option.bind_some, if_neg (by decide), if_pos ⟨z, y⟩]
        · rw [if_neg (fun q => y ((nI_eq (by omega) (by omega)).mp q)), Option.bind_some, if_pos rfl, if_neg (fun q => y q.2)]
      · rw [if_neg (fun q => z ((nI_eq (by omega) (by omega)).mp (q.trans tl))), Option.bind_some, if_pos rfl, if_neg (fun q => z q.1)]
    refine ⟨_, f9, fun sm lf st => ?_⟩
    obtain ⟨y, st', e1, e2⟩ := f10_walksC (sm := sm) (x := lf) (st := st) hv hm hN
    refine ⟨nI (lT t), y, st', ?_⟩
    have jl := f10_judgeLoop (f := A 63) (g := A 70) hv hm e2 hn (fun j hj => (hr j hj).1) (show 100 ≤ N by omega)
    unfold f_X10_judge
    rw [e1, Option.bind_some]
    dsimp only
    rw [rl, jl, Option.bind_some, mT_I hv]
    by_cases z : ldT (smP t (A 63) (rE t)) 0 (min n (mT t)) = n
    · rw [if_pos (show nI (ldT (smP t (A 63) (rE t)) 0 (min n (mT t))) = nI n by rw [z])]
      by_cases y : ldT (smP t (A 63) (rE t)) 0 (min n (mT t)) = mT t
      · rw [if_pos (show nI (ldT (smP t (A 63) (rE t)) 0 (min n (mT t))) = nI (mT t) by rw [y]), if_pos ⟨z, y⟩]
      · rw [if_neg (fun q => y ((nI_eq (by omega) (by omega)).mp q)), if_neg (fun q => y q.2)]
    · rw [if_neg (fun q => z ((nI_eq (by omega) (by omega)).mp q)), if_neg (fun q => z q.1)]
  obtain ⟨v, e1, e2⟩ := core
  obtain ⟨sm', y, st', e3⟩ := e2 (I 65 12) (A 73) (A 74)
  exact ⟨_, e1, _, e3, rfl, t, k, h1, h2, h3, h4, ⟨0, by decide, rfl, rfl, fun j hj => absurd hj (by omega)⟩, h6, h7, iT⟩
