/-! round and step -/
theorem f6_found {U h v : Nat} {x : Nat → Int32} {du hm : Int32} (hd : du = nI U) (hh : hm = nI h) (hU : U < 256) (h6 : h < 6) (hx : x (6 * U + h) = nI v) (hv : v ≤ 1000000) : f_X6_isFound du hm x = some (b2 (v < 1000000)) := by
  subst hd hh
  exact f6_isFound hU h6 hx hv
theorem f6_costIs {U h v : Nat} {x : Nat → Int32} {du hm : Int32} (hd : du = nI U) (hh : hm = nI h) (hU : U < 256) (h6 : h < 6) (hx : x (6 * U + h) = nI v) : f_X6_cost du hm x = some (nI v) := by
  subst hd hh
  rw [f6_cost hU h6, hx]
/-- the corner at which the i-th step begins -/
def corN (t : Nat → Nat) (es : List Nat) : Nat → Nat
  | 0 => t 48
  | i + 1 => sE t (es.getD i 0)
theorem IsR_at {t : Nat → Nat} {V : Nat → Nat → Nat} : ∀ (es : List Nat) (S c i : Nat), IsR t V S c es → i + 1 < es.length → sA t (es.getD (i + 1) 0) = sE t (es.getD i 0)
  | [], _, _, i, _, hi => absurd hi (by simp)
  | [e], S, c, i, _, hi => absurd hi (by simp)
  | e :: f :: es, S, c, 0, h, _ => h.2.2.2.2.1.2.2.1
  | e :: f :: es, S, c, i + 1, h, hi => by
    rw [List.length_cons] at hi
    exact IsR_at (f :: es) _ _ i h.2.2.2 (by omega)
theorem IsR_cor {t : Nat → Nat} {V : Nat → Nat → Nat} {es : List Nat} {S : Nat} (h : IsR t V S (t 48) es) {i : Nat} (hi : i < es.length) : sA t (es.getD i 0) = corN t es i := by
  cases i with
  | zero =>
    cases es with
    | nil => exact absurd hi (by simp)
    | cons e es => exact h.2.1.2.2.1
  | succ i => exact IsR_at es _ _ i h hi
theorem corN_lt {t : Nat → Nat} (hv : vT t) {V : Nat → Nat → Nat} {es : List Nat} {S c : Nat} (h : IsR t V S c es) {i : Nat} (hi : i ≤ es.length) : corN t es i < 6 := by
  cases i with
  | zero => exact hv.2.1
  | succ i => exact sE_lt hv (IsR_mem es _ _ i h (by omega)).1
theorem pm_round {A I : Nat → Nat → Int32} (hI : Inv A I) {N : Nat} (hN : 8000000 ≤ N) (x1 : Int32) : ∃ oc, f_X9_round N x1 (I 1 5) (I 1 6) (I 1 7) (A 2) (A 3) (A 4) (A 5) (A 6) (I 29 3) (I 29 4) (I 29 5) (I 31 5) (I 31 6) (I 31 7) (A 32) (A 33) (A 34) (A 35) (A 36) (A 37) (A 38) (A 39) (A 40) (A 41) (A 42) (A 43) (A 44) (A 45) (A 64) = some oc ∧ ∃ om, f_X10_round N x1 ((uI_X9_round A I oc) 65 12) ((uA_X9_round A I oc) 66) ((uA_X9_round A I oc) 69) ((uA_X9_round A I oc) 73) ((uA_X9_round A I oc) 74) = some om ∧ oc.1 = om.1 ∧ Inv (uA_X10_round (uA_X9_round A I oc) (uI_X9_round A I oc) om) (uI_X10_round (uA_X9_round A I oc) (uI_X9_round A I oc) om) := by
  obtain ⟨t, k, h1, h2, h3, h4, h5, h6, h7, h8⟩ := hI
  obtain ⟨hv, hc, hm⟩ := id h1
  have hU := dueB_lt hv
  have h48 := hv.2.1
  have hUU : dueB t (t 49) &&& dueB t (t 49) = dueB t (t 49) := Nat.and_self _
  by_cases hx : 0 ≤ x1.toInt ∧ x1.toInt ≤ 3
  · obtain ⟨du1, ss1, f3, t3, l3, k3, g3, on3, bk3, le3, clf3, cf3, st3, co3, cs3, ag3, sk, c3, tr⟩ := f6_seek (on := A 37) (bk := A 38) (le := A 39) (cf := A 41) hv hc h8 (show 1000 ≤ N by omega)
    have iT := InvT_of hv c3 tr
    obtain ⟨V, hV, d1, d2, d3, d4⟩ := tr
    have hin : f_X10_in (Int32.toInt64 x1) (0 : Int64) (3 : Int64) = some (b2 (0 ≤ x1.toInt ∧ x1.toInt ≤ 3)) := in_neg (by rw [t64]; exact Iff.rfl)
    have i0 : ¬ x1 < 0 := fun q => by rw [i32_lt, tI0] at q; omega
    have i3 : x1 ≤ 3 := by rw [i32_le, show (3 : Int32).toInt = 3 from rfl]; omega
    have hle := hV.1 _ _ hUU h48
    have hfd := f6_found (x := clf3) d1 hc.2.1 hU h48 (d2 _ _ hUU h48) hle
    have core : ∃ v, f_X9_round N x1 (I 1 5) (I 1 6) (I 1 7) (A 2) (A 3) (A 4) (A 5) (A 6) (I 29 3) (I 29 4) (I 29 5) (I 31 5) (I 31 6) (I 31 7) (A 32) (A 33) (A 34) (A 35) (A 36) (A 37) (A 38) (A 39) (A 40) (A 41) (A 42) (A 43) (A 44) (A 45) (A 64) = some (v, 1, du1, ss1, I 1 5, I 1 6, I 1 7, f3, t3, l3, k3, g3, on3, bk3, le3, clf3, cf3, st3, co3, cs3, ag3, A 64) ∧ ∀ (sm : Int32) (r lf st : Nat → Int32), ∃ sm' y st', f_X10_round N x1 sm (A 66) r lf st = some (v, sm', r, y, st') := by
      rcases d4 with ⟨d4, d5⟩ | ⟨d4, es, h53, hR, d5, d6⟩
      · refine ⟨-9, ?_, fun sm r lf st => ?_⟩
        · unfold f_X9_round
          rw [if_neg i0, if_pos i3, sk, Option.bind_some]
          dsimp only
          rw [hfd, Option.bind_some, if_pos (b2_0.mpr (by omega))]
        · obtain ⟨y, e⟩ := f10_walksNo (sm := sm) (x := lf) (st := st) hv hm hV d4 hN
          refine ⟨nI 0, y, st, ?_⟩
          unfold f_X10_round
          rw [hin, Option.bind_some, if_neg (fun q => b2_0.mp q hx), e, Option.bind_some]
          dsimp only
          rw [if_pos (by decide)]
      · have hmm := fun i hi => IsR_mem es _ _ i hR hi
        have hwl : ∀ (sm : Int32) (r lf st : Nat → Int32), x1 ≠ 0 → ∃ y st', f_X10_round N x1 sm (A 66) r lf st = some (if x1 = (1 : Int32) then nI es.length else (if x1 = (2 : Int32) then nI (cnt (agB t es) es.length) else nI (agC t es es.length)), nI es.length, r, y, st') := fun sm r lf st hne => by
          obtain ⟨y, st', e, e'⟩ := f10_walksYes (sm := sm) (x := lf) (st := st) hv hm hV d4 hR h53 hN
          refine ⟨y, st', ?_⟩
          unfold f_X10_round
          rw [hin, Option.bind_some, if_neg (fun q => b2_0.mp q hx), e, Option.bind_some]
          dsimp only
          rw [if_neg (nI_pos (by omega)), if_neg hne, f10_roundSum hv hm hmm h53 e' (by omega), Option.bind_some]
        have c0 : f_X9_round N x1 (I 1 5) (I 1 6) (I 1 7) (A 2) (A 3) (A 4) (A 5) (A 6) (I 29 3) (I 29 4) (I 29 5) (I 31 5) (I 31 6) (I 31 7) (A 32) (A 33) (A 34) (A 35) (A 36) (A 37) (A 38) (A 39) (A 40) (A 41) (A 42) (A 43) (A 44) (A 45) (A 64) = (if x1 = 0 then (f_X6_cost du1 (I 1 7) clf3).bind (fun r => some (r, 1, du1, ss1, I 1 5, I 1 6, I 1 7, f3, t3, l3, k3, g3, on3, bk3, le3, clf3, cf3, st3, co3, cs3, ag3, A 64)) else (if x1 = 1 then some (ss1, 1, du1, ss1, I 1 5, I 1 6, I 1 7, f3, t3, l3, k3, g3, on3, bk3, le3, clf3, cf3, st3, co3, cs3, ag3, A 64) else (if x1 = 2 then (f_X6_stepsAgain N ss1 ag3).bind (fun r => some (r, 1, du1, ss1, I 1 5, I 1 6, I 1 7, f3, t3, l3, k3, g3, on3, bk3, le3, clf3, cf3, st3, co3, cs3, ag3, A 64)) else (f_X6_costAgain N ss1 cs3 ag3).bind (fun r => some (r, 1, du1, ss1, I 1 5, I 1 6, I 1 7, f3, t3, l3, k3, g3, on3, bk3, le3, clf3, cf3, st3, co3, cs3, ag3, A 64))))) := by
          unfold f_X9_round
          rw [if_neg i0, if_pos i3, sk, Option.bind_some]
          dsimp only
          rw [hfd, Option.bind_some, if_neg (fun q => b2_0.mp q d4)]
        have hag : ∀ i, i < es.length → (ag3 i = 0 ∨ ag3 i = 1) ∧ (ag3 i = 1 ↔ agn t es i) := fun i hi => (d6 i hi).2.2.2
        rw [c0]
        by_cases j0 : x1 = 0
        · refine ⟨nI (V (dueB t (t 49)) (t 48)), ?_, fun sm r lf st => ?_⟩
          · rw [if_pos j0, f6_costIs d1 hc.2.1 hU h48 (d2 _ _ hUU h48), Option.bind_some]
          · obtain ⟨y, st', e, e'⟩ := f10_walksYes (sm := sm) (x := lf) (st := st) hv hm hV d4 hR h53 hN
            refine ⟨nI es.length, y, st', ?_⟩
            unfold f_X10_round
            rw [hin, Option.bind_some, if_neg (fun q => b2_0.mp q hx), e, Option.bind_some]
            dsimp only
            rw [if_neg (nI_pos (by omega)), if_pos j0]
        · rw [if_neg j0]
          by_cases j1 : x1 = 1
          · refine ⟨nI es.length, by rw [if_pos j1, d5], fun sm r lf st => ?_⟩
            obtain ⟨y, st', e⟩ := hwl sm r lf st j0
            exact ⟨_, y, st', by rw [e, if_pos j1]⟩
          · rw [if_neg j1]
            by_cases j2 : x1 = 2
            · refine ⟨nI (cnt (agB t es) es.length), by rw [if_pos j2, d5, f6_stepsAgain h53 hag (by omega), Option.bind_some], fun sm r lf st => ?_⟩
              obtain ⟨y, st', e⟩ := hwl sm r lf st j0
              exact ⟨_, y, st', by rw [e, if_neg j1, if_pos j2]⟩
            · refine ⟨nI (agC t es es.length), by rw [if_neg j2, d5, f6_costAgain h53 hag (fun i hi => (d6 i hi).2.2.1) (by omega), Option.bind_some], fun sm r lf st => ?_⟩
              obtain ⟨y, st', e⟩ := hwl sm r lf st j0
              exact ⟨_, y, st', by rw [e, if_neg j1, if_neg j2]⟩
    obtain ⟨v, e1, e2⟩ := core
    obtain ⟨sm', y, st', e3⟩ := e2 (I 65 12) (A 69) (A 73) (A 74)
    exact ⟨_, e1, _, e3, rfl, t, k, h1, h2, h3, h4, h5, h6, h7, iT⟩
  · have hin : f_X10_in (Int32.toInt64 x1) (0 : Int64) (3 : Int64) = some (b2 (0 ≤ x1.toInt ∧ x1.toInt ≤ 3)) := in_neg (by rw [t64]; exact Iff.rfl)
    have f9 : f_X9_round N x1 (I 1 5) (I 1 6) (I 1 7) (A 2) (A 3) (A 4) (A 5) (A 6) (I 29 3) (I 29 4) (I 29 5) (I 31 5) (I 31 6) (I 31 7) (A 32) (A 33) (A 34) (A 35) (A 36) (A 37) (A 38) (A 39) (A 40) (A 41) (A 42) (A 43) (A 44) (A 45) (A 64) = some (-2, I 29 3, I 29 4, I 29 5, I 31 5, I 31 6, I 31 7, A 32, A 33, A 34, A 35, A 36, A 37, A 38, A 39, A 40, A 41, A 42, A 43, A 44, A 45, upd (A 64) 2 (A 64 2 + 1)) := by
      unfold f_X9_round f_X9_round_j1
      rw [rf9_2, Option.bind_some]
      by_cases z : x1 < 0
      · rw [if_pos z]
      · rw [if_neg z, if_neg (fun q => hx (by rw [i32_lt, tI0] at z; rw [i32_le, show (3 : Int32).toInt = 3 from rfl] at q; omega))]
    refine ⟨_, f9, ?_⟩
    have f10 : ∀ (sm : Int32) (w r lf st : Nat → Int32), f_X10_round N x1 sm w r lf st = some (-2, sm, upd r 2 (r 2 + 1), lf, st) := fun sm w r lf st => by
      unfold f_X10_round
      rw [hin, Option.bind_some, if_pos (b2_0.mpr hx), rf10_2]; rfl
    exact ⟨_, f10 _ _ _ _ _, rfl, t, k, h1, h2, h3, h4.up (by decide), h5, h6, h7, h8⟩
theorem pm_step {A I : Nat → Nat → Int32} (hI : Inv A I) {N : Nat} (hN : 8000000 ≤ N) (x1 x2 : Int32) : ∃ oc, f_X9_step N x1 x2 (I 1 5) (I 1 6) (I 1 7) (A 2) (A 3) (A 4) (A 5) (A 6) (I 29 3) (I 29 4) (I 29 5) (I 31 5) (I 31 6) (I 31 7) (A 32) (A 33) (A 34) (A 35) (A 36) (A 37) (A 38) (A 39) (A 40) (A 41) (A 42) (A 43) (A 44) (A 45) (A 64) = some oc ∧ ∃ om, f_X10_step N x1 x2 ((uI_X9_step A I oc) 65 12) ((uA_X9_step A I oc) 66) ((uA_X9_step A I oc) 69) ((uA_X9_step A I oc) 73) ((uA_X9_step A I oc) 74) = some om ∧ oc.1 = om.1 ∧ Inv (uA_X10_step (uA_X9_step A I oc) (uI_X9_step A I oc) om) (uI_X10_step (uA_X9_step A I oc) (uI_X9_step A I oc) om) := by
  obtain ⟨t, k, h1, h2, h3, h4, h5, h6, h7, h8⟩ := hI
  obtain ⟨hv, hc, hm⟩ := id h1
  have hU := dueB_lt hv
  have h48 := hv.2.1
  have t8 := hv.1
  have hUU : dueB t (t 49) &&& dueB t (t 49) = dueB t (t 49) := Nat.and_self _
  obtain ⟨du1, ss1, f3, t3, l3, k3, g3, on3, bk3, le3, clf3, cf3, st3, co3, cs3, ag3, sk, c3, tr⟩ := f6_seek (on := A 37) (bk := A 38) (le := A 39) (cf := A 41) hv hc h8 (show 1000 ≤ N by omega)
  have iT := InvT_of hv c3 tr
  obtain ⟨V, hV, d1, d2, d3, d4⟩ := tr
  have hle := hV.1 _ _ hUU h48
  have hlen : ∃ L, L ≤ 53 ∧ ss1 = nI L ∧ (L ≠ 0 → ∃ es : List Nat, L = es.length ∧ V (dueB t (t 49)) (t 48) < 1000000 ∧ IsR t V (dueB t (t 49)) (t 48) es ∧ ∀ i, i < es.length → st3 i = nI (es.getD i 0 / 2) ∧ co3 (i + 1) = nI (sE t (es.getD i 0)) ∧ cs3 i = nI (sC t (es.getD i 0)) ∧ (ag3 i = 0 ∨ ag3 i = 1) ∧ (ag3 i = 1 ↔ agn t es i)) ∧ ∀ (sm : Int32) (lf st : Nat → Int32), ∃ v y st', f_X10_walks N sm lf st (A 66) = some (v, nI L, y, st') := by
    rcases d4 with ⟨d4, d5⟩ | ⟨d4, es, h53, hR, d5, d6⟩
    · exact ⟨0, by omega, d5, fun q => absurd rfl q, fun sm lf st => by
        obtain ⟨y, e⟩ := f10_walksNo (sm := sm) (x := lf) (st := st) hv hm hV d4 hN
        exact ⟨_, y, st, e⟩⟩
    · exact ⟨es.length, h53, d5, fun _ => ⟨es, rfl, d4, hR, d6⟩, fun sm lf st => by
        obtain ⟨y, st', e, _⟩ := f10_walksYes (sm := sm) (x := lf) (st := st) hv hm hV d4 hR h53 hN
        exact ⟨_, y, st', e⟩⟩
  obtain ⟨L, hL53, hss, hL, hwk⟩ := hlen
  have hin : f_X10_in (Int32.toInt64 x1) (0 : Int64) (Int32.toInt64 (nI L - 1)) = some (b2 (0 ≤ x1.toInt ∧ x1.toInt < L)) := in_neg (by
    have e2 : (nI L - 1).toInt = (L : Int) - 1 := pk_sub_toInt (a := L) (b := 1) (by omega) (by decide)
    rw [t64, t64, e2, show (0 : Int64).toInt = 0 from rfl]
    omega)
  by_cases hx : 0 ≤ x1.toInt ∧ x1.toInt < L
  · obtain ⟨i, hi, rfl⟩ := cin_nI (n := L) hx (by omega)
    obtain ⟨es, rfl, d4, hR, d6⟩ := hL (by omega)
    obtain ⟨a1, a2, a3, a4, a5⟩ := d6 i hi
    have hmm := IsR_mem es _ _ i hR hi
    have hco : co3 i = nI (corN t es i) := by
      cases i with
      | zero => exact d3
      | succ i => exact (d6 i (by omega)).2.1
    have hcl := corN_lt hv hR (show i ≤ es.length by omega)
    have hat := IsR_cor hR hi
    have hso := st_of hv hmm.1 hat
    obtain ⟨y, st', e, e'⟩ := f10_walksYes (sm := I 65 12) (x := A 73) (st := A 74) hv hm hV d4 hR hL53 hN
    have hd2 : nI (es.getD i 0) / (2 : Int32) = nI (es.getD i 0 / 2) := pk_div (d := 2) (by omega) (by decide) (by decide)
    have hr2 : nI (es.getD i 0) - nI (es.getD i 0) / (2 : Int32) * (2 : Int32) = nI (es.getD i 0 % 2) := pk_rem (d := 2) (by omega) (by decide) (by decide)
    have hfr := (hc.2.2.2 (es.getD i 0 / 2) (by omega)).1
    have hob := (hv.2.2.1 (es.getD i 0 / 2) (by omega)).1
    by_cases hok : 0 ≤ x2.toInt ∧ x2.toInt < 5
    · have core : ∃ v, f_X9_step N (nI i) x2 (I 1 5) (I 1 6) (I 1 7) (A 2) (A 3) (A 4) (A 5) (A 6) (I 29 3) (I 29 4) (I 29 5) (I 31 5) (I 31 6) (I 31 7) (A 32) (A 33) (A 34) (A 35) (A 36) (A 37) (A 38) (A 39) (A 40) (A 41) (A 42) (A 43) (A 44) (A 45) (A 64) = some (v, 1, du1, ss1, I 1 5, I 1 6, I 1 7, f3, t3, l3, k3, g3, on3, bk3, le3, clf3, cf3, st3, co3, cs3, ag3, A 64) ∧ f_X10_step N (nI i) x2 (I 65 12) (A 66) (A 69) (A 73) (A 74) = some (v, nI es.length, A 69, y, st') := by
        obtain ⟨j, hj, rfl⟩ := cin_nI (n := 5) hok (by decide)
        have c9 : f_X9_step N (nI i) (nI j) (I 1 5) (I 1 6) (I 1 7) (A 2) (A 3) (A 4) (A 5) (A 6) (I 29 3) (I 29 4) (I 29 5) (I 31 5) (I 31 6) (I 31 7) (A 32) (A 33) (A 34) (A 35) (A 36) (A 37) (A 38) (A 39) (A 40) (A 41) (A 42) (A 43) (A 44) (A 45) (A 64) = (if nI j = 0 then ga (nI i) 64 (some (st3 (Int32.toNatClampNeg (nI i)), 1, du1, ss1, I 1 5, I 1 6, I 1 7, f3, t3, l3, k3, g3, on3, bk3, le3, clf3, cf3, st3, co3, cs3, ag3, A 64)) else (if nI j = 1 then ga (nI i) 64 (ga (st3 (Int32.toNatClampNeg (nI i))) 8 (ga (nI i) 65 (some (if (A 2 (Int32.toNatClampNeg (st3 (Int32.toNatClampNeg (nI i))))) = (co3 (Int32.toNatClampNeg (nI i))) then (0 : Int32) else (1 : Int32), 1, du1, ss1, I 1 5, I 1 6, I 1 7, f3, t3, l3, k3, g3, on3, bk3, le3, clf3, cf3, st3, co3, cs3, ag3, A 64)))) else (if nI j = 2 then ga (nI i + (1 : Int32)) 65 (some (co3 (Int32.toNatClampNeg (nI i + (1 : Int32))), 1, du1, ss1, I 1 5, I 1 6, I 1 7, f3, t3, l3, k3, g3, on3, bk3, le3, clf3, cf3, st3, co3, cs3, ag3, A 64)) else (if nI j = 3 then ga (nI i) 64 (some (if (ag3 (Int32.toNatClampNeg (nI i))) = 0 then (0 : Int32) else (1 : Int32), 1, du1, ss1, I 1 5, I 1 6, I 1 7, f3, t3, l3, k3, g3, on3, bk3, le3, clf3, cf3, st3, co3, cs3, ag3, A 64)) else (if nI j = 4 then ga (nI i) 64 (some (cs3 (Int32.toNatClampNeg (nI i)), 1, du1, ss1, I 1 5, I 1 6, I 1 7, f3, t3, l3, k3, g3, on3, bk3, le3, clf3, cf3, st3, co3, cs3, ag3, A 64)) else (f_X9_refuse (-2 : Int32) (A 64)).bind (fun r => some (r.1, 1, du1, ss1, I 1 5, I 1 6, I 1 7, f3, t3, l3, k3, g3, on3, bk3, le3, clf3, cf3, st3, co3, cs3, ag3, r.2))))))) := by
          unfold f_X9_step
          rw [sk, Option.bind_some]
          dsimp only
          rw [if_neg (nI_pos (show i < 2 ^ 31 by omega)), hss, if_pos (nI_lt hi (by omega))]
        have m9 : f_X10_step N (nI i) (nI j) (I 65 12) (A 66) (A 69) (A 73) (A 74) = (if nI j = 0 then ga (nI i) 64 (some ((st' (Int32.toNatClampNeg (nI i))) / (2 : Int32), nI es.length, A 69, y, st')) else (if nI j = 1 then ga (nI i) 64 (some ((st' (Int32.toNatClampNeg (nI i))) - (st' (Int32.toNatClampNeg (nI i))) / (2 : Int32) * (2 : Int32), nI es.length, A 69, y, st')) else (if nI j = 2 then ga (nI i) 64 ((f_X10_ends (st' (Int32.toNatClampNeg (nI i))) (A 66)).bind (fun r => some (r, nI es.length, A 69, y, st'))) else (if nI j = 3 then (f_X10_isAgain N (nI i) st' (A 66)).bind (fun r => some (if r = 0 then (0 : Int32) else (1 : Int32), nI es.length, A 69, y, st')) else (if nI j = 4 then ga (nI i) 64 ((f_X10_cost (st' (Int32.toNatClampNeg (nI i))) (A 66)).bind (fun r => some (r, nI es.length, A 69, y, st'))) else (f_X10_refused (-2 : Int32) (A 69)).bind (fun r => some (r.1, nI es.length, r.2, y, st'))))))) := by
          unfold f_X10_step
          rw [e, Option.bind_some]
          dsimp only
          rw [hin, Option.bind_some, if_neg (fun q => b2_0.mp q hx)]
        have g64 : ∀ {α : Type} {X : Option α}, ga (nI i) 64 X = X := fun {α X} => ga_ok (by omega) (by decide)
        have g65 : ∀ {α : Type} {X : Option α}, ga (nI i) 65 X = X := fun {α X} => ga_ok (by omega) (by decide)
        have cli : Int32.toNatClampNeg (nI i) = i := nI_clamp (by omega)
        rw [c9, m9]
        have : j = 0 ∨ j = 1 ∨ j = 2 ∨ j = 3 ∨ j = 4 := by omega
        rcases this with rfl | rfl | rfl | rfl | rfl
        · refine ⟨nI (es.getD i 0 / 2), ?_, ?_⟩
          · rw [if_pos (show nI 0 = 0 by decide), g64, cli, a1]
          · rw [if_pos (show nI 0 = 0 by decide), g64, cli, e' i hi, hd2]
        · refine ⟨nI (es.getD i 0 % 2), ?_, ?_⟩
          · rw [if_neg (show ¬ nI 1 = 0 by decide), if_pos (show nI 1 = 1 by decide), g64, cli, a1, ga_ok (by omega) (by decide), g65, nI_clamp (by omega), hfr, hco]
            by_cases z : es.getD i 0 % 2 = 0
            · rw [if_pos (by rw [hso.2.mpr z]), z]; rfl
            · rw [if_neg (fun q => z (hso.2.mp ((nI_eq (by omega) (by omega)).mp q))), show es.getD i 0 % 2 = 1 by omega]; rfl
          · rw [if_neg (show ¬ nI 1 = 0 by decide), if_pos (show nI 1 = 1 by decide), g64, cli, e' i hi, hr2]
        · refine ⟨nI (sE t (es.getD i 0)), ?_, ?_⟩
          · rw [if_neg (show ¬ nI 2 = 0 by decide), if_neg (show ¬ nI 2 = 1 by decide), if_pos (show nI 2 = 2 by decide), nI_1, ga_ok (by omega) (by decide), nI_clamp (by omega), a2]
          · rw [if_neg (show ¬ nI 2 = 0 by decide), if_neg (show ¬ nI 2 = 1 by decide), if_pos (show nI 2 = 2 by decide), g64, cli, e' i hi, f10_ends hv hm hmm.1, Option.bind_some]
        · refine ⟨if agB t es i = true then 1 else 0, ?_, ?_⟩
          · rw [if_neg (show ¬ nI 3 = 0 by decide), if_neg (show ¬ nI 3 = 1 by decide), if_neg (show ¬ nI 3 = 2 by decide), if_pos (show nI 3 = 3 by decide), g64, cli]
            by_cases z : agB t es i = true
            · rw [a5.mpr ((agB_iff t es i).mp z), if_neg (by decide), if_pos z]
            · rw [a4.resolve_right (fun q => z ((agB_iff t es i).mpr (a5.mp q))), if_pos rfl, if_neg z]
          · rw [if_neg (show ¬ nI 3 = 0 by decide), if_neg (show ¬ nI 3 = 1 by decide), if_neg (show ¬ nI 3 = 2 by decide), if_pos (show nI 3 = 3 by decide), f10_isAgain hv hm (fun i hi => (IsR_mem es _ _ i hR hi).1) hL53 e' hi (by omega), Option.bind_some]
            by_cases z : agB t es i = true
            · rw [if_neg (fun q => b2_0.mp q z), if_pos z]
            · rw [if_pos (b2_0.mpr z), if_neg z]
        · refine ⟨nI (sC t (es.getD i 0)), ?_, ?_⟩
          · rw [if_neg (show ¬ nI 4 = 0 by decide), if_neg (show ¬ nI 4 = 1 by decide), if_neg (show ¬ nI 4 = 2 by decide), if_neg (show ¬ nI 4 = 3 by decide), if_pos (show nI 4 = 4 by decide), g64, cli, a3]
          · rw [if_neg (show ¬ nI 4 = 0 by decide), if_neg (show ¬ nI 4 = 1 by decide), if_neg (show ¬ nI 4 = 2 by decide), if_neg (show ¬ nI 4 = 3 by decide), if_pos (show nI 4 = 4 by decide), g64, cli, e' i hi, f10_cost hv hm hmm.1, Option.bind_some, show toldC (sC t (es.getD i 0)) = nI (sC t (es.getD i 0)) from if_pos hmm.2]
      obtain ⟨v, e1, e2⟩ := core
      exact ⟨_, e1, _, e2, rfl, t, k, h1, h2, h3, h4, h5, h6, h7, iT⟩
    · have n0 : ¬ x2 = 0 := fun q => hok (by rw [q]; decide)
      have n1 : ¬ x2 = 1 := fun q => hok (by rw [q]; decide)
      have n2 : ¬ x2 = 2 := fun q => hok (by rw [q]; decide)
      have n3 : ¬ x2 = 3 := fun q => hok (by rw [q]; decide)
      have n4 : ¬ x2 = 4 := fun q => hok (by rw [q]; decide)
      have f9 : f_X9_step N (nI i) x2 (I 1 5) (I 1 6) (I 1 7) (A 2) (A 3) (A 4) (A 5) (A 6) (I 29 3) (I 29 4) (I 29 5) (I 31 5) (I 31 6) (I 31 7) (A 32) (A 33) (A 34) (A 35) (A 36) (A 37) (A 38) (A 39) (A 40) (A 41) (A 42) (A 43) (A 44) (A 45) (A 64) = some (-2, 1, du1, ss1, I 1 5, I 1 6, I 1 7, f3, t3, l3, k3, g3, on3, bk3, le3, clf3, cf3, st3, co3, cs3, ag3, upd (A 64) 2 (A 64 2 + 1)) := by
        unfold f_X9_step
        rw [sk, Option.bind_some]
        dsimp only
        rw [if_neg (nI_pos (show i < 2 ^ 31 by omega)), hss, if_pos (nI_lt hi (by omega)), if_neg n0, if_neg n1, if_neg n2, if_neg n3, if_neg n4, rf9_2, Option.bind_some]
      refine ⟨_, f9, ?_⟩
      have f10 : ∀ r : Nat → Int32, f_X10_step N (nI i) x2 (I 65 12) (A 66) r (A 73) (A 74) = some (-2, nI es.length, upd r 2 (r 2 + 1), y, st') := fun r => by
        unfold f_X10_step
        rw [e, Option.bind_some]
        dsimp only
        rw [hin, Option.bind_some, if_neg (fun q => b2_0.mp q hx), if_neg n0, if_neg n1, if_neg n2, if_neg n3, if_neg n4, rf10_2, Option.bind_some]
      exact ⟨_, f10 _, rfl, t, k, h1, h2, h3, h4.up (by decide), h5, h6, h7, iT⟩
  · have f9 : f_X9_step N x1 x2 (I 1 5) (I 1 6) (I 1 7) (A 2) (A 3) (A 4) (A 5) (A 6) (I 29 3) (I 29 4) (I 29 5) (I 31 5) (I 31 6) (I 31 7) (A 32) (A 33) (A 34) (A 35) (A 36) (A 37) (A 38) (A 39) (A 40) (A 41) (A 42) (A 43) (A 44) (A 45) (A 64) = some (-1, 1, du1, ss1, I 1 5, I 1 6, I 1 7, f3, t3, l3, k3, g3, on3, bk3, le3, clf3, cf3, st3, co3, cs3, ag3, upd (A 64) 1 (A 64 1 + 1)) := by
      unfold f_X9_step
      rw [sk, Option.bind_some]
      dsimp only
      unfold f_X9_step_j2
      rw [rf9_1, Option.bind_some]
      by_cases z : x1 < 0
      · rw [if_pos z]
      · rw [if_neg z, if_neg (fun q => hx (by rw [i32_lt, tI0] at z; rw [hss, i32_lt, nI_toInt (by omega)] at q; omega))]
    refine ⟨_, f9, ?_⟩
    obtain ⟨v, y, st', e⟩ := hwk (I 65 12) (A 73) (A 74)
    have f10 : ∀ r : Nat → Int32, f_X10_step N x1 x2 (I 65 12) (A 66) r (A 73) (A 74) = some (-1, nI L, upd r 1 (r 1 + 1), y, st') := fun r => by
      unfold f_X10_step
      rw [e, Option.bind_some]
      dsimp only
      rw [hin, Option.bind_some, if_pos (b2_0.mpr hx), rf10_1, Option.bind_some]
    exact ⟨_, f10 _, rfl, t, k, h1, h2, h3, h4.up (by decide), h5, h6, h7, iT⟩
