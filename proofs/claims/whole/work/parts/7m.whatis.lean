/-! of which kind a street was by the row; the worst street -/
theorem mR_self (t : Nat → Nat) : mR t (fun j => nI (t j)) := ⟨rfl, rfl, fun _ _ _ _ => rfl⟩
noncomputable def soB (t : Nat → Nat) (f : Nat → Int32) (n : Nat) : Bool := decide (rC t < 1000000 ∧ n ≤ mT t ∧ ldT (smP t f (rE t)) 0 n = n)
theorem f10_isSo {t : Nat → Nat} {w lf st f g : Nat → Int32} {sm : Int32} (hv : vT t) (h : mR t w) {n : Nat} (hn : n ≤ 32) (hg : ∀ j, j < n → f j = g j) {N : Nat} (hN : 8000000 ≤ N) : ∃ sm' y st', f_X10_isSo N (nI n) sm g lf st w = some (b2 (soB t f n = true), sm', y, st') := by
  obtain ⟨y, st', e1, e2⟩ := f10_walksC (sm := sm) (x := lf) (st := st) hv h hN
  have h54 := mT_54 hv h
  refine ⟨nI (lT t), y, st', ?_⟩
  unfold f_X10_isSo
  rw [e1, Option.bind_some]
  dsimp only
  by_cases z : rC t < 1000000
  · have hmT : mT t = (rE t).length + 1 := if_pos z
    have hlT : lT t = (rE t).length := if_pos z
    rw [show toldC (rC t) = nI (rC t) from if_pos z, if_neg (nI_pos (by omega)), nI_1, hlT, ← hmT]
    by_cases q : n ≤ mT t
    · rw [if_pos (nI_le q (by omega))]
      have key : ∀ k i M, i + k = n → k < M → lp (fun s_25 => f_X10_isSo_b25 (nI n) s_25 st' w g (nI (rE t).length) y) M (nI i) = some (if ldT (smP t f (rE t)) i k = n then .inl () else .inr ((0 : Int32), nI (rE t).length, y, st')) := by
        intro k
        induction k with
        | zero =>
          intro i M hi hM
          obtain ⟨M, rfl⟩ : ∃ M', M = M' + 1 := ⟨M - 1, by omega⟩
          apply lp_r
          show f_X10_isSo_b25 (nI n) (nI i) st' w g (nI (rE t).length) y = _
          unfold f_X10_isSo_b25 ldT
          rw [if_pos (nI_le (by omega) (by omega)), if_pos (by omega)]
        | succ k ih =>
          intro i M hi hM
          obtain ⟨M, rfl⟩ : ∃ M', M = M' + 1 := ⟨M - 1, by omega⟩
          have body : f_X10_isSo_b25 (nI n) (nI i) st' w g (nI (rE t).length) y = if smP t f (rE t) i then some (.inl (nI (i + 1))) else some (.inr (.inr ((0 : Int32), nI (rE t).length, y, st'))) := by
            unfold f_X10_isSo_b25
            rw [if_neg (nI_ge (by omega) (by omega)), ga_ok (by omega) (by decide), f10_cornerOf hv h z (e2 z) (show i ≤ (rE t).length by omega), Option.bind_some, nI_clamp (by omega), ← hg i (by omega), nI_1]
            unfold smP
            by_cases y : f i = nI (corN t (rE t) i)
            · rw [if_pos y, if_pos (decide_eq_true y)]
            · rw [if_neg y, if_neg (by rw [decide_eq_true_iff]; exact y)]
          unfold ldT
          by_cases y : smP t f (rE t) i = true
          · rw [if_pos y] at body
            rw [if_pos y]
            exact (lp_l body).trans (ih (i + 1) M (by omega) (by omega))
          · rw [if_neg y] at body
            rw [if_neg y, if_neg (by omega)]
            exact lp_r body
      have k0 := key n 0 N (by omega) (by omega)
      rw [show lp (fun s_25 => f_X10_isSo_b25 (nI n) s_25 st' w g (nI (rE t).length) y) N (0 : Int32) = _ from k0, Option.bind_some]
      by_cases y : ldT (smP t f (rE t)) 0 n = n
      · rw [if_pos y]
        have : soB t f n = true := decide_eq_true ⟨z, q, y⟩
        rw [show b2 (soB t f n = true) = 1 from if_pos this]
      · rw [if_neg y]
        have : ¬ soB t f n = true := fun w => y (of_decide_eq_true w).2.2
        rw [show b2 (soB t f n = true) = 0 from if_neg this]
    · rw [if_neg (nI_ge (by omega) (by omega))]
      have : ¬ soB t f n = true := fun w => q (of_decide_eq_true w).2.1
      rw [show b2 (soB t f n = true) = 0 from if_neg this]
  · have : ¬ soB t f n = true := fun w => z (of_decide_eq_true w).1
    rw [show toldC (rC t) = -9 from if_neg z, if_pos (by decide), show b2 (soB t f n = true) = 0 from if_neg this]
/-- the town in which the kind (b = 0) or the figure (b = 1) of a street is guessed -/
def gsT (t : Nat → Nat) (b s v : Nat) : Nat → Nat := setT t (8 * (3 + b) + s) v
theorem vT.gs {t : Nat → Nat} (hv : vT t) {b s v : Nat} (hs : s < t 49) (hb : b < 2) (hvv : (b = 0 → v ≤ 5) ∧ (b = 1 → v ≤ 9)) : vT (gsT t b s v) :=
  hv.set hs (by omega) (by omega) ⟨by omega, fun _ => hvv.1 (by omega), fun _ => hvv.2 (by omega), by omega⟩
theorem f9_beginsSo {t : Nat → Nat} {fr to ln kd fg told : Nat → Int32} {cl sz hm tl : Int32} (hv : vT t) (hc : cR t fr to ln kd fg cl sz hm) {b s v n : Nat} (hs : s < t 49) (hb : b < 2) (hvv : (b = 0 → v ≤ 5) ∧ (b = 1 → v ≤ 9)) (hn : n ≤ 32) (htl : tl = nI n) (z : TT) (hz : TTok z) {N : Nat} (hN : 1000 ≤ N) : ∃ z', f_X9_beginsSo N (nI s) (nI b) (nI v) tl cl sz hm fr to ln kd fg z.1 z.2.1 z.2.2.1 z.2.2.2.1 z.2.2.2.2.1 z.2.2.2.2.2.1 z.2.2.2.2.2.2.1 z.2.2.2.2.2.2.2.1 z.2.2.2.2.2.2.2.2.1 z.2.2.2.2.2.2.2.2.2.1 z.2.2.2.2.2.2.2.2.2.2.1 z.2.2.2.2.2.2.2.2.2.2.2.1 z.2.2.2.2.2.2.2.2.2.2.2.2.1 z.2.2.2.2.2.2.2.2.2.2.2.2.2.1 z.2.2.2.2.2.2.2.2.2.2.2.2.2.2.1 z.2.2.2.2.2.2.2.2.2.2.2.2.2.2.2.1 z.2.2.2.2.2.2.2.2.2.2.2.2.2.2.2.2.1 z.2.2.2.2.2.2.2.2.2.2.2.2.2.2.2.2.2.1 z.2.2.2.2.2.2.2.2.2.2.2.2.2.2.2.2.2.2.1 z.2.2.2.2.2.2.2.2.2.2.2.2.2.2.2.2.2.2.2.1 z.2.2.2.2.2.2.2.2.2.2.2.2.2.2.2.2.2.2.2.2.1 z.2.2.2.2.2.2.2.2.2.2.2.2.2.2.2.2.2.2.2.2.2.1 z.2.2.2.2.2.2.2.2.2.2.2.2.2.2.2.2.2.2.2.2.2.2.1 z.2.2.2.2.2.2.2.2.2.2.2.2.2.2.2.2.2.2.2.2.2.2.2.1 z.2.2.2.2.2.2.2.2.2.2.2.2.2.2.2.2.2.2.2.2.2.2.2.2.1 z.2.2.2.2.2.2.2.2.2.2.2.2.2.2.2.2.2.2.2.2.2.2.2.2.2.1 z.2.2.2.2.2.2.2.2.2.2.2.2.2.2.2.2.2.2.2.2.2.2.2.2.2.2.1 z.2.2.2.2.2.2.2.2.2.2.2.2.2.2.2.2.2.2.2.2.2.2.2.2.2.2.2 told = some (b2 (soB (gsT t b s v) told n = true), z') ∧ TTok z' := by
  have h8 := hv.1
  have hu := hv.gs hs hb hvv
  obtain ⟨f4, t4, l4, k4, g4, e1, e2⟩ := f7_takeOver (f2 := z.2.2.2.1) (t2 := z.2.2.2.2.1) (l2 := z.2.2.2.2.2.1) (k2 := z.2.2.2.2.2.2.1) (g2 := z.2.2.2.2.2.2.2.1) (c2 := z.1) (s2 := z.2.1) (h2 := z.2.2.1) hv hc
  have hm2 : ∃ kk gg, ((if nI b = 0 then ga (nI s) 8 (some (upd k4 (Int32.toNatClampNeg (nI s)) (nI v), g4)) else ga (nI s) 8 (some (k4, upd g4 (Int32.toNatClampNeg (nI s)) (nI v)))) : Option ((Nat → Int32) × (Nat → Int32))) = some (kk, gg) ∧ cR (gsT t b s v) f4 t4 l4 kk gg cl sz hm := by
    have : b = 0 ∨ b = 1 := by omega
    rcases this with rfl | rfl
    · refine ⟨_, _, ?_, e2.kd hv hs (v := v)⟩
      rw [if_pos (show nI 0 = 0 from rfl), ga_ok (by omega) (by decide), nI_clamp (by omega)]
    · refine ⟨_, _, ?_, e2.fg hv hs (v := v)⟩
      rw [if_neg (show ¬ nI 1 = 0 by decide), ga_ok (by omega) (by decide), nI_clamp (by omega)]
  obtain ⟨kk, gg, m1, m2⟩ := hm2
  obtain ⟨du1, ss1, f3, t3, l3, k3, g3, on3, bk3, le3, clf3, cf3, st3, co3, cs3, ag3, sk, c3, tr⟩ := f6_seek (on := z.2.2.2.2.2.2.2.2.2.2.2.2.2.2.2.2.2.2.2.1) (bk := z.2.2.2.2.2.2.2.2.2.2.2.2.2.2.2.2.2.2.2.2.1) (le := z.2.2.2.2.2.2.2.2.2.2.2.2.2.2.2.2.2.2.2.2.2.1) (cf := z.2.2.2.2.2.2.2.2.2.2.2.2.2.2.2.2.2.2.2.2.2.2.2.1) hu m2 hz hN
  have iT := InvT_of hu c3 tr
  obtain ⟨d1, d2, d3, d4⟩ := tour_is hu tr
  have h54 := mT_54 hu (mR_self _)
  have sc := f9_sameCorners (f := told) hu d1 m2.2.1 d3 d2 d4 h54 hn htl (show 100 ≤ N by omega)
  have hle := ldT_le (smP (gsT t b s v) told (rE (gsT t b s v))) (min n (mT (gsT t b s v))) 0
  refine ⟨(cl, sz, hm, f4, t4, l4, kk, gg, 1, du1, ss1, cl, sz, hm, f3, t3, l3, k3, g3, on3, bk3, le3, clf3, cf3, st3, co3, cs3, ag3), ?_, iT⟩
  unfold f_X9_beginsSo
  rw [e1, Option.bind_some]
  dsimp only
  rw [m1, Option.bind_some]
  dsimp only
  rw [sk, Option.bind_some]
  dsimp only
  rw [f6_found d1 m2.2.1 (dueB_lt hu) hu.2.1 d2 (rC_le hu), Option.bind_some]
  by_cases y : rC (gsT t b s v) < 1000000
  · rw [if_neg (fun q => b2_0.mp q y), sc, Option.bind_some]
    have e : (if nI (ldT (smP (gsT t b s v) told (rE (gsT t b s v))) 0 (min n (mT (gsT t b s v)))) = tl then (1 : Int32) else (0 : Int32)) = b2 (soB (gsT t b s v) told n = true) := by
      unfold b2
      by_cases x : n ≤ mT (gsT t b s v)
      · rw [show min n (mT (gsT t b s v)) = n by omega] at hle ⊢
        by_cases w : ldT (smP (gsT t b s v) told (rE (gsT t b s v))) 0 n = n
        · rw [if_pos (by rw [w, htl]), if_pos (show soB (gsT t b s v) told n = true from decide_eq_true ⟨y, x, w⟩)]
        · rw [if_neg (fun q => w ((nI_eq (by omega) (by omega)).mp (q.trans htl))), if_neg (fun q => w (of_decide_eq_true q).2.2)]
      · rw [if_neg (fun q => by have := (nI_eq (by omega) (by omega)).mp (q.trans htl); omega), if_neg (fun q => x (of_decide_eq_true q).2.1)]
    rw [e, gb_b2]
  · rw [if_pos (b2_0.mpr y), show b2 (soB (gsT t b s v) told n = true) = 0 from if_neg (fun q => y (of_decide_eq_true q).1)]
theorem bS_t {p : Nat → Bool} {n : Nat} (h : p n = true) : bS p n ||| 2 ^ n = bS p (n + 1) := by rw [← bS_or, if_pos h]
theorem bS_f {p : Nat → Bool} {n : Nat} (h : ¬ p n = true) : bS p (n + 1) = bS p n := by
  show bS p n + (if p n then 2 ^ n else 0) = _
  rw [if_neg h]; rfl
theorem pm_whatIs {A I : Nat → Nat → Int32} (hI : Inv A I) {N : Nat} (hN : 8000000 ≤ N) (x1 x2 : Int32) : ∃ oc, f_X9_whatIs N x1 x2 (I 0 12) (I 1 5) (I 1 6) (I 1 7) (A 2) (A 3) (A 4) (A 5) (A 6) (I 7 5) (I 7 6) (I 7 7) (A 8) (A 9) (A 10) (A 11) (A 12) (I 29 3) (I 29 4) (I 29 5) (I 31 5) (I 31 6) (I 31 7) (A 32) (A 33) (A 34) (A 35) (A 36) (A 37) (A 38) (A 39) (A 40) (A 41) (A 42) (A 43) (A 44) (A 45) (A 63) (A 64) = some oc ∧ ∃ om, f_X10_whatIs N x1 x2 ((uI_X9_whatIs A I oc) 65 6) ((uI_X9_whatIs A I oc) 65 12) ((uA_X9_whatIs A I oc) 66) ((uA_X9_whatIs A I oc) 68) ((uA_X9_whatIs A I oc) 69) ((uA_X9_whatIs A I oc) 70) ((uA_X9_whatIs A I oc) 73) ((uA_X9_whatIs A I oc) 74) = some om ∧ oc.1 = om.1 ∧ Inv (uA_X10_whatIs (uA_X9_whatIs A I oc) (uI_X9_whatIs A I oc) om) (uI_X10_whatIs (uA_X9_whatIs A I oc) (uI_X9_whatIs A I oc) om) := by
  obtain ⟨t, k, h1, h2, h3, h4, h5, h6, h7, h8⟩ := hI
  obtain ⟨hv, hc, hm⟩ := id h1
  obtain ⟨n, hn, tl, rl, hr⟩ := id h5
  have t8 := hv.1
  by_cases hx : 0 ≤ x1.toInt ∧ x1.toInt < t 49
  · have hin : f_X10_in (Int32.toInt64 x2) (0 : Int64) (1 : Int64) = some (b2 (0 ≤ x2.toInt ∧ x2.toInt ≤ 1)) := in_neg (by rw [t64]; exact Iff.rfl)
    by_cases hy : 0 ≤ x2.toInt ∧ x2.toInt ≤ 1
    · obtain ⟨s, hs, rfl⟩ := cin_nI hx (by omega)
      obtain ⟨b, hb, rfl⟩ := cin_nI (n := 2) (x := x2) ⟨hy.1, by omega⟩ (by decide)
      have lim : (if nI b = 0 then (6 : Int32) else (10 : Int32)) = nI (if b = 0 then 6 else 10) := by
        have : b = 0 ∨ b = 1 := by omega
        rcases this with rfl | rfl <;> rfl
      have off : (if nI b = 0 then (24 : Int32) else (32 : Int32)) + nI s = nI (8 * (3 + b) + s) := by
        have : b = 0 ∨ b = 1 := by omega
        rcases this with rfl | rfl
        · exact nI_add 24 s
        · exact nI_add 32 s
      have lm : (if b = 0 then 6 else 10) ≤ 10 := by split <;> omega
      have hbd : ∀ i, i < (if b = 0 then 6 else 10) → (b = 0 → i ≤ 5) ∧ (b = 1 → i ≤ 9) := fun i hi => ⟨fun q => by rw [if_pos q] at hi; omega, fun q => by omega⟩
      obtain ⟨⟨ce, cz⟩, e1, q1, q2⟩ := lp_cnt (b := fun s_51 : Int32 × Int32 × TT => f_X9_whatIs_b51 N (nI b) s_51.2.1 s_51.1 s_51.2.2.1 s_51.2.2.2.1 s_51.2.2.2.2.1 s_51.2.2.2.2.2.1 s_51.2.2.2.2.2.2.1 s_51.2.2.2.2.2.2.2.1 s_51.2.2.2.2.2.2.2.2.1 s_51.2.2.2.2.2.2.2.2.2.1 s_51.2.2.2.2.2.2.2.2.2.2.1 s_51.2.2.2.2.2.2.2.2.2.2.2.1 s_51.2.2.2.2.2.2.2.2.2.2.2.2.1 s_51.2.2.2.2.2.2.2.2.2.2.2.2.2.1 s_51.2.2.2.2.2.2.2.2.2.2.2.2.2.2.1 s_51.2.2.2.2.2.2.2.2.2.2.2.2.2.2.2.1 s_51.2.2.2.2.2.2.2.2.2.2.2.2.2.2.2.2.1 s_51.2.2.2.2.2.2.2.2.2.2.2.2.2.2.2.2.2.1 s_51.2.2.2.2.2.2.2.2.2.2.2.2.2.2.2.2.2.2.1 s_51.2.2.2.2.2.2.2.2.2.2.2.2.2.2.2.2.2.2.2.1 s_51.2.2.2.2.2.2.2.2.2.2.2.2.2.2.2.2.2.2.2.2.1 s_51.2.2.2.2.2.2.2.2.2.2.2.2.2.2.2.2.2.2.2.2.2.1 s_51.2.2.2.2.2.2.2.2.2.2.2.2.2.2.2.2.2.2.2.2.2.2.1 s_51.2.2.2.2.2.2.2.2.2.2.2.2.2.2.2.2.2.2.2.2.2.2.2.1 s_51.2.2.2.2.2.2.2.2.2.2.2.2.2.2.2.2.2.2.2.2.2.2.2.2.1 s_51.2.2.2.2.2.2.2.2.2.2.2.2.2.2.2.2.2.2.2.2.2.2.2.2.2.1 s_51.2.2.2.2.2.2.2.2.2.2.2.2.2.2.2.2.2.2.2.2.2.2.2.2.2.2.1 s_51.2.2.2.2.2.2.2.2.2.2.2.2.2.2.2.2.2.2.2.2.2.2.2.2.2.2.2.1 s_51.2.2.2.2.2.2.2.2.2.2.2.2.2.2.2.2.2.2.2.2.2.2.2.2.2.2.2.2.1 s_51.2.2.2.2.2.2.2.2.2.2.2.2.2.2.2.2.2.2.2.2.2.2.2.2.2.2.2.2.2 (nI s) (I 0 12) (I 1 5) (I 1 6) (I 1 7) (A 2) (A 3) (A 4) (A 5) (A 6) (A 63)) (fun i z => (nI (bS (fun v => soB (gsT t b s v) (A 63) n) i), nI i, z)) (fun _ z => TTok z) (fun e : Int32 × TT => e.1 = nI (bS (fun v => soB (gsT t b s v) (A 63) n) (if b = 0 then 6 else 10)) ∧ TTok e.2) (if b = 0 then 6 else 10) (fun i z hi hz => by
        obtain ⟨z', c1, c2⟩ := f9_beginsSo (told := A 63) hv hc hs hb (hbd i hi) hn tl z hz (show 1000 ≤ N by omega)
        refine ⟨z', ?_, c2⟩
        dsimp only
        unfold f_X9_whatIs_b51
        rw [lim, if_neg (nI_ge hi (by omega)), c1, Option.bind_some, nI_1]
        dsimp only
        by_cases y : soB (gsT t b s i) (A 63) n = true
        · rw [if_neg (fun q => b2_0.mp q y), sh1 (by omega), xI_or, bS_t (p := fun v => soB (gsT t b s v) (A 63) n) y]
        · rw [if_pos (b2_0.mpr y), bS_f (p := fun v => soB (gsT t b s v) (A 63) n) y]) (fun z hz => by
        refine ⟨(nI (bS (fun v => soB (gsT t b s v) (A 63) n) (if b = 0 then 6 else 10)), z), ?_, rfl, hz⟩
        dsimp only
        unfold f_X9_whatIs_b51
        rw [lim, if_pos (nI_le (Nat.le_refl _) (by omega))]) (if b = 0 then 6 else 10) 0 N (I 7 5, I 7 6, I 7 7, A 8, A 9, A 10, A 11, A 12, I 29 3, I 29 4, I 29 5, I 31 5, I 31 6, I 31 7, A 32, A 33, A 34, A 35, A 36, A 37, A 38, A 39, A 40, A 41, A 42, A 43, A 44, A 45) (by omega) (by omega) h8
      dsimp only at q1 q2
      have f9 : f_X9_whatIs N (nI s) (nI b) (I 0 12) (I 1 5) (I 1 6) (I 1 7) (A 2) (A 3) (A 4) (A 5) (A 6) (I 7 5) (I 7 6) (I 7 7) (A 8) (A 9) (A 10) (A 11) (A 12) (I 29 3) (I 29 4) (I 29 5) (I 31 5) (I 31 6) (I 31 7) (A 32) (A 33) (A 34) (A 35) (A 36) (A 37) (A 38) (A 39) (A 40) (A 41) (A 42) (A 43) (A 44) (A 45) (A 63) (A 64) = some (ce, cz.1, cz.2.1, cz.2.2.1, cz.2.2.2.1, cz.2.2.2.2.1, cz.2.2.2.2.2.1, cz.2.2.2.2.2.2.1, cz.2.2.2.2.2.2.2.1, cz.2.2.2.2.2.2.2.2.1, cz.2.2.2.2.2.2.2.2.2.1, cz.2.2.2.2.2.2.2.2.2.2.1, cz.2.2.2.2.2.2.2.2.2.2.2.1, cz.2.2.2.2.2.2.2.2.2.2.2.2.1, cz.2.2.2.2.2.2.2.2.2.2.2.2.2.1, cz.2.2.2.2.2.2.2.2.2.2.2.2.2.2.1, cz.2.2.2.2.2.2.2.2.2.2.2.2.2.2.2.1, cz.2.2.2.2.2.2.2.2.2.2.2.2.2.2.2.2.1, cz.2.2.2.2.2.2.2.2.2.2.2.2.2.2.2.2.2.1, cz.2.2.2.2.2.2.2.2.2.2.2.2.2.2.2.2.2.2.1, cz.2.2.2.2.2.2.2.2.2.2.2.2.2.2.2.2.2.2.2.1, cz.2.2.2.2.2.2.2.2.2.2.2.2.2.2.2.2.2.2.2.2.1, cz.2.2.2.2.2.2.2.2.2.2.2.2.2.2.2.2.2.2.2.2.2.1, cz.2.2.2.2.2.2.2.2.2.2.2.2.2.2.2.2.2.2.2.2.2.2.1, cz.2.2.2.2.2.2.2.2.2.2.2.2.2.2.2.2.2.2.2.2.2.2.2.1, cz.2.2.2.2.2.2.2.2.2.2.2.2.2.2.2.2.2.2.2.2.2.2.2.2.1, cz.2.2.2.2.2.2.2.2.2.2.2.2.2.2.2.2.2.2.2.2.2.2.2.2.2.1, cz.2.2.2.2.2.2.2.2.2.2.2.2.2.2.2.2.2.2.2.2.2.2.2.2.2.2.1, cz.2.2.2.2.2.2.2.2.2.2.2.2.2.2.2.2.2.2.2.2.2.2.2.2.2.2.2, A 64) := by
        have j2 : f_X9_whatIs_j2 N (A 64) (nI b) (nI s) (I 0 12) (I 1 5) (I 1 6) (I 1 7) (A 2) (A 3) (A 4) (A 5) (A 6) (A 63) (I 7 5) (I 7 6) (I 7 7) (A 8) (A 9) (A 10) (A 11) (A 12) (I 29 3) (I 29 4) (I 29 5) (I 31 5) (I 31 6) (I 31 7) (A 32) (A 33) (A 34) (A 35) (A 36) (A 37) (A 38) (A 39) (A 40) (A 41) (A 42) (A 43) (A 44) (A 45) = some (ce, cz.1, cz.2.1, cz.2.2.1, cz.2.2.2.1, cz.2.2.2.2.1, cz.2.2.2.2.2.1, cz.2.2.2.2.2.2.1, cz.2.2.2.2.2.2.2.1, cz.2.2.2.2.2.2.2.2.1, cz.2.2.2.2.2.2.2.2.2.1, cz.2.2.2.2.2.2.2.2.2.2.1, cz.2.2.2.2.2.2.2.2.2.2.2.1, cz.2.2.2.2.2.2.2.2.2.2.2.2.1, cz.2.2.2.2.2.2.2.2.2.2.2.2.2.1, cz.2.2.2.2.2.2.2.2.2.2.2.2.2.2.1, cz.2.2.2.2.2.2.2.2.2.2.2.2.2.2.2.1, cz.2.2.2.2.2.2.2.2.2.2.2.2.2.2.2.2.1, cz.2.2.2.2.2.2.2.2.2.2.2.2.2.2.2.2.2.1, cz.2.2.2.2.2.2.2.2.2.2.2.2.2.2.2.2.2.2.1, cz.2.2.2.2.2.2.2.2.2.2.2.2.2.2.2.2.2.2.2.1, cz.2.2.2.2.2.2.2.2.2.2.2.2.2.2.2.2.2.2.2.2.1, cz.2.2.2.2.2.2.2.2.2.2.2.2.2.2.2.2.2.2.2.2.2.1, cz.2.2.2.2.2.2.2.2.2.2.2.2.2.2.2.2.2.2.2.2.2.2.1, cz.2.2.2.2.2.2.2.2.2.2.2.2.2.2.2.2.2.2.2.2.2.2.2.1, cz.2.2.2.2.2.2.2.2.2.2.2.2.2.2.2.2.2.2.2.2.2.2.2.2.1, cz.2.2.2.2.2.2.2.2.2.2.2.2.2.2.2.2.2.2.2.2.2.2.2.2.2.1, cz.2.2.2.2.2.2.2.2.2.2.2.2.2.2.2.2.2.2.2.2.2.2.2.2.2.2.1, cz.2.2.2.2.2.2.2.2.2.2.2.2.2.2.2.2.2.2.2.2.2.2.2.2.2.2.2, A 64) := by
          unfold f_X9_whatIs_j2
          exact (congrArg (fun o => Option.bind o _) e1).trans rfl
        unfold f_X9_whatIs
        rw [hc.1, f7_has _ (by omega), Option.bind_some, if_neg (fun q => b2_0.mp q hx), ← hc.1, j2]
        have : b = 0 ∨ b = 1 := by omega
        rcases this with rfl | rfl
        · rw [if_pos (show nI 0 = 0 from rfl)]
        · rw [if_neg (show ¬ nI 1 = 0 by decide), if_pos (show nI 1 = 1 from rfl)]
      refine ⟨_, f9, ?_⟩
      obtain ⟨⟨me, mx⟩, e3, q3⟩ := lp_cnt (b := fun s_39 : Int32 × Int32 × Int32 × (Nat → Int32) × (Nat → Int32) × (Nat → Int32) => f_X10_whatIs_b39 N (nI b) s_39.2.1 s_39.1 s_39.2.2.1 s_39.2.2.2.1 s_39.2.2.2.2.1 s_39.2.2.2.2.2 (A 66) (nI s) (I 65 6) (A 70)) (fun i x => (nI (bS (fun v => soB (gsT t b s v) (A 63) n) i), nI i, x)) (fun _ _ => True) (fun e : Int32 × Int32 × (Nat → Int32) × (Nat → Int32) × (Nat → Int32) => e.1 = nI (bS (fun v => soB (gsT t b s v) (A 63) n) (if b = 0 then 6 else 10))) (if b = 0 then 6 else 10) (fun i x hi _ => by
        obtain ⟨w', c1, c2⟩ := f10_thought (x := x.2.1) hv hm (show 100 ≤ N by omega)
        have c3 : mR (gsT t b s i) (upd w' (8 * (3 + b) + s) (nI i)) := c2.set hv hs (by omega)
        obtain ⟨sm', y, st', c4⟩ := f10_isSo (f := A 63) (g := A 70) (sm := x.1) (lf := x.2.2.1) (st := x.2.2.2) (hv.gs hs hb (hbd i hi)) c3 hn (fun j hj => (hr j hj).1) hN
        refine ⟨(sm', upd w' (8 * (3 + b) + s) (nI i), y, st'), ?_, trivial⟩
        dsimp only
        unfold f_X10_whatIs_b39
        rw [lim, if_neg (nI_ge hi (by omega)), c1, Option.bind_some, off, ga_ok (by omega) (by decide), nI_clamp (by omega), rl, c4, Option.bind_some, nI_1]
        dsimp only
        by_cases y : soB (gsT t b s i) (A 63) n = true
        · rw [if_neg (fun q => b2_0.mp q y), sh1 (by omega), xI_or, bS_t (p := fun v => soB (gsT t b s v) (A 63) n) y]
        · rw [if_pos (b2_0.mpr y), show (0 : Int32) = nI 0 from rfl, xI_or, Nat.or_zero, bS_f (p := fun v => soB (gsT t b s v) (A 63) n) y]) (fun x _ => by
        refine ⟨(nI (bS (fun v => soB (gsT t b s v) (A 63) n) (if b = 0 then 6 else 10)), x), ?_, rfl⟩
        dsimp only
        unfold f_X10_whatIs_b39
        rw [lim, if_pos (nI_le (Nat.le_refl _) (by omega))]) (if b = 0 then 6 else 10) 0 N (I 65 12, A 68, A 73, A 74) (by omega) (by omega) trivial
      dsimp only at q3
      have f10 : ∀ r : Nat → Int32, f_X10_whatIs N (nI s) (nI b) (I 65 6) (I 65 12) (A 66) (A 68) r (A 70) (A 73) (A 74) = some (me, mx.1, mx.2.1, r, mx.2.2.1, mx.2.2.2) := fun r => by
        unfold f_X10_whatIs
        rw [f10_isStreet _ t8 hm.1, Option.bind_some, if_neg (fun q => b2_0.mp q hx), hin, Option.bind_some, if_neg (fun q => b2_0.mp q hy)]
        exact (congrArg (fun o => Option.bind o _) e3).trans rfl
      exact ⟨_, f10 _, q1.trans q3.symm, t, k, h1, h2, h3, h4, h5, h6, h7, q2⟩
    · have n0 : ¬ x2 = 0 := fun q => hy (by rw [q]; decide)
      have n1 : ¬ x2 = 1 := fun q => hy (by rw [q]; decide)
      have f9 : f_X9_whatIs N x1 x2 (I 0 12) (I 1 5) (I 1 6) (I 1 7) (A 2) (A 3) (A 4) (A 5) (A 6) (I 7 5) (I 7 6) (I 7 7) (A 8) (A 9) (A 10) (A 11) (A 12) (I 29 3) (I 29 4) (I 29 5) (I 31 5) (I 31 6) (I 31 7) (A 32) (A 33) (A 34) (A 35) (A 36) (A 37) (A 38) (A 39) (A 40) (A 41) (A 42) (A 43) (A 44) (A 45) (A 63) (A 64) = some (-2, I 7 5, I 7 6, I 7 7, A 8, A 9, A 10, A 11, A 12, I 29 3, I 29 4, I 29 5, I 31 5, I 31 6, I 31 7, A 32, A 33, A 34, A 35, A 36, A 37, A 38, A 39, A 40, A 41, A 42, A 43, A 44, A 45, upd (A 64) 2 (A 64 2 + 1)) := by
        unfold f_X9_whatIs
        rw [hc.1, f7_has _ (by omega), Option.bind_some, if_neg (fun q => b2_0.mp q hx), if_neg n0, if_neg n1, rf9_2, Option.bind_some]
      refine ⟨_, f9, ?_⟩
      have f10 : ∀ r : Nat → Int32, f_X10_whatIs N x1 x2 (I 65 6) (I 65 12) (A 66) (A 68) r (A 70) (A 73) (A 74) = some (-2, I 65 12, A 68, upd r 2 (r 2 + 1), A 73, A 74) := fun r => by
        unfold f_X10_whatIs
        rw [f10_isStreet _ t8 hm.1, Option.bind_some, if_neg (fun q => b2_0.mp q hx), hin, Option.bind_some, if_pos (b2_0.mpr hy), rf10_2, Option.bind_some]
      exact ⟨_, f10 _, rfl, t, k, h1, h2, h3, h4.up (by decide), h5, h6, h7, h8⟩
  · have f9 : f_X9_whatIs N x1 x2 (I 0 12) (I 1 5) (I 1 6) (I 1 7) (A 2) (A 3) (A 4) (A 5) (A 6) (I 7 5) (I 7 6) (I 7 7) (A 8) (A 9) (A 10) (A 11) (A 12) (I 29 3) (I 29 4) (I 29 5) (I 31 5) (I 31 6) (I 31 7) (A 32) (A 33) (A 34) (A 35) (A 36) (A 37) (A 38) (A 39) (A 40) (A 41) (A 42) (A 43) (A 44) (A 45) (A 63) (A 64) = some (-1, I 7 5, I 7 6, I 7 7, A 8, A 9, A 10, A 11, A 12, I 29 3, I 29 4, I 29 5, I 31 5, I 31 6, I 31 7, A 32, A 33, A 34, A 35, A 36, A 37, A 38, A 39, A 40, A 41, A 42, A 43, A 44, A 45, upd (A 64) 1 (A 64 1 + 1)) := by
      unfold f_X9_whatIs
      rw [hc.1, f7_has _ (by omega), Option.bind_some, if_pos (b2_0.mpr hx), rf9_1, Option.bind_some]
    refine ⟨_, f9, ?_⟩
    have f10 : ∀ r : Nat → Int32, f_X10_whatIs N x1 x2 (I 65 6) (I 65 12) (A 66) (A 68) r (A 70) (A 73) (A 74) = some (-1, I 65 12, A 68, upd r 1 (r 1 + 1), A 73, A 74) := fun r => by
      unfold f_X10_whatIs
      rw [f10_isStreet _ t8 hm.1, Option.bind_some, if_pos (b2_0.mpr hx), rf10_1, Option.bind_some]
    exact ⟨_, f10 _, rfl, t, k, h1, h2, h3, h4.up (by decide), h5, h6, h7, h8⟩
/-- the worst street so far and its weight -/
noncomputable def wtT (t : Nat → Nat) (s : Nat) : Nat := if rC (closeT t (2 ^ s)) < 1000000 then rC (closeT t (2 ^ s)) else 10000
noncomputable def wSt (t : Nat → Nat) : Nat → Option (Nat × Nat)
  | 0 => none
  | n + 1 => if isD t n then (match wSt t n with | none => some (n, wtT t n) | some p => if wtT t n ≤ p.2 then some p else some (n, wtT t n)) else wSt t n
def wI (o : Option (Nat × Nat)) : Int32 := match o with | none => -9 | some p => nI p.1
def wJ (d : Int32) (o : Option (Nat × Nat)) : Int32 := match o with | none => d | some p => nI p.2
theorem wSt_le {t : Nat → Nat} : ∀ n p, wSt t n = some p → p.2 < 2000000
  | 0, p, h => by cases h
  | n + 1, p, h => by
    have hw : wtT t n < 2000000 := by
      unfold wtT
      split <;> omega
    unfold wSt at h
    split at h
    · split at h
      · cases h; exact hw
      · rename_i p' hp
        split at h
        · cases h; exact wSt_le n _ hp
        · cases h; exact hw
    · exact wSt_le n p h
theorem wtI {t : Nat → Nat} (hv : vT t) (s : Nat) : (if nI (rC (closeT t (2 ^ s))) < (1000000 : Int32) then nI (rC (closeT t (2 ^ s))) else (10000 : Int32)) = nI (wtT t s) := by
  have rl := rC_le (hv.close (2 ^ s))
  unfold wtT
  by_cases z : rC (closeT t (2 ^ s)) < 1000000
  · rw [if_pos z, if_pos (show nI (rC (closeT t (2 ^ s))) < (1000000 : Int32) from nI_lt (b := 1000000) z (by decide))]
  · rw [if_neg z, if_neg (show ¬ nI (rC (closeT t (2 ^ s))) < (1000000 : Int32) from nI_nlt (b := 1000000) (by omega) (by omega))]; rfl
theorem wtM {t : Nat → Nat} (hv : vT t) (s : Nat) : (if (0 : Int32) ≤ toldC (rC (closeT t (2 ^ s))) then toldC (rC (closeT t (2 ^ s))) else (10000 : Int32)) = nI (wtT t s) := by
  have rl := rC_le (hv.close (2 ^ s))
  unfold wtT
  by_cases z : rC (closeT t (2 ^ s)) < 1000000
  · rw [show toldC (rC (closeT t (2 ^ s))) = nI (rC (closeT t (2 ^ s))) from if_pos z, if_pos z, if_pos (nI_pos' (by omega))]
  · rw [show toldC (rC (closeT t (2 ^ s))) = -9 from if_neg z, if_neg z, if_neg (by decide)]; rfl
theorem wtT_lt {t : Nat → Nat} (s : Nat) : wtT t s < 2000000 := by
  unfold wtT
  split <;> omega
theorem wI_step {t : Nat → Nat} {n : Nat} {d : Int32} (hd : d < 0) (h : isD t n = true) : wI (wSt t (n + 1)) = (if nI (wtT t n) ≤ wJ d (wSt t n) then wI (wSt t n) else nI n) ∧ wJ d (wSt t (n + 1)) = (if nI (wtT t n) ≤ wJ d (wSt t n) then wJ d (wSt t n) else nI (wtT t n)) := by
  have hw := wtT_lt (t := t) n
  have e : wSt t (n + 1) = (match wSt t n with | none => some (n, wtT t n) | some p => if wtT t n ≤ p.2 then some p else some (n, wtT t n)) := by
    conv => lhs; unfold wSt
    rw [if_pos h]
  rw [e]
  cases q : wSt t n with
  | none =>
    have : ¬ nI (wtT t n) ≤ d := fun w => by
      rw [i32_le, nI_toInt (by omega)] at w
      rw [i32_lt, tI0] at hd
      omega
    show nI n = (if nI (wtT t n) ≤ d then (-9 : Int32) else nI n) ∧ nI (wtT t n) = (if nI (wtT t n) ≤ d then d else nI (wtT t n))
    rw [if_neg this, if_neg this]; exact ⟨rfl, rfl⟩
  | some p =>
    have hp := wSt_le n p q
    dsimp only
    by_cases w : wtT t n ≤ p.2
    · rw [if_pos w]
      have : nI (wtT t n) ≤ nI p.2 := nI_le w (by omega)
      show nI p.1 = (if nI (wtT t n) ≤ nI p.2 then nI p.1 else nI n) ∧ nI p.2 = (if nI (wtT t n) ≤ nI p.2 then nI p.2 else nI (wtT t n))
      rw [if_pos this, if_pos this]; exact ⟨rfl, rfl⟩
    · rw [if_neg w]
      have : ¬ nI (wtT t n) ≤ nI p.2 := nI_ge (by omega) (by omega)
      show nI n = (if nI (wtT t n) ≤ nI p.2 then nI p.1 else nI n) ∧ nI (wtT t n) = (if nI (wtT t n) ≤ nI p.2 then nI p.2 else nI (wtT t n))
      rw [if_neg this, if_neg this]; exact ⟨rfl, rfl⟩
theorem wSt_skip {t : Nat → Nat} {n : Nat} (h : ¬ isD t n = true) : wSt t (n + 1) = wSt t n := by
  conv => lhs; unfold wSt
  rw [if_neg h]
theorem i32_max {x y : Int32} : (if x < y then y else x) = (if y ≤ x then x else y) := by
  by_cases z : y ≤ x
  · rw [if_pos z, if_neg (fun q => by rw [i32_lt] at q; rw [i32_le] at z; omega)]
  · rw [if_neg z, if_pos (by rw [i32_lt]; rw [i32_le] at z; omega)]
theorem pm_worst {A I : Nat → Nat → Int32} (hI : Inv A I) {N : Nat} (hN : 8000000 ≤ N) : ∃ oc, f_X9_worst N (I 1 5) (I 1 6) (I 1 7) (A 2) (A 3) (A 4) (A 5) (A 6) (I 7 5) (I 7 6) (I 7 7) (A 8) (A 9) (A 10) (A 11) (A 12) (I 29 3) (I 29 4) (I 29 5) (I 31 5) (I 31 6) (I 31 7) (A 32) (A 33) (A 34) (A 35) (A 36) (A 37) (A 38) (A 39) (A 40) (A 41) (A 42) (A 43) (A 44) (A 45) = some oc ∧ ∃ om, f_X10_worst N ((uA_X9_worst A I oc) 66) ((uA_X9_worst A I oc) 68) ((uA_X9_worst A I oc) 73) = some om ∧ oc.1 = om.1 ∧ Inv (uA_X10_worst (uA_X9_worst A I oc) (uI_X9_worst A I oc) om) (uI_X10_worst (uA_X9_worst A I oc) (uI_X9_worst A I oc) om) := by
  obtain ⟨t, k, h1, h2, h3, h4, h5, h6, h7, h8⟩ := hI
  obtain ⟨hv, hc, hm⟩ := id h1
  have t8 := hv.1
  obtain ⟨⟨ce, cz⟩, e1, q1, q2⟩ := lp_cnt (b := fun s_7 : Int32 × Int32 × Int32 × TT => f_X9_worst_b7 N (I 1 6) s_7.2.2.1 s_7.1 s_7.2.2.2.1 s_7.2.2.2.2.1 s_7.2.2.2.2.2.1 s_7.2.2.2.2.2.2.1 s_7.2.2.2.2.2.2.2.1 s_7.2.2.2.2.2.2.2.2.1 s_7.2.2.2.2.2.2.2.2.2.1 s_7.2.2.2.2.2.2.2.2.2.2.1 s_7.2.2.2.2.2.2.2.2.2.2.2.1 s_7.2.2.2.2.2.2.2.2.2.2.2.2.1 s_7.2.2.2.2.2.2.2.2.2.2.2.2.2.1 s_7.2.2.2.2.2.2.2.2.2.2.2.2.2.2.1 s_7.2.2.2.2.2.2.2.2.2.2.2.2.2.2.2.1 s_7.2.2.2.2.2.2.2.2.2.2.2.2.2.2.2.2.1 s_7.2.2.2.2.2.2.2.2.2.2.2.2.2.2.2.2.2.1 s_7.2.2.2.2.2.2.2.2.2.2.2.2.2.2.2.2.2.2.1 s_7.2.2.2.2.2.2.2.2.2.2.2.2.2.2.2.2.2.2.2.1 s_7.2.2.2.2.2.2.2.2.2.2.2.2.2.2.2.2.2.2.2.2.1 s_7.2.2.2.2.2.2.2.2.2.2.2.2.2.2.2.2.2.2.2.2.2.1 s_7.2.2.2.2.2.2.2.2.2.2.2.2.2.2.2.2.2.2.2.2.2.2.1 s_7.2.2.2.2.2.2.2.2.2.2.2.2.2.2.2.2.2.2.2.2.2.2.2.1 s_7.2.2.2.2.2.2.2.2.2.2.2.2.2.2.2.2.2.2.2.2.2.2.2.2.1 s_7.2.2.2.2.2.2.2.2.2.2.2.2.2.2.2.2.2.2.2.2.2.2.2.2.2.1 s_7.2.2.2.2.2.2.2.2.2.2.2.2.2.2.2.2.2.2.2.2.2.2.2.2.2.2.1 s_7.2.2.2.2.2.2.2.2.2.2.2.2.2.2.2.2.2.2.2.2.2.2.2.2.2.2.2.1 s_7.2.2.2.2.2.2.2.2.2.2.2.2.2.2.2.2.2.2.2.2.2.2.2.2.2.2.2.2.1 s_7.2.2.2.2.2.2.2.2.2.2.2.2.2.2.2.2.2.2.2.2.2.2.2.2.2.2.2.2.2.1 s_7.2.2.2.2.2.2.2.2.2.2.2.2.2.2.2.2.2.2.2.2.2.2.2.2.2.2.2.2.2.2 (I 1 5) (A 5) s_7.2.1 (I 1 7) (A 2) (A 3) (A 4) (A 6)) (fun i z => (wI (wSt t i), wJ (-1) (wSt t i), nI i, z)) (fun _ z => TTok z) (fun e : Int32 × TT => e.1 = wI (wSt t (t 49)) ∧ TTok e.2) (t 49) (fun i z hi hz => by
    obtain ⟨z', c1, c2⟩ := f9_costWithout hv hc hi z hz (show 1000 ≤ N by omega)
    dsimp only
    unfold f_X9_worst_b7
    rw [hc.1, if_neg (nI_ge hi (by omega)), f7_isDue hv hc hi, Option.bind_some, nI_1, ← hc.1]
    by_cases y : isD t i = true
    · refine ⟨z', ?_, c2⟩
      rw [if_neg (fun q => b2_0.mp q y), c1, Option.bind_some]
      dsimp only
      obtain ⟨s1, s2⟩ := wI_step (d := -1) (by decide) y
      rw [wtI hv, s1, s2]
    · refine ⟨z, ?_, hz⟩
      rw [if_pos (b2_0.mpr y), wSt_skip y]) (fun z hz => by
    refine ⟨(wI (wSt t (t 49)), z), ?_, rfl, hz⟩
    dsimp only
    unfold f_X9_worst_b7
    rw [hc.1, if_pos (nI_le (Nat.le_refl _) (by omega))]) (t 49) 0 N (I 7 5, I 7 6, I 7 7, A 8, A 9, A 10, A 11, A 12, I 29 3, I 29 4, I 29 5, I 31 5, I 31 6, I 31 7, A 32, A 33, A 34, A 35, A 36, A 37, A 38, A 39, A 40, A 41, A 42, A 43, A 44, A 45) (by omega) (by omega) h8
  dsimp only at q1 q2
  have f9 : f_X9_worst N (I 1 5) (I 1 6) (I 1 7) (A 2) (A 3) (A 4) (A 5) (A 6) (I 7 5) (I 7 6) (I 7 7) (A 8) (A 9) (A 10) (A 11) (A 12) (I 29 3) (I 29 4) (I 29 5) (I 31 5) (I 31 6) (I 31 7) (A 32) (A 33) (A 34) (A 35) (A 36) (A 37) (A 38) (A 39) (A 40) (A 41) (A 42) (A 43) (A 44) (A 45) = some (ce, cz.1, cz.2.1, cz.2.2.1, cz.2.2.2.1, cz.2.2.2.2.1, cz.2.2.2.2.2.1, cz.2.2.2.2.2.2.1, cz.2.2.2.2.2.2.2.1, cz.2.2.2.2.2.2.2.2.1, cz.2.2.2.2.2.2.2.2.2.1, cz.2.2.2.2.2.2.2.2.2.2.1, cz.2.2.2.2.2.2.2.2.2.2.2.1, cz.2.2.2.2.2.2.2.2.2.2.2.2.1, cz.2.2.2.2.2.2.2.2.2.2.2.2.2.1, cz.2.2.2.2.2.2.2.2.2.2.2.2.2.2.1, cz.2.2.2.2.2.2.2.2.2.2.2.2.2.2.2.1, cz.2.2.2.2.2.2.2.2.2.2.2.2.2.2.2.2.1, cz.2.2.2.2.2.2.2.2.2.2.2.2.2.2.2.2.2.1, cz.2.2.2.2.2.2.2.2.2.2.2.2.2.2.2.2.2.2.1, cz.2.2.2.2.2.2.2.2.2.2.2.2.2.2.2.2.2.2.2.1, cz.2.2.2.2.2.2.2.2.2.2.2.2.2.2.2.2.2.2.2.2.1, cz.2.2.2.2.2.2.2.2.2.2.2.2.2.2.2.2.2.2.2.2.2.1, cz.2.2.2.2.2.2.2.2.2.2.2.2.2.2.2.2.2.2.2.2.2.2.1, cz.2.2.2.2.2.2.2.2.2.2.2.2.2.2.2.2.2.2.2.2.2.2.2.1, cz.2.2.2.2.2.2.2.2.2.2.2.2.2.2.2.2.2.2.2.2.2.2.2.2.1, cz.2.2.2.2.2.2.2.2.2.2.2.2.2.2.2.2.2.2.2.2.2.2.2.2.2.1, cz.2.2.2.2.2.2.2.2.2.2.2.2.2.2.2.2.2.2.2.2.2.2.2.2.2.2.1, cz.2.2.2.2.2.2.2.2.2.2.2.2.2.2.2.2.2.2.2.2.2.2.2.2.2.2.2) := by
    unfold f_X9_worst
    exact (congrArg (fun o => Option.bind o _) e1).trans rfl
  refine ⟨_, f9, ?_⟩
  obtain ⟨⟨me, mx⟩, e3, q3⟩ := lp_cnt (b := fun s_8 : Int32 × Int32 × Int32 × (Nat → Int32) × (Nat → Int32) => f_X10_worst_b8 N (A 66) s_8.2.2.1 s_8.1 s_8.2.2.2.1 s_8.2.2.2.2 s_8.2.1) (fun i x => (wI (wSt t i), wJ (-9) (wSt t i), nI i, x)) (fun _ _ => True) (fun e : Int32 × (Nat → Int32) × (Nat → Int32) => e.1 = wI (wSt t (t 49))) (t 49) (fun i x hi _ => by
    obtain ⟨w', y', c1⟩ := f10_withoutOf (x := x.1) (lf := x.2) hv hm hi hN
    dsimp only
    unfold f_X10_worst_b8
    rw [ga_in (by decide), show A 66 (Int32.toNatClampNeg (49 : Int32)) = nI (t 49) from hm.1, if_neg (nI_ge hi (by omega)), f10_isDue hv hm hi, Option.bind_some, nI_1]
    by_cases y : isD t i = true
    · refine ⟨(w', y'), ?_, trivial⟩
      rw [if_neg (fun q => b2_0.mp q y), c1, Option.bind_some]
      dsimp only
      obtain ⟨s1, s2⟩ := wI_step (d := -9) (by decide) y
      rw [wtM hv, s1, s2, i32_max]
    · refine ⟨x, ?_, trivial⟩
      rw [if_pos (b2_0.mpr y), wSt_skip y]) (fun x _ => by
    refine ⟨(wI (wSt t (t 49)), x), ?_, rfl⟩
    dsimp only
    unfold f_X10_worst_b8
    rw [ga_in (by decide), show A 66 (Int32.toNatClampNeg (49 : Int32)) = nI (t 49) from hm.1, if_pos (nI_le (Nat.le_refl _) (by omega))]) (t 49) 0 N (A 68, A 73) (by omega) (by omega) trivial
  dsimp only at q3
  have f10 : f_X10_worst N (A 66) (A 68) (A 73) = some (me, mx.1, mx.2) := by
    unfold f_X10_worst
    exact (congrArg (fun o => Option.bind o _) e3).trans rfl
  exact ⟨_, f10, q1.trans q3.symm, t, k, h1, h2, h3, h4, h5, h6, h7, q2⟩
