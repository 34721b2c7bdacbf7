/-! maps by lot -/
def sdN (z : Int32) : Int32 := z * (1664525 : Int32) + (1013904223 : Int32)
def ln1 (z : Int32) : Nat := 1 + (sdN z).toBitVec.toNat % 2 ^ 31 / 256 % 99
theorem ln1_ok (z : Int32) : 1 ≤ ln1 z ∧ ln1 z ≤ 99 := by unfold ln1; omega
theorem ln1_v (z : Int32) : (sdN z &&& (2147483647 : Int32)) / (256 : Int32) - (sdN z &&& (2147483647 : Int32)) / (256 : Int32) / (99 : Int32) * (99 : Int32) = nI ((sdN z).toBitVec.toNat % 2 ^ 31 / 256 % 99) := by
  have h31 : (sdN z).toBitVec.toNat % 2 ^ 31 < 2 ^ 31 := Nat.mod_lt _ (by decide)
  have e1 : sdN z &&& (2147483647 : Int32) = nI ((sdN z).toBitVec.toNat % 2 ^ 31) := pk_and (sdN z) 31 (by decide)
  have e2 : nI ((sdN z).toBitVec.toNat % 2 ^ 31) / (256 : Int32) = nI ((sdN z).toBitVec.toNat % 2 ^ 31 / 256) := pk_div (d := 256) h31 (by decide) (by decide)
  rw [e1, e2]
  exact pk_rem (d := 99) (by omega) (by decide) (by decide)
theorem ln1_I (z : Int32) : (1 : Int32) + ((sdN z &&& (2147483647 : Int32)) / (256 : Int32) - (sdN z &&& (2147483647 : Int32)) / (256 : Int32) / (99 : Int32) * (99 : Int32)) = nI (ln1 z) := by
  rw [ln1_v]
  exact nI_add 1 _
def seedN (z : Int32) : Nat → Int32
  | 0 => z
  | n + 1 => sdN (seedN z n)
def lotT (t : Nat → Nat) (z : Int32) : Nat → Nat := fun j => if 16 ≤ j ∧ j < 16 + t 49 then ln1 (seedN z (j - 16)) else t j
theorem lotT_o {t : Nat → Nat} {z : Int32} {j : Nat} (h : ¬ (16 ≤ j ∧ j < 16 + t 49)) : lotT t z j = t j := if_neg h
theorem lotT_s {t : Nat → Nat} {z : Int32} {s : Nat} (h : s < t 49) : lotT t z (16 + s) = ln1 (seedN z s) := by
  unfold lotT
  rw [if_pos ⟨by omega, by omega⟩, show 16 + s - 16 = s by omega]
theorem vT.lot {t : Nat → Nat} (hv : vT t) (z : Int32) : vT (lotT t z) := by
  have h8 := hv.1
  have e49 : lotT t z 49 = t 49 := lotT_o (by omega)
  have e48 : lotT t z 48 = t 48 := lotT_o (by omega)
  refine ⟨by rw [e49]; exact h8, by rw [e48]; exact hv.2.1, fun s hs => ?_, fun j j1 j2 j3 => ?_⟩
  · rw [e49] at hs
    obtain ⟨v1, v2, v3, v4, v5, v6, v7, v8⟩ := hv.2.2.1 s hs
    have lo := ln1_ok (seedN z s)
    rw [lotT_o (j := s) (by omega), lotT_o (j := 8 + s) (by omega), lotT_s hs, lotT_o (j := 24 + s) (by omega), lotT_o (j := 32 + s) (by omega), lotT_o (j := 40 + s) (by omega)]
    exact ⟨v1, v2, v3, lo.1, lo.2, v6, v7, v8⟩
  · rw [e49] at j3
    rw [lotT_o (by omega)]
    exact hv.2.2.2 j j1 j2 j3
theorem cR.lot {t : Nat → Nat} {fr to ln kd fg l2 : Nat → Int32} {cl sz hm : Int32} (hv : vT t) (h : cR t fr to ln kd fg cl sz hm) (z : Int32) (hl : ∀ s, s < t 49 → l2 s = nI (ln1 (seedN z s))) : cR (lotT t z) fr to l2 kd fg cl sz hm := by
  have h8 := hv.1
  have e49 : lotT t z 49 = t 49 := lotT_o (by omega)
  have e48 : lotT t z 48 = t 48 := lotT_o (by omega)
  obtain ⟨a1, a2, a3, a4⟩ := h
  refine ⟨by rw [e49]; exact a1, by rw [e48]; exact a2, ?_, fun s hs => ?_⟩
  · rw [e49, a3]
    congr 1
    exact clB_cong _ (fun i hi => (lotT_o (by omega)).symm)
  · rw [e49] at hs
    obtain ⟨b1, b2, b3, b4, b5⟩ := a4 s hs
    rw [lotT_o (j := s) (by omega), lotT_o (j := 8 + s) (by omega), lotT_s hs, lotT_o (j := 24 + s) (by omega), lotT_o (j := 32 + s) (by omega)]
    exact ⟨b1, b2, hl s hs, b4, b5⟩
theorem f9_drawLengths {n : Nat} (hn : n ≤ 8) (z : Int32) {sz : Int32} (hsz : sz = nI n) (l : Nat → Int32) {N : Nat} (hN : 100 ≤ N) : ∃ l2, f_X9_drawLengths N z sz l = some (seedN z n, l2) ∧ ∀ s, s < n → l2 s = nI (ln1 (seedN z s)) := by
  obtain ⟨⟨a, b⟩, e1, e2, e3⟩ := lp_cnt (b := fun s_4 : Int32 × Int32 × (Nat → Int32) => f_X9_drawLengths_b4 sz s_4.2.1 s_4.1 s_4.2.2) (fun i x => (seedN z i, nI i, x)) (fun i x => ∀ s, s < i → x s = nI (ln1 (seedN z s))) (fun e : Int32 × (Nat → Int32) => e.1 = seedN z n ∧ ∀ s, s < n → e.2 s = nI (ln1 (seedN z s))) n (fun i x hi hp => by
    refine ⟨upd x i (nI (ln1 (seedN z i))), ?_, fun s hs => ?_⟩
    · show f_X9_drawLengths_b4 sz (nI i) (seedN z i) x = some (.inl (sdN (seedN z i), nI (i + 1), upd x i (nI (ln1 (seedN z i)))))
      unfold f_X9_drawLengths_b4
      rw [hsz, if_neg (nI_ge hi (by omega)), ga_ok (by omega) (by decide), nI_clamp (by omega), nI_1]
      have := ln1_I (seedN z i)
      unfold sdN at this ⊢
      rw [this]
    · by_cases e : s = i
      · subst e; rw [pk_us]
      · rw [pk_un e]; exact hp s (by omega)) (fun x hp => by
    refine ⟨(seedN z n, x), ?_, rfl, hp⟩
    show f_X9_drawLengths_b4 sz (nI n) (seedN z n) x = _
    unfold f_X9_drawLengths_b4
    rw [hsz, if_pos (nI_le (Nat.le_refl _) (by omega))]) n 0 N l (by omega) (by omega) (fun s hs => absurd hs (by omega))
  dsimp only at e2 e3
  refine ⟨b, ?_, e3⟩
  unfold f_X9_drawLengths
  rw [← e2]
  exact (congrArg (fun o => Option.bind o _) e1).trans rfl
theorem f10_drawLengths {t : Nat → Nat} {w : Nat → Int32} (hv : vT t) (h : mR t w) (z : Int32) {N : Nat} (hN : 100 ≤ N) : ∃ w', lp (fun s_75 => f_X10_lots_b75 s_75.2.2 s_75.1 s_75.2.1) N ((0 : Int32), z, w) = some (seedN z (t 49), w') ∧ mR (lotT t z) w' := by
  have h8 := hv.1
  have e49 : lotT t z 49 = t 49 := lotT_o (by omega)
  have e48 : lotT t z 48 = t 48 := lotT_o (by omega)
  obtain ⟨⟨a, b⟩, e1, e2, e3⟩ := lp_cnt (b := fun s_75 : Int32 × Int32 × (Nat → Int32) => f_X10_lots_b75 s_75.2.2 s_75.1 s_75.2.1) (fun i x => (nI i, seedN z i, x)) (fun i x => x 49 = nI (t 49) ∧ x 48 = nI (t 48) ∧ (∀ r, r < 6 → ∀ s, s < t 49 → r ≠ 2 → x (8 * r + s) = nI (t (8 * r + s))) ∧ ∀ s, s < i → x (16 + s) = nI (ln1 (seedN z s))) (fun e : Int32 × (Nat → Int32) => e.1 = seedN z (t 49) ∧ mR (lotT t z) e.2) (t 49) (fun i x hi hp => by
    obtain ⟨p1, p2, p3, p4⟩ := hp
    refine ⟨upd x (16 + i) (nI (ln1 (seedN z i))), ?_, ?_, ?_, fun r hr s hs hne => ?_, fun s hs => ?_⟩
    · show f_X10_lots_b75 x (nI i) (seedN z i) = some (.inl (nI (i + 1), sdN (seedN z i), upd x (16 + i) (nI (ln1 (seedN z i)))))
      unfold f_X10_lots_b75 f_X10_draw
      rw [ga_in (by decide), show x (Int32.toNatClampNeg (49 : Int32)) = nI (t 49) from p1, if_neg (nI_ge hi (by omega)), show gd (99 : Int32) (some _) = some _ from if_neg (by decide), Option.bind_some]
      dsimp only
      rw [show (16 : Int32) + nI i = nI (16 + i) from nI_add 16 i, ga_ok (by omega) (by decide), nI_clamp (by omega), nI_1]
      have := ln1_I (seedN z i)
      unfold sdN at this ⊢
      rw [this]
    · rw [pk_un (by omega)]; exact p1
    · rw [pk_un (by omega)]; exact p2
    · rw [pk_un (by omega)]; exact p3 r hr s hs hne
    · by_cases e : s = i
      · subst e; rw [pk_us]
      · rw [pk_un (by omega)]; exact p4 s (by omega)) (fun x hp => by
    obtain ⟨p1, p2, p3, p4⟩ := hp
    refine ⟨(seedN z (t 49), x), ?_, rfl, by rw [e49]; exact p1, by rw [e48]; exact p2, fun r hr s hs => ?_⟩
    · show f_X10_lots_b75 x (nI (t 49)) (seedN z (t 49)) = _
      unfold f_X10_lots_b75
      rw [ga_in (by decide), show x (Int32.toNatClampNeg (49 : Int32)) = nI (t 49) from p1, if_pos (nI_le (Nat.le_refl _) (by omega))]
    · rw [e49] at hs
      by_cases e : r = 2
      · subst e
        show x (16 + s) = nI (lotT t z (16 + s))
        rw [lotT_s hs]; exact p4 s hs
      · rw [lotT_o (by omega)]; exact p3 r hr s hs e) (t 49) 0 N w (by omega) (by omega) ⟨h.1, h.2.1, fun r hr s hs _ => h.2.2 r hr s hs, fun s hs => absurd hs (by omega)⟩
  dsimp only at e2 e3
  refine ⟨b, ?_, e3⟩
  rw [← e2]
  exact e1
/-- seed, how many, together behind k maps -/
noncomputable def lotS (t : Nat → Nat) (z : Int32) : Nat → Int32 × Int32 × Int32
  | 0 => (z, 0, 0)
  | k + 1 => (seedN (lotS t z k).1 (t 49), (if rC (lotT t (lotS t z k).1) < 1000000 then (lotS t z k).2.1 + 1 else (lotS t z k).2.1), (if rC (lotT t (lotS t z k).1) < 1000000 then (lotS t z k).2.2 + nI (rC (lotT t (lotS t z k).1)) else (lotS t z k).2.2))
theorem pm_lots {A I : Nat → Nat → Int32} (hI : Inv A I) {N : Nat} (hN : 8000000 ≤ N) (x1 x2 x3 : Int32) : ∃ oc, f_X9_lots N x1 x2 x3 (I 1 5) (I 1 6) (I 1 7) (A 2) (A 3) (A 4) (A 5) (A 6) (I 7 5) (I 7 6) (I 7 7) (A 8) (A 9) (A 10) (A 11) (A 12) (I 29 3) (I 29 4) (I 29 5) (I 31 5) (I 31 6) (I 31 7) (A 32) (A 33) (A 34) (A 35) (A 36) (A 37) (A 38) (A 39) (A 40) (A 41) (A 42) (A 43) (A 44) (A 45) (A 64) = some oc ∧ ∃ om, f_X10_lots N x1 x2 x3 ((uI_X9_lots A I oc) 65 25) ((uA_X9_lots A I oc) 66) ((uA_X9_lots A I oc) 68) ((uA_X9_lots A I oc) 69) ((uA_X9_lots A I oc) 73) = some om ∧ oc.1 = om.1 ∧ Inv (uA_X10_lots (uA_X9_lots A I oc) (uI_X9_lots A I oc) om) (uI_X10_lots (uA_X9_lots A I oc) (uI_X9_lots A I oc) om) := by
  obtain ⟨t, k, h1, h2, h3, h4, h5, h6, h7, h8⟩ := hI
  obtain ⟨hv, hc, hm⟩ := id h1
  have t8 := hv.1
  have hin : f_X10_in (Int32.toInt64 x1) (1 : Int64) (20 : Int64) = some (b2 (1 ≤ x1.toInt ∧ x1.toInt ≤ 20)) := in_neg (by rw [t64]; exact Iff.rfl)
  have hin2 : f_X10_in (Int32.toInt64 x3) (0 : Int64) (1 : Int64) = some (b2 (0 ≤ x3.toInt ∧ x3.toInt ≤ 1)) := in_neg (by rw [t64]; exact Iff.rfl)
  have i1 : (1 : Int32) ≤ x1 ↔ 1 ≤ x1.toInt := by rw [i32_le]; exact Iff.rfl
  have i20 : x1 ≤ (20 : Int32) ↔ x1.toInt ≤ 20 := by rw [i32_le]; exact Iff.rfl
  by_cases hx : 1 ≤ x1.toInt ∧ x1.toInt ≤ 20
  · by_cases hy : 0 ≤ x3.toInt ∧ x3.toInt ≤ 1
    · obtain ⟨n, hn, rfl⟩ := cin_nI (n := 21) (x := x1) ⟨by omega, by omega⟩ (by decide)
      obtain ⟨f4, t4, l4, k4, g4, e1, e2⟩ := f7_takeOver (f2 := A 8) (t2 := A 9) (l2 := A 10) (k2 := A 11) (g2 := A 12) (c2 := I 7 5) (s2 := I 7 6) (h2 := I 7 7) hv hc
      obtain ⟨⟨cm, ct, cl4, cq⟩, e3, q1, q2, q3⟩ := lp_cnt (b := fun s_64 : Int32 × Int32 × Int32 × Int32 × (Nat → Int32) × QT => f_X9_lots_b64 N (nI n) s_64.2.2.2.1 s_64.2.1 s_64.2.2.1 s_64.2.2.2.2.1 s_64.2.2.2.2.2.1 s_64.2.2.2.2.2.2.1 s_64.2.2.2.2.2.2.2.1 s_64.2.2.2.2.2.2.2.2.1 s_64.2.2.2.2.2.2.2.2.2.1 s_64.2.2.2.2.2.2.2.2.2.2.1 s_64.2.2.2.2.2.2.2.2.2.2.2.1 s_64.2.2.2.2.2.2.2.2.2.2.2.2.1 s_64.2.2.2.2.2.2.2.2.2.2.2.2.2.1 s_64.2.2.2.2.2.2.2.2.2.2.2.2.2.2.1 s_64.2.2.2.2.2.2.2.2.2.2.2.2.2.2.2.1 s_64.2.2.2.2.2.2.2.2.2.2.2.2.2.2.2.2.1 s_64.2.2.2.2.2.2.2.2.2.2.2.2.2.2.2.2.2.1 s_64.2.2.2.2.2.2.2.2.2.2.2.2.2.2.2.2.2.2.1 s_64.2.2.2.2.2.2.2.2.2.2.2.2.2.2.2.2.2.2.2.1 s_64.2.2.2.2.2.2.2.2.2.2.2.2.2.2.2.2.2.2.2.2.1 s_64.2.2.2.2.2.2.2.2.2.2.2.2.2.2.2.2.2.2.2.2.2.1 s_64.2.2.2.2.2.2.2.2.2.2.2.2.2.2.2.2.2.2.2.2.2.2.1 s_64.2.2.2.2.2.2.2.2.2.2.2.2.2.2.2.2.2.2.2.2.2.2.2.1 s_64.2.2.2.2.2.2.2.2.2.2.2.2.2.2.2.2.2.2.2.2.2.2.2.2 s_64.1 (I 1 6) (I 1 5) (I 1 7) f4 t4 k4 g4) (fun i x => ((lotS t x2 i).1, (lotS t x2 i).2.1, (lotS t x2 i).2.2, nI i, x)) (fun _ x => QTok x.2) (fun e : Int32 × Int32 × (Nat → Int32) × QT => e.1 = (lotS t x2 n).2.1 ∧ e.2.1 = (lotS t x2 n).2.2 ∧ QTok e.2.2.2) n (fun i x hi hz => by
        obtain ⟨l, q⟩ := x
        obtain ⟨l2, c1, c2⟩ := f9_drawLengths t8 (lotS t x2 i).1 hc.1 l (show 100 ≤ N by omega)
        obtain ⟨q', c3, c4⟩ := f9_costOfTrial (hv.lot (lotS t x2 i).1) (e2.lot hv (lotS t x2 i).1 c2) q hz (show 1000 ≤ N by omega)
        have rl := rC_le (hv.lot (lotS t x2 i).1)
        refine ⟨(l2, q'), ?_, c4⟩
        show f_X9_lots_b64 N (nI n) (nI i) (lotS t x2 i).2.1 (lotS t x2 i).2.2 l q.1 q.2.1 q.2.2.1 q.2.2.2.1 q.2.2.2.2.1 q.2.2.2.2.2.1 q.2.2.2.2.2.2.1 q.2.2.2.2.2.2.2.1 q.2.2.2.2.2.2.2.2.1 q.2.2.2.2.2.2.2.2.2.1 q.2.2.2.2.2.2.2.2.2.2.1 q.2.2.2.2.2.2.2.2.2.2.2.1 q.2.2.2.2.2.2.2.2.2.2.2.2.1 q.2.2.2.2.2.2.2.2.2.2.2.2.2.1 q.2.2.2.2.2.2.2.2.2.2.2.2.2.2.1 q.2.2.2.2.2.2.2.2.2.2.2.2.2.2.2.1 q.2.2.2.2.2.2.2.2.2.2.2.2.2.2.2.2.1 q.2.2.2.2.2.2.2.2.2.2.2.2.2.2.2.2.2.1 q.2.2.2.2.2.2.2.2.2.2.2.2.2.2.2.2.2.2.1 q.2.2.2.2.2.2.2.2.2.2.2.2.2.2.2.2.2.2.2 (lotS t x2 i).1 (I 1 6) (I 1 5) (I 1 7) f4 t4 k4 g4 = some (.inl (seedN (lotS t x2 i).1 (t 49), (if rC (lotT t (lotS t x2 i).1) < 1000000 then (lotS t x2 i).2.1 + 1 else (lotS t x2 i).2.1), (if rC (lotT t (lotS t x2 i).1) < 1000000 then (lotS t x2 i).2.2 + nI (rC (lotT t (lotS t x2 i).1)) else (lotS t x2 i).2.2), nI (i + 1), l2, q'))
        unfold f_X9_lots_b64
        rw [if_neg (nI_ge hi (by omega)), c1, Option.bind_some]
        dsimp only
        rw [c3, Option.bind_some, nI_1]
        dsimp only
        by_cases y : rC (lotT t (lotS t x2 i).1) < 1000000
        · have : ¬ (1000000 : Int32) ≤ nI (rC (lotT t (lotS t x2 i).1)) := nI_ge (b := 1000000) y (by decide)
          rw [if_neg this, if_neg this, if_pos y, if_pos y]
        · have : (1000000 : Int32) ≤ nI (rC (lotT t (lotS t x2 i).1)) := nI_le (a := 1000000) (by omega) (by omega)
          rw [if_pos this, if_pos this, if_neg y, if_neg y]) (fun x hz => by
        refine ⟨((lotS t x2 n).2.1, (lotS t x2 n).2.2, x.1, x.2), ?_, rfl, rfl, hz⟩
        dsimp only
        unfold f_X9_lots_b64
        rw [if_pos (nI_le (Nat.le_refl _) (by omega))]) n 0 N (l4, I 29 3, I 29 4, I 29 5, I 31 5, I 31 6, I 31 7, A 32, A 33, A 34, A 35, A 36, A 37, A 38, A 39, A 40, A 41, A 42, A 43, A 44, A 45) (by omega) (by omega) h8
      dsimp only at q1 q2 q3
      have n01 : x3 = 0 ∨ x3 = 1 := by
        obtain ⟨j, hj, rfl⟩ := cin_nI (n := 2) (x := x3) ⟨hy.1, by omega⟩ (by decide)
        have : j = 0 ∨ j = 1 := by omega
        rcases this with rfl | rfl
        · exact Or.inl rfl
        · exact Or.inr rfl
      have f9 : f_X9_lots N (nI n) x2 x3 (I 1 5) (I 1 6) (I 1 7) (A 2) (A 3) (A 4) (A 5) (A 6) (I 7 5) (I 7 6) (I 7 7) (A 8) (A 9) (A 10) (A 11) (A 12) (I 29 3) (I 29 4) (I 29 5) (I 31 5) (I 31 6) (I 31 7) (A 32) (A 33) (A 34) (A 35) (A 36) (A 37) (A 38) (A 39) (A 40) (A 41) (A 42) (A 43) (A 44) (A 45) (A 64) = some (if x3 = 0 then cm else ct, I 1 5, I 1 6, I 1 7, f4, t4, cl4, k4, g4, cq.1, cq.2.1, cq.2.2.1, cq.2.2.2.1, cq.2.2.2.2.1, cq.2.2.2.2.2.1, cq.2.2.2.2.2.2.1, cq.2.2.2.2.2.2.2.1, cq.2.2.2.2.2.2.2.2.1, cq.2.2.2.2.2.2.2.2.2.1, cq.2.2.2.2.2.2.2.2.2.2.1, cq.2.2.2.2.2.2.2.2.2.2.2.1, cq.2.2.2.2.2.2.2.2.2.2.2.2.1, cq.2.2.2.2.2.2.2.2.2.2.2.2.2.1, cq.2.2.2.2.2.2.2.2.2.2.2.2.2.2.1, cq.2.2.2.2.2.2.2.2.2.2.2.2.2.2.2.1, cq.2.2.2.2.2.2.2.2.2.2.2.2.2.2.2.2.1, cq.2.2.2.2.2.2.2.2.2.2.2.2.2.2.2.2.2.1, cq.2.2.2.2.2.2.2.2.2.2.2.2.2.2.2.2.2.2.1, cq.2.2.2.2.2.2.2.2.2.2.2.2.2.2.2.2.2.2.2, A 64) := by
        have j1 : f_X9_lots_j1 N (A 64) (I 7 5) (I 7 6) (I 7 7) (A 8) (A 9) (A 10) (A 11) (A 12) (I 1 5) (I 1 6) (I 1 7) (A 2) (A 3) (A 4) (A 5) (A 6) (nI n) x2 (I 29 3) (I 29 4) (I 29 5) (I 31 5) (I 31 6) (I 31 7) (A 32) (A 33) (A 34) (A 35) (A 36) (A 37) (A 38) (A 39) (A 40) (A 41) (A 42) (A 43) (A 44) (A 45) x3 = some (if x3 = 0 then cm else ct, I 1 5, I 1 6, I 1 7, f4, t4, cl4, k4, g4, cq.1, cq.2.1, cq.2.2.1, cq.2.2.2.1, cq.2.2.2.2.1, cq.2.2.2.2.2.1, cq.2.2.2.2.2.2.1, cq.2.2.2.2.2.2.2.1, cq.2.2.2.2.2.2.2.2.1, cq.2.2.2.2.2.2.2.2.2.1, cq.2.2.2.2.2.2.2.2.2.2.1, cq.2.2.2.2.2.2.2.2.2.2.2.1, cq.2.2.2.2.2.2.2.2.2.2.2.2.1, cq.2.2.2.2.2.2.2.2.2.2.2.2.2.1, cq.2.2.2.2.2.2.2.2.2.2.2.2.2.2.1, cq.2.2.2.2.2.2.2.2.2.2.2.2.2.2.2.1, cq.2.2.2.2.2.2.2.2.2.2.2.2.2.2.2.2.1, cq.2.2.2.2.2.2.2.2.2.2.2.2.2.2.2.2.2.1, cq.2.2.2.2.2.2.2.2.2.2.2.2.2.2.2.2.2.2.1, cq.2.2.2.2.2.2.2.2.2.2.2.2.2.2.2.2.2.2.2, A 64) := by
          unfold f_X9_lots_j1
          rw [e1, Option.bind_some]
          dsimp only
          exact (congrArg (fun o => Option.bind o _) e3).trans rfl
        unfold f_X9_lots
        rw [if_pos (i1.mpr hx.1), if_pos (i20.mpr hx.2), j1]
        rcases n01 with w | w
        · rw [if_pos w]
        · rw [if_neg (by rw [w]; decide), if_pos w]
      refine ⟨_, f9, ?_⟩
      obtain ⟨⟨mm, mt', mx⟩, e4, q4, q5⟩ := lp_cnt (b := fun s_60 : Int32 × Int32 × Int32 × Int32 × (Nat → Int32) × (Nat → Int32) => f_X10_lots_b60 N (nI n) s_60.2.2.1 s_60.1 s_60.2.1 s_60.2.2.2.1 s_60.2.2.2.2.1 s_60.2.2.2.2.2 (A 66)) (fun i x => ((lotS t x2 i).2.1, (lotS t x2 i).2.2, nI i, (lotS t x2 i).1, x)) (fun _ _ => True) (fun e : Int32 × Int32 × Int32 × (Nat → Int32) × (Nat → Int32) => e.1 = (lotS t x2 n).2.1 ∧ e.2.1 = (lotS t x2 n).2.2) n (fun i x hi _ => by
        obtain ⟨tr, lf⟩ := x
        obtain ⟨w', c1, c2⟩ := f10_thought (x := tr) hv hm (show 100 ≤ N by omega)
        obtain ⟨w2, c3, c4⟩ := f10_drawLengths hv c2 (lotS t x2 i).1 (show 100 ≤ N by omega)
        obtain ⟨y', c5⟩ := f10_roundOfC (x := lf) (hv.lot (lotS t x2 i).1) c4 hN
        have rl := rC_le (hv.lot (lotS t x2 i).1)
        refine ⟨(w2, y'), ?_, trivial⟩
        show f_X10_lots_b60 N (nI n) (nI i) (lotS t x2 i).2.1 (lotS t x2 i).2.2 (lotS t x2 i).1 tr lf (A 66) = some (.inl ((if rC (lotT t (lotS t x2 i).1) < 1000000 then (lotS t x2 i).2.1 + 1 else (lotS t x2 i).2.1), (if rC (lotT t (lotS t x2 i).1) < 1000000 then (lotS t x2 i).2.2 + nI (rC (lotT t (lotS t x2 i).1)) else (lotS t x2 i).2.2), nI (i + 1), seedN (lotS t x2 i).1 (t 49), w2, y'))
        unfold f_X10_lots_b60
        rw [if_neg (nI_ge hi (by omega)), c1, Option.bind_some, c3, Option.bind_some]
        dsimp only
        rw [c5, Option.bind_some, nI_1]
        dsimp only
        by_cases y : rC (lotT t (lotS t x2 i).1) < 1000000
        · rw [show toldC (rC (lotT t (lotS t x2 i).1)) = nI (rC (lotT t (lotS t x2 i).1)) from if_pos y, if_neg (nI_pos (by omega)), if_pos y, if_pos y]
          by_cases y0 : 0 < rC (lotT t (lotS t x2 i).1)
          · rw [if_pos (show (0 : Int32) < nI (rC (lotT t (lotS t x2 i).1)) from nI_lt (a := 0) y0 (by omega))]
          · rw [show rC (lotT t (lotS t x2 i).1) = 0 by omega, if_neg (by decide)]; rfl
        · rw [show toldC (rC (lotT t (lotS t x2 i).1)) = -9 from if_neg y, if_pos (by decide), if_neg (by decide), if_neg y, if_neg y, iadd0, iadd0]) (fun x _ => by
        refine ⟨((lotS t x2 n).2.1, (lotS t x2 n).2.2, (lotS t x2 n).1, x), ?_, rfl, rfl⟩
        dsimp only
        unfold f_X10_lots_b60
        rw [if_pos (nI_le (Nat.le_refl _) (by omega))]) n 0 N (A 68, A 73) (by omega) (by omega) trivial
      dsimp only at q4 q5
      have f10 : ∀ (v : Int32) (r : Nat → Int32), f_X10_lots N (nI n) x2 x3 v (A 66) (A 68) r (A 73) = some (if x3 = 0 then mm else mt', mx.1, mx.2.1, r, mx.2.2) := fun v r => by
        unfold f_X10_lots
        rw [hin, Option.bind_some, if_neg (fun q => b2_0.mp q hx), hin2, Option.bind_some, if_neg (fun q => b2_0.mp q hy)]
        exact (congrArg (fun o => Option.bind o _) e4).trans rfl
      refine ⟨_, f10 _ _, ?_, t, k, h1, h2, h3, h4, h5, h6, h7, q3⟩
      show (if x3 = 0 then cm else ct) = (if x3 = 0 then mm else mt')
      rw [q1, q2, q4, q5]
    · have n0 : ¬ x3 = 0 := fun q => hy (by rw [q]; decide)
      have n1 : ¬ x3 = 1 := fun q => hy (by rw [q]; decide)
      have f9 : f_X9_lots N x1 x2 x3 (I 1 5) (I 1 6) (I 1 7) (A 2) (A 3) (A 4) (A 5) (A 6) (I 7 5) (I 7 6) (I 7 7) (A 8) (A 9) (A 10) (A 11) (A 12) (I 29 3) (I 29 4) (I 29 5) (I 31 5) (I 31 6) (I 31 7) (A 32) (A 33) (A 34) (A 35) (A 36) (A 37) (A 38) (A 39) (A 40) (A 41) (A 42) (A 43) (A 44) (A 45) (A 64) = some (-2, I 7 5, I 7 6, I 7 7, A 8, A 9, A 10, A 11, A 12, I 29 3, I 29 4, I 29 5, I 31 5, I 31 6, I 31 7, A 32, A 33, A 34, A 35, A 36, A 37, A 38, A 39, A 40, A 41, A 42, A 43, A 44, A 45, upd (A 64) 2 (A 64 2 + 1)) := by
        unfold f_X9_lots
        rw [if_pos (i1.mpr hx.1), if_pos (i20.mpr hx.2), if_neg n0, if_neg n1, rf9_2, Option.bind_some]
      refine ⟨_, f9, ?_⟩
      have f10 : ∀ (v : Int32) (r : Nat → Int32), f_X10_lots N x1 x2 x3 v (A 66) (A 68) r (A 73) = some (-2, v, A 68, upd r 2 (r 2 + 1), A 73) := fun v r => by
        unfold f_X10_lots
        rw [hin, Option.bind_some, if_neg (fun q => b2_0.mp q hx), hin2, Option.bind_some, if_pos (b2_0.mpr hy), rf10_2, Option.bind_some]
      exact ⟨_, f10 _ _, rfl, t, k, h1, h2, h3, h4.up (by decide), h5, h6, h7, h8⟩
  · by_cases h1x : 1 ≤ x1.toInt
    · have f9 : f_X9_lots N x1 x2 x3 (I 1 5) (I 1 6) (I 1 7) (A 2) (A 3) (A 4) (A 5) (A 6) (I 7 5) (I 7 6) (I 7 7) (A 8) (A 9) (A 10) (A 11) (A 12) (I 29 3) (I 29 4) (I 29 5) (I 31 5) (I 31 6) (I 31 7) (A 32) (A 33) (A 34) (A 35) (A 36) (A 37) (A 38) (A 39) (A 40) (A 41) (A 42) (A 43) (A 44) (A 45) (A 64) = some (-6, I 7 5, I 7 6, I 7 7, A 8, A 9, A 10, A 11, A 12, I 29 3, I 29 4, I 29 5, I 31 5, I 31 6, I 31 7, A 32, A 33, A 34, A 35, A 36, A 37, A 38, A 39, A 40, A 41, A 42, A 43, A 44, A 45, upd (A 64) 6 (A 64 6 + 1)) := by
        unfold f_X9_lots
        rw [if_pos (i1.mpr h1x), if_neg (fun q => hx ⟨h1x, i20.mp q⟩), rf9_6, Option.bind_some]
      refine ⟨_, f9, ?_⟩
      have f10 : ∀ (v : Int32) (r : Nat → Int32), f_X10_lots N x1 x2 x3 v (A 66) (A 68) r (A 73) = some (-6, v, A 68, upd r 6 (r 6 + 1), A 73) := fun v r => by
        unfold f_X10_lots
        rw [hin, Option.bind_some, if_pos (b2_0.mpr hx), if_pos (i1.mpr h1x), rf10_6, Option.bind_some]
      exact ⟨_, f10 _ _, rfl, t, k, h1, h2, h3, h4.up (by decide), h5, h6, h7, h8⟩
    · have f9 : f_X9_lots N x1 x2 x3 (I 1 5) (I 1 6) (I 1 7) (A 2) (A 3) (A 4) (A 5) (A 6) (I 7 5) (I 7 6) (I 7 7) (A 8) (A 9) (A 10) (A 11) (A 12) (I 29 3) (I 29 4) (I 29 5) (I 31 5) (I 31 6) (I 31 7) (A 32) (A 33) (A 34) (A 35) (A 36) (A 37) (A 38) (A 39) (A 40) (A 41) (A 42) (A 43) (A 44) (A 45) (A 64) = some (-4, I 7 5, I 7 6, I 7 7, A 8, A 9, A 10, A 11, A 12, I 29 3, I 29 4, I 29 5, I 31 5, I 31 6, I 31 7, A 32, A 33, A 34, A 35, A 36, A 37, A 38, A 39, A 40, A 41, A 42, A 43, A 44, A 45, upd (A 64) 4 (A 64 4 + 1)) := by
        unfold f_X9_lots
        rw [if_neg (fun q => h1x (i1.mp q)), rf9_4, Option.bind_some]
      refine ⟨_, f9, ?_⟩
      have f10 : ∀ (v : Int32) (r : Nat → Int32), f_X10_lots N x1 x2 x3 v (A 66) (A 68) r (A 73) = some (-4, v, A 68, upd r 4 (r 4 + 1), A 73) := fun v r => by
        unfold f_X10_lots
        rw [hin, Option.bind_some, if_pos (b2_0.mpr hx), if_neg (fun q => h1x (i1.mp q)), rf10_4, Option.bind_some]
      exact ⟨_, f10 _ _, rfl, t, k, h1, h2, h3, h4.up (by decide), h5, h6, h7, h8⟩
