/-! rounds of a town that is tried: without a street, with one turned round, the worst -/
abbrev QT := Int32 × Int32 × Int32 × Int32 × Int32 × Int32 × (Nat → Int32) × (Nat → Int32) × (Nat → Int32) × (Nat → Int32) × (Nat → Int32) × (Nat → Int32) × (Nat → Int32) × (Nat → Int32) × (Nat → Int32) × (Nat → Int32) × (Nat → Int32) × (Nat → Int32) × (Nat → Int32) × (Nat → Int32)
abbrev TT := Int32 × Int32 × Int32 × (Nat → Int32) × (Nat → Int32) × (Nat → Int32) × (Nat → Int32) × (Nat → Int32) × QT
def QTok (q : QT) : Prop := InvT q.2.2.2.2.2.2.1 q.2.2.2.2.2.2.2.1 q.2.2.2.2.2.2.2.2.1 q.2.2.2.2.2.2.2.2.2.1 q.2.2.2.2.2.2.2.2.2.2.1 q.2.2.2.2.2.2.2.2.2.2.2.2.2.2.1 q.2.2.2.2.2.2.2.2.2.2.2.2.2.2.2.2.1 q.2.2.2.2.2.2.2.2.2.2.2.2.2.2.2.2.2.1 q.2.2.2.2.2.2.2.2.2.2.2.2.2.2.2.2.2.2.1 q.2.2.2.2.2.2.2.2.2.2.2.2.2.2.2.2.2.2.2 q.2.2.2.1 q.2.2.2.2.1 q.2.2.2.2.2.1 q.1 q.2.1 q.2.2.1
def TTok (z : TT) : Prop := QTok z.2.2.2.2.2.2.2.2
/-- the least cost of a round of the town; 1000000: none -/
noncomputable def rC (t : Nat → Nat) : Nat := @dite Nat (∃ V, IsV t (t 48) (dueB t (t 49)) V) (Classical.propDecidable _) (fun h => (Classical.choose h) (dueB t (t 49)) (t 48)) (fun _ => 1000000)
theorem rC_eq {t : Nat → Nat} (hv : vT t) {V : Nat → Nat → Nat} (hV : IsV t (t 48) (dueB t (t 49)) V) : V (dueB t (t 49)) (t 48) = rC t := by
  have h : ∃ V, IsV t (t 48) (dueB t (t 49)) V := ⟨V, hV⟩
  unfold rC
  rw [dif_pos h]
  exact IsV_one hv (dueB_lt hv) hV (Classical.choose_spec h) (Nat.and_self _) hv.2.1
theorem rC_le {t : Nat → Nat} (hv : vT t) : rC t ≤ 1000000 := by
  by_cases h : ∃ V, IsV t (t 48) (dueB t (t 49)) V
  · obtain ⟨V, hV⟩ := h
    rw [← rC_eq hv hV]
    exact hV.1 _ _ (Nat.and_self _) hv.2.1
  · unfold rC
    rw [dif_neg h]; exact Nat.le_refl _
theorem f10_roundOfC {t : Nat → Nat} {w x : Nat → Int32} (hv : vT t) (h : mR t w) {N : Nat} (hN : 8000000 ≤ N) : ∃ y, f_X10_roundOf N x w = some (toldC (rC t), y) := by
  have hex : ∃ V, IsV t (t 48) (dueB t (t 49)) V := by
    obtain ⟨y, _, e2⟩ := f10_seeks (x := x) hv h (dueB_lt hv) hv.2.1 hN
    exact ⟨_, Dn_IsV hv (dueB_lt hv) hv.2.1 e2⟩
  obtain ⟨V, hV⟩ := hex
  obtain ⟨y, e, _⟩ := f10_roundOf (x := x) hv h hV hN
  rw [rC_eq hv hV] at e
  exact ⟨y, e⟩
theorem f9_costOfTrial {t : Nat → Nat} {fr to ln kd fg : Nat → Int32} {cl sz hm : Int32} (hv : vT t) (hc : cR t fr to ln kd fg cl sz hm) (q : QT) (hq : QTok q) {N : Nat} (hN : 1000 ≤ N) : ∃ q', f_X9_costOfTrial N cl sz hm fr to ln kd fg q.1 q.2.1 q.2.2.1 q.2.2.2.1 q.2.2.2.2.1 q.2.2.2.2.2.1 q.2.2.2.2.2.2.1 q.2.2.2.2.2.2.2.1 q.2.2.2.2.2.2.2.2.1 q.2.2.2.2.2.2.2.2.2.1 q.2.2.2.2.2.2.2.2.2.2.1 q.2.2.2.2.2.2.2.2.2.2.2.1 q.2.2.2.2.2.2.2.2.2.2.2.2.1 q.2.2.2.2.2.2.2.2.2.2.2.2.2.1 q.2.2.2.2.2.2.2.2.2.2.2.2.2.2.1 q.2.2.2.2.2.2.2.2.2.2.2.2.2.2.2.1 q.2.2.2.2.2.2.2.2.2.2.2.2.2.2.2.2.1 q.2.2.2.2.2.2.2.2.2.2.2.2.2.2.2.2.2.1 q.2.2.2.2.2.2.2.2.2.2.2.2.2.2.2.2.2.2.1 q.2.2.2.2.2.2.2.2.2.2.2.2.2.2.2.2.2.2.2 = some (nI (rC t), q') ∧ QTok q' := by
  obtain ⟨du1, ss1, f3, t3, l3, k3, g3, on3, bk3, le3, clf3, cf3, st3, co3, cs3, ag3, sk, c3, tr⟩ := f6_seek (on := q.2.2.2.2.2.2.2.2.2.2.2.1) (bk := q.2.2.2.2.2.2.2.2.2.2.2.2.1) (le := q.2.2.2.2.2.2.2.2.2.2.2.2.2.1) (cf := q.2.2.2.2.2.2.2.2.2.2.2.2.2.2.2.1) hv hc hq hN
  refine ⟨(1, du1, ss1, cl, sz, hm, f3, t3, l3, k3, g3, on3, bk3, le3, clf3, cf3, st3, co3, cs3, ag3), ?_, InvT_of hv c3 tr⟩
  obtain ⟨V, hV, d1, d2, d3, d4⟩ := tr
  unfold f_X9_costOfTrial
  rw [sk, Option.bind_some]
  dsimp only
  rw [f6_costIs d1 hc.2.1 (dueB_lt hv) hv.2.1 (d2 _ _ (Nat.and_self _) hv.2.1), Option.bind_some, rC_eq hv hV]
/-- a town with the streets of a set closed -/
def closeT (t : Nat → Nat) (G : Nat) : Nat → Nat := fun j => if (40 ≤ j ∧ j < 48) ∧ G.testBit (j - 40) = true then 0 else t j
theorem closeT_o {t : Nat → Nat} {G j : Nat} (h : ¬ (40 ≤ j ∧ j < 48)) : closeT t G j = t j := if_neg (fun q => h q.1)
theorem closeT_s {t : Nat → Nat} {G s : Nat} (hs : s < 8) : closeT t G (40 + s) = if G.testBit s = true then 0 else t (40 + s) := by
  unfold closeT
  rw [show 40 + s - 40 = s by omega]
  by_cases z : G.testBit s = true
  · rw [if_pos ⟨⟨by omega, by omega⟩, z⟩, if_pos z]
  · rw [if_neg (fun q => z q.2), if_neg z]
theorem closeT_2 (t : Nat → Nat) {s : Nat} (hs : s < 8) : closeT t (2 ^ s) = setT t (8 * 5 + s) 0 := by
  funext j
  unfold closeT setT
  rw [Nat.testBit_two_pow]
  by_cases z : j = 8 * 5 + s
  · rw [if_pos z, if_pos ⟨by omega, decide_eq_true (by omega)⟩]
  · rw [if_neg z, if_neg (fun q => z (by have := of_decide_eq_true q.2; omega))]
theorem vT.close {t : Nat → Nat} (hv : vT t) (G : Nat) : vT (closeT t G) := by
  have h8 := hv.1
  have e49 : closeT t G 49 = t 49 := closeT_o (by omega)
  have e48 : closeT t G 48 = t 48 := closeT_o (by omega)
  refine ⟨by rw [e49]; exact h8, by rw [e48]; exact hv.2.1, fun s hs => ?_, fun j j1 j2 j3 => ?_⟩
  · rw [e49] at hs
    obtain ⟨v1, v2, v3, v4, v5, v6, v7, v8⟩ := hv.2.2.1 s hs
    rw [closeT_o (j := s) (by omega), closeT_o (j := 8 + s) (by omega), closeT_o (j := 16 + s) (by omega), closeT_o (j := 24 + s) (by omega), closeT_o (j := 32 + s) (by omega), closeT_s (by omega)]
    refine ⟨v1, v2, v3, v4, v5, v6, v7, ?_⟩
    split <;> omega
  · rw [e49] at j3
    have := hv.2.2.2 j j1 j2 j3
    unfold closeT
    split
    · rfl
    · exact this
theorem clB_close {t : Nat → Nat} {G n : Nat} (hn : n ≤ 8) (hG : G < 2 ^ n) : clB (closeT t G) n = clB t n ||| G := by
  apply Nat.eq_of_testBit_eq
  intro i
  rw [Nat.testBit_or, clB_bit, clB_bit]
  by_cases z : i < n
  · rw [closeT_s (by omega)]
    by_cases y : G.testBit i = true
    · rw [if_pos y, y, Bool.or_true]; exact decide_eq_true ⟨z, rfl⟩
    · rw [if_neg y]
      rw [Bool.not_eq_true] at y
      rw [y, Bool.or_false]
  · rw [decide_eq_false (fun q => z q.1), decide_eq_false (fun q => z q.1), Nat.testBit_lt_two_pow (Nat.lt_of_lt_of_le hG (Nat.pow_le_pow_right (by decide) (by omega)))]; rfl
theorem cR.close {t : Nat → Nat} {fr to ln kd fg : Nat → Int32} {cl sz hm : Int32} (hv : vT t) (h : cR t fr to ln kd fg cl sz hm) {G : Nat} (hG : G < 2 ^ t 49) : cR (closeT t G) fr to ln kd fg (cl ||| nI G) sz hm := by
  have h8 := hv.1
  have e49 : closeT t G 49 = t 49 := closeT_o (by omega)
  have e48 : closeT t G 48 = t 48 := closeT_o (by omega)
  obtain ⟨a1, a2, a3, a4⟩ := h
  refine ⟨by rw [e49]; exact a1, by rw [e48]; exact a2, ?_, fun s hs => ?_⟩
  · rw [e49, clB_close h8 hG, a3, xI_or]
  · rw [e49] at hs
    rw [closeT_o (j := s) (by omega), closeT_o (j := 8 + s) (by omega), closeT_o (j := 16 + s) (by omega), closeT_o (j := 24 + s) (by omega), closeT_o (j := 32 + s) (by omega)]
    exact a4 s hs
theorem f9_costWithout {t : Nat → Nat} {fr to ln kd fg : Nat → Int32} {cl sz hm : Int32} (hv : vT t) (hc : cR t fr to ln kd fg cl sz hm) {s : Nat} (hs : s < t 49) (z : TT) (hz : TTok z) {N : Nat} (hN : 1000 ≤ N) : ∃ z', f_X9_costWithout N (nI s) cl sz hm fr to ln kd fg z.1 z.2.1 z.2.2.1 z.2.2.2.1 z.2.2.2.2.1 z.2.2.2.2.2.1 z.2.2.2.2.2.2.1 z.2.2.2.2.2.2.2.1 z.2.2.2.2.2.2.2.2.1 z.2.2.2.2.2.2.2.2.2.1 z.2.2.2.2.2.2.2.2.2.2.1 z.2.2.2.2.2.2.2.2.2.2.2.1 z.2.2.2.2.2.2.2.2.2.2.2.2.1 z.2.2.2.2.2.2.2.2.2.2.2.2.2.1 z.2.2.2.2.2.2.2.2.2.2.2.2.2.2.1 z.2.2.2.2.2.2.2.2.2.2.2.2.2.2.2.1 z.2.2.2.2.2.2.2.2.2.2.2.2.2.2.2.2.1 z.2.2.2.2.2.2.2.2.2.2.2.2.2.2.2.2.2.1 z.2.2.2.2.2.2.2.2.2.2.2.2.2.2.2.2.2.2.1 z.2.2.2.2.2.2.2.2.2.2.2.2.2.2.2.2.2.2.2.1 z.2.2.2.2.2.2.2.2.2.2.2.2.2.2.2.2.2.2.2.2.1 z.2.2.2.2.2.2.2.2.2.2.2.2.2.2.2.2.2.2.2.2.2.1 z.2.2.2.2.2.2.2.2.2.2.2.2.2.2.2.2.2.2.2.2.2.2.1 z.2.2.2.2.2.2.2.2.2.2.2.2.2.2.2.2.2.2.2.2.2.2.2.1 z.2.2.2.2.2.2.2.2.2.2.2.2.2.2.2.2.2.2.2.2.2.2.2.2.1 z.2.2.2.2.2.2.2.2.2.2.2.2.2.2.2.2.2.2.2.2.2.2.2.2.2.1 z.2.2.2.2.2.2.2.2.2.2.2.2.2.2.2.2.2.2.2.2.2.2.2.2.2.2.1 z.2.2.2.2.2.2.2.2.2.2.2.2.2.2.2.2.2.2.2.2.2.2.2.2.2.2.2 = some (nI (rC (closeT t (2 ^ s))), z') ∧ TTok z' := by
  have h8 := hv.1
  obtain ⟨f3, t3, l3, k3, g3, e1, e2⟩ := f7_takeOver (f2 := z.2.2.2.1) (t2 := z.2.2.2.2.1) (l2 := z.2.2.2.2.2.1) (k2 := z.2.2.2.2.2.2.1) (g2 := z.2.2.2.2.2.2.2.1) (c2 := z.1) (s2 := z.2.1) (h2 := z.2.2.1) hv hc
  have hG : 2 ^ s < 2 ^ t 49 := Nat.pow_lt_pow_right (by decide) hs
  obtain ⟨q', e3, e4⟩ := f9_costOfTrial (hv.close (2 ^ s)) (e2.close hv hG) z.2.2.2.2.2.2.2.2 hz hN
  refine ⟨(cl ||| nI (2 ^ s), sz, hm, f3, t3, l3, k3, g3, q'), ?_, e4⟩
  unfold f_X9_costWithout
  rw [e1, Option.bind_some]
  dsimp only
  unfold f_X7_close
  rw [Option.bind_some, sh1 (by omega), e3, Option.bind_some]
theorem f10_thought {t : Nat → Nat} {w x : Nat → Int32} (hv : vT t) (h : mR t w) {N : Nat} (hN : 100 ≤ N) : ∃ w', f_X10_thought N w x = some w' ∧ mR t w' := by
  refine ⟨cpN x w 50, ?_, h.cpy hv cpN_50⟩
  unfold f_X10_thought
  rw [f10_copies w x hN, Option.bind_some]
theorem f10_withoutOf {t : Nat → Nat} {w x lf : Nat → Int32} (hv : vT t) (h : mR t w) {s : Nat} (hs : s < t 49) {N : Nat} (hN : 8000000 ≤ N) : ∃ w' y, f_X10_withoutOf N (nI s) w x lf = some (toldC (rC (closeT t (2 ^ s))), w', y) := by
  have h8 := hv.1
  obtain ⟨w', e1, e2⟩ := f10_thought (x := x) hv h (show 100 ≤ N by omega)
  have hm' : mR (closeT t (2 ^ s)) (upd w' (8 * 5 + s) (nI 0)) := by
    rw [closeT_2 t (by omega)]
    exact e2.set hv hs (by decide)
  obtain ⟨y, e3⟩ := f10_roundOfC (x := lf) (hv.close (2 ^ s)) hm' hN
  refine ⟨upd w' (8 * 5 + s) (nI 0), y, ?_⟩
  have e40 : (40 : Int32) + nI s = nI (8 * 5 + s) := nI_add 40 s
  unfold f_X10_withoutOf
  rw [e1, Option.bind_some, e40, ga_ok (by omega) (by decide), nI_clamp (by omega), show (0 : Int32) = nI 0 from rfl, e3, Option.bind_some]
theorem pm_without {A I : Nat → Nat → Int32} (hI : Inv A I) {N : Nat} (hN : 8000000 ≤ N) (x1 : Int32) : ∃ oc, f_X9_without N x1 (I 1 5) (I 1 6) (I 1 7) (A 2) (A 3) (A 4) (A 5) (A 6) (I 7 5) (I 7 6) (I 7 7) (A 8) (A 9) (A 10) (A 11) (A 12) (I 29 3) (I 29 4) (I 29 5) (I 31 5) (I 31 6) (I 31 7) (A 32) (A 33) (A 34) (A 35) (A 36) (A 37) (A 38) (A 39) (A 40) (A 41) (A 42) (A 43) (A 44) (A 45) (A 64) = some oc ∧ ∃ om, f_X10_without N x1 ((uA_X9_without A I oc) 66) ((uA_X9_without A I oc) 68) ((uA_X9_without A I oc) 69) ((uA_X9_without A I oc) 73) = some om ∧ oc.1 = om.1 ∧ Inv (uA_X10_without (uA_X9_without A I oc) (uI_X9_without A I oc) om) (uI_X10_without (uA_X9_without A I oc) (uI_X9_without A I oc) om) := by
  obtain ⟨t, k, h1, h2, h3, h4, h5, h6, h7, h8⟩ := hI
  obtain ⟨hv, hc, hm⟩ := id h1
  have t8 := hv.1
  by_cases hx : 0 ≤ x1.toInt ∧ x1.toInt < t 49
  · obtain ⟨s, hs, rfl⟩ := cin_nI hx (by omega)
    obtain ⟨z', e1, e2⟩ := f9_costWithout hv hc hs (I 7 5, I 7 6, I 7 7, A 8, A 9, A 10, A 11, A 12, I 29 3, I 29 4, I 29 5, I 31 5, I 31 6, I 31 7, A 32, A 33, A 34, A 35, A 36, A 37, A 38, A 39, A 40, A 41, A 42, A 43, A 44, A 45) h8 (show 1000 ≤ N by omega)
    have rl := rC_le (hv.close (2 ^ s))
    have f9 : f_X9_without N (nI s) (I 1 5) (I 1 6) (I 1 7) (A 2) (A 3) (A 4) (A 5) (A 6) (I 7 5) (I 7 6) (I 7 7) (A 8) (A 9) (A 10) (A 11) (A 12) (I 29 3) (I 29 4) (I 29 5) (I 31 5) (I 31 6) (I 31 7) (A 32) (A 33) (A 34) (A 35) (A 36) (A 37) (A 38) (A 39) (A 40) (A 41) (A 42) (A 43) (A 44) (A 45) (A 64) = some (toldC (rC (closeT t (2 ^ s))), z'.1, z'.2.1, z'.2.2.1, z'.2.2.2.1, z'.2.2.2.2.1, z'.2.2.2.2.2.1, z'.2.2.2.2.2.2.1, z'.2.2.2.2.2.2.2.1, z'.2.2.2.2.2.2.2.2.1, z'.2.2.2.2.2.2.2.2.2.1, z'.2.2.2.2.2.2.2.2.2.2.1, z'.2.2.2.2.2.2.2.2.2.2.2.1, z'.2.2.2.2.2.2.2.2.2.2.2.2.1, z'.2.2.2.2.2.2.2.2.2.2.2.2.2.1, z'.2.2.2.2.2.2.2.2.2.2.2.2.2.2.1, z'.2.2.2.2.2.2.2.2.2.2.2.2.2.2.2.1, z'.2.2.2.2.2.2.2.2.2.2.2.2.2.2.2.2.1, z'.2.2.2.2.2.2.2.2.2.2.2.2.2.2.2.2.2.1, z'.2.2.2.2.2.2.2.2.2.2.2.2.2.2.2.2.2.2.1, z'.2.2.2.2.2.2.2.2.2.2.2.2.2.2.2.2.2.2.2.1, z'.2.2.2.2.2.2.2.2.2.2.2.2.2.2.2.2.2.2.2.2.1, z'.2.2.2.2.2.2.2.2.2.2.2.2.2.2.2.2.2.2.2.2.2.1, z'.2.2.2.2.2.2.2.2.2.2.2.2.2.2.2.2.2.2.2.2.2.2.1, z'.2.2.2.2.2.2.2.2.2.2.2.2.2.2.2.2.2.2.2.2.2.2.2.1, z'.2.2.2.2.2.2.2.2.2.2.2.2.2.2.2.2.2.2.2.2.2.2.2.2.1, z'.2.2.2.2.2.2.2.2.2.2.2.2.2.2.2.2.2.2.2.2.2.2.2.2.2.1, z'.2.2.2.2.2.2.2.2.2.2.2.2.2.2.2.2.2.2.2.2.2.2.2.2.2.2.1, z'.2.2.2.2.2.2.2.2.2.2.2.2.2.2.2.2.2.2.2.2.2.2.2.2.2.2.2, A 64) := by
      unfold f_X9_without
      rw [hc.1, f7_has _ (by omega), Option.bind_some, if_neg (fun q => b2_0.mp q hx), ← hc.1, e1, Option.bind_some]
      dsimp only
      rw [f9_orNone (by omega), Option.bind_some]
    refine ⟨_, f9, ?_⟩
    obtain ⟨w', y, e3⟩ := f10_withoutOf (x := A 68) (lf := A 73) hv hm hs hN
    have f10 : ∀ r : Nat → Int32, f_X10_without N (nI s) (A 66) (A 68) r (A 73) = some (toldC (rC (closeT t (2 ^ s))), w', r, y) := fun r => by
      unfold f_X10_without
      rw [f10_isStreet _ t8 hm.1, Option.bind_some, if_neg (fun q => b2_0.mp q hx), e3, Option.bind_some]
    exact ⟨_, f10 _, rfl, t, k, h1, h2, h3, h4, h5, h6, h7, e2⟩
  · have f9 : f_X9_without N x1 (I 1 5) (I 1 6) (I 1 7) (A 2) (A 3) (A 4) (A 5) (A 6) (I 7 5) (I 7 6) (I 7 7) (A 8) (A 9) (A 10) (A 11) (A 12) (I 29 3) (I 29 4) (I 29 5) (I 31 5) (I 31 6) (I 31 7) (A 32) (A 33) (A 34) (A 35) (A 36) (A 37) (A 38) (A 39) (A 40) (A 41) (A 42) (A 43) (A 44) (A 45) (A 64) = some (-1, I 7 5, I 7 6, I 7 7, A 8, A 9, A 10, A 11, A 12, I 29 3, I 29 4, I 29 5, I 31 5, I 31 6, I 31 7, A 32, A 33, A 34, A 35, A 36, A 37, A 38, A 39, A 40, A 41, A 42, A 43, A 44, A 45, upd (A 64) 1 (A 64 1 + 1)) := by
      unfold f_X9_without
      rw [hc.1, f7_has _ (by omega), Option.bind_some, if_pos (b2_0.mpr hx), rf9_1, Option.bind_some]
    refine ⟨_, f9, ?_⟩
    have f10 : ∀ r : Nat → Int32, f_X10_without N x1 (A 66) (A 68) r (A 73) = some (-1, A 68, upd r 1 (r 1 + 1), A 73) := fun r => by
      unfold f_X10_without
      rw [f10_isStreet _ t8 hm.1, Option.bind_some, if_pos (b2_0.mpr hx), rf10_1, Option.bind_some]
    exact ⟨_, f10 _, rfl, t, k, h1, h2, h3, h4.up (by decide), h5, h6, h7, h8⟩
def swT (t : Nat → Nat) (s : Nat) : Nat → Nat := setT (setT t (8 * 0 + s) (t (8 + s))) (8 * 1 + s) (t s)
theorem swT_a {t : Nat → Nat} {s : Nat} : swT t s s = t (8 + s) := by
  unfold swT setT
  rw [if_neg (by omega), if_pos (by omega)]
theorem swT_b {t : Nat → Nat} {s : Nat} : swT t s (8 + s) = t s := by
  unfold swT
  rw [show 8 + s = 8 * 1 + s by omega, setT_s]
theorem swT_o {t : Nat → Nat} {s j : Nat} (h1 : j ≠ s) (h2 : j ≠ 8 + s) : swT t s j = t j := by
  unfold swT
  rw [setT_n (by omega), setT_n (by omega)]
theorem vT.sw {t : Nat → Nat} (hv : vT t) {s : Nat} (hs : s < t 49) : vT (swT t s) := by
  have h8 := hv.1
  have e49 : swT t s 49 = t 49 := swT_o (by omega) (by omega)
  have e48 : swT t s 48 = t 48 := swT_o (by omega) (by omega)
  refine ⟨by rw [e49]; exact h8, by rw [e48]; exact hv.2.1, fun i hi => ?_, fun j j1 j2 j3 => ?_⟩
  · rw [e49] at hi
    have o := hv.2.2.1 i hi
    rw [swT_o (j := 16 + i) (by omega) (by omega), swT_o (j := 24 + i) (by omega) (by omega), swT_o (j := 32 + i) (by omega) (by omega), swT_o (j := 40 + i) (by omega) (by omega)]
    by_cases e : i = s
    · subst e
      rw [swT_a, swT_b]
      exact ⟨o.2.1, o.1, fun q => o.2.2.1 q.symm, o.2.2.2⟩
    · rw [swT_o (j := i) e (by omega), swT_o (j := 8 + i) (by omega) (by omega)]
      exact o
  · rw [e49] at j3
    rw [swT_o (by omega) (by omega)]
    exact hv.2.2.2 j j1 j2 j3
theorem cR.sw {t : Nat → Nat} {fr to ln kd fg : Nat → Int32} {cl sz hm : Int32} (hv : vT t) (h : cR t fr to ln kd fg cl sz hm) {s : Nat} (hs : s < t 49) : cR (swT t s) (upd fr s (to s)) (upd to s (fr s)) ln kd fg cl sz hm := by
  have h8 := hv.1
  have e49 : swT t s 49 = t 49 := swT_o (by omega) (by omega)
  have e48 : swT t s 48 = t 48 := swT_o (by omega) (by omega)
  obtain ⟨a1, a2, a3, a4⟩ := h
  refine ⟨by rw [e49]; exact a1, by rw [e48]; exact a2, ?_, fun i hi => ?_⟩
  · rw [e49, a3]
    congr 1
    exact clB_cong _ (fun i hi => (swT_o (by omega) (by omega)).symm)
  · rw [e49] at hi
    have o := a4 i hi
    rw [swT_o (j := 16 + i) (by omega) (by omega), swT_o (j := 24 + i) (by omega) (by omega), swT_o (j := 32 + i) (by omega) (by omega)]
    by_cases e : i = s
    · subst e
      rw [swT_a, swT_b, pk_us, pk_us]
      exact ⟨o.2.1, o.1, o.2.2⟩
    · rw [swT_o (j := i) e (by omega), swT_o (j := 8 + i) (by omega) (by omega), pk_un e, pk_un e]
      exact o
theorem pm_turned {A I : Nat → Nat → Int32} (hI : Inv A I) {N : Nat} (hN : 8000000 ≤ N) (x1 : Int32) : ∃ oc, f_X9_turned N x1 (I 1 5) (I 1 6) (I 1 7) (A 2) (A 3) (A 4) (A 5) (A 6) (I 7 5) (I 7 6) (I 7 7) (A 8) (A 9) (A 10) (A 11) (A 12) (I 29 3) (I 29 4) (I 29 5) (I 31 5) (I 31 6) (I 31 7) (A 32) (A 33) (A 34) (A 35) (A 36) (A 37) (A 38) (A 39) (A 40) (A 41) (A 42) (A 43) (A 44) (A 45) (A 64) = some oc ∧ ∃ om, f_X10_turned N x1 ((uA_X9_turned A I oc) 66) ((uA_X9_turned A I oc) 68) ((uA_X9_turned A I oc) 69) ((uA_X9_turned A I oc) 73) = some om ∧ oc.1 = om.1 ∧ Inv (uA_X10_turned (uA_X9_turned A I oc) (uI_X9_turned A I oc) om) (uI_X10_turned (uA_X9_turned A I oc) (uI_X9_turned A I oc) om) := by
  obtain ⟨t, k, h1, h2, h3, h4, h5, h6, h7, h8⟩ := hI
  obtain ⟨hv, hc, hm⟩ := id h1
  have t8 := hv.1
  by_cases hx : 0 ≤ x1.toInt ∧ x1.toInt < t 49
  · obtain ⟨s, hs, rfl⟩ := cin_nI hx (by omega)
    obtain ⟨f3, t3, l3, k3, g3, e1, e2⟩ := f7_takeOver (f2 := A 8) (t2 := A 9) (l2 := A 10) (k2 := A 11) (g2 := A 12) (c2 := I 7 5) (s2 := I 7 6) (h2 := I 7 7) hv hc
    obtain ⟨q', e3, e4⟩ := f9_costOfTrial (hv.sw hs) (e2.sw hv hs) (I 29 3, I 29 4, I 29 5, I 31 5, I 31 6, I 31 7, A 32, A 33, A 34, A 35, A 36, A 37, A 38, A 39, A 40, A 41, A 42, A 43, A 44, A 45) h8 (show 1000 ≤ N by omega)
    have rl := rC_le (hv.sw hs)
    have f9 : f_X9_turned N (nI s) (I 1 5) (I 1 6) (I 1 7) (A 2) (A 3) (A 4) (A 5) (A 6) (I 7 5) (I 7 6) (I 7 7) (A 8) (A 9) (A 10) (A 11) (A 12) (I 29 3) (I 29 4) (I 29 5) (I 31 5) (I 31 6) (I 31 7) (A 32) (A 33) (A 34) (A 35) (A 36) (A 37) (A 38) (A 39) (A 40) (A 41) (A 42) (A 43) (A 44) (A 45) (A 64) = some (toldC (rC (swT t s)), I 1 5, I 1 6, I 1 7, upd f3 s (t3 s), upd t3 s (f3 s), l3, k3, g3, q'.1, q'.2.1, q'.2.2.1, q'.2.2.2.1, q'.2.2.2.2.1, q'.2.2.2.2.2.1, q'.2.2.2.2.2.2.1, q'.2.2.2.2.2.2.2.1, q'.2.2.2.2.2.2.2.2.1, q'.2.2.2.2.2.2.2.2.2.1, q'.2.2.2.2.2.2.2.2.2.2.1, q'.2.2.2.2.2.2.2.2.2.2.2.1, q'.2.2.2.2.2.2.2.2.2.2.2.2.1, q'.2.2.2.2.2.2.2.2.2.2.2.2.2.1, q'.2.2.2.2.2.2.2.2.2.2.2.2.2.2.1, q'.2.2.2.2.2.2.2.2.2.2.2.2.2.2.2.1, q'.2.2.2.2.2.2.2.2.2.2.2.2.2.2.2.2.1, q'.2.2.2.2.2.2.2.2.2.2.2.2.2.2.2.2.2.1, q'.2.2.2.2.2.2.2.2.2.2.2.2.2.2.2.2.2.2.1, q'.2.2.2.2.2.2.2.2.2.2.2.2.2.2.2.2.2.2.2, A 64) := by
      unfold f_X9_turned
      rw [hc.1, f7_has _ (by omega), Option.bind_some, if_neg (fun q => b2_0.mp q hx), ← hc.1, e1, Option.bind_some]
      dsimp only
      unfold f_X7_turnRound
      rw [ga_ok (by omega) (by decide), ga_ok (by omega) (by decide), ga_ok (by omega) (by decide), ga_ok (by omega) (by decide), Option.bind_some, nI_clamp (by omega)]
      dsimp only
      rw [e3, Option.bind_some]
      dsimp only
      rw [f9_orNone (by omega), Option.bind_some]
    refine ⟨_, f9, ?_⟩
    obtain ⟨w', e5, e6⟩ := f10_thought (x := A 68) hv hm (show 100 ≤ N by omega)
    have hr := hm.2.2
    have w0 : A 66 (8 * 0 + s) = nI (t s) := by have := hr 0 (by decide) s hs; rw [show t s = t (8 * 0 + s) by congr 1; omega]; exact this
    have w1 : A 66 (8 * 1 + s) = nI (t (8 + s)) := hr 1 (by decide) s hs
    have m2 : mR (swT t s) (upd (upd w' (8 * 0 + s) (nI (t (8 + s)))) (8 * 1 + s) (nI (t s))) := by
      have m1 := e6.set (v := t (8 + s)) hv hs (show 0 < 6 by decide)
      have e49 : setT t (8 * 0 + s) (t (8 + s)) 49 = t 49 := setT_n (by omega)
      obtain ⟨b1, b2, b3⟩ := m1
      rw [e49] at b1 b3
      have s49 : swT t s 49 = t 49 := swT_o (by omega) (by omega)
      have s48 : swT t s 48 = t 48 := swT_o (by omega) (by omega)
      refine ⟨?_, ?_, fun r hr i hi => ?_⟩
      · rw [s49, pk_un (by omega)]; exact b1
      · rw [s48, pk_un (by omega), b2, setT_n (by omega)]
      · rw [s49] at hi
        by_cases e : 8 * r + i = 8 * 1 + s
        · rw [e, pk_us]; unfold swT; rw [setT_s]
        · rw [pk_un e, b3 r hr i hi]; unfold swT; rw [setT_n (j := 8 * r + i) e]
    obtain ⟨y, e7⟩ := f10_roundOfC (x := A 73) (hv.sw hs) m2 hN
    have i0 : (0 : Int32) + nI s = nI (8 * 0 + s) := by rw [show (8 * 0 + s) = 0 + s by omega]; exact nI_add 0 s
    have i1 : (8 : Int32) + nI s = nI (8 * 1 + s) := nI_add 8 s
    have f10 : ∀ r : Nat → Int32, f_X10_turned N (nI s) (A 66) (A 68) r (A 73) = some (toldC (rC (swT t s)), upd (upd w' (8 * 0 + s) (nI (t (8 + s)))) (8 * 1 + s) (nI (t s)), r, y) := fun r => by
      unfold f_X10_turned
      rw [f10_isStreet _ t8 hm.1, Option.bind_some, if_neg (fun q => b2_0.mp q hx), e5, Option.bind_some, i0, i1, ga_ok (by omega) (by decide), ga_ok (by omega) (by decide), ga_ok (by omega) (by decide), ga_ok (by omega) (by decide), nI_clamp (by omega), nI_clamp (by omega), w0, w1, e7, Option.bind_some]
    exact ⟨_, f10 _, rfl, t, k, h1, h2, h3, h4, h5, h6, h7, e4⟩
  · have f9 : f_X9_turned N x1 (I 1 5) (I 1 6) (I 1 7) (A 2) (A 3) (A 4) (A 5) (A 6) (I 7 5) (I 7 6) (I 7 7) (A 8) (A 9) (A 10) (A 11) (A 12) (I 29 3) (I 29 4) (I 29 5) (I 31 5) (I 31 6) (I 31 7) (A 32) (A 33) (A 34) (A 35) (A 36) (A 37) (A 38) (A 39) (A 40) (A 41) (A 42) (A 43) (A 44) (A 45) (A 64) = some (-1, I 7 5, I 7 6, I 7 7, A 8, A 9, A 10, A 11, A 12, I 29 3, I 29 4, I 29 5, I 31 5, I 31 6, I 31 7, A 32, A 33, A 34, A 35, A 36, A 37, A 38, A 39, A 40, A 41, A 42, A 43, A 44, A 45, upd (A 64) 1 (A 64 1 + 1)) := by
      unfold f_X9_turned
      rw [hc.1, f7_has _ (by omega), Option.bind_some, if_pos (b2_0.mpr hx), rf9_1, Option.bind_some]
    refine ⟨_, f9, ?_⟩
    have f10 : ∀ r : Nat → Int32, f_X10_turned N x1 (A 66) (A 68) r (A 73) = some (-1, A 68, upd r 1 (r 1 + 1), A 73) := fun r => by
      unfold f_X10_turned
      rw [f10_isStreet _ t8 hm.1, Option.bind_some, if_pos (b2_0.mpr hx), rf10_1, Option.bind_some]
    exact ⟨_, f10 _, rfl, t, k, h1, h2, h3, h4.up (by decide), h5, h6, h7, h8⟩
