/-! shared, dealt -/
def gOk (t : Nat → Nat) (n : Nat) (o : DL) : Prop := match o with | none => True | some q => ∀ i, i < t 49 → isD t i = true → q.2.2 i < n
theorem mF_g {P t : Nat → Nat} {n : Nat} : ∀ k s g o, s + k = t 49 → gOk t n o → (∀ i, i < s → isD t i = true → g i < n) → gOk t n (mF P t n k s g o)
  | 0, s, g, o, hs, ho, hg => by
    unfold mF
    split
    · exact fun i hi hd => hg i (by omega) hd
    · exact ho
  | k + 1, s, g, o, hs, ho, hg => by
    unfold mF
    split
    · have : ∀ m, m ≤ n → gOk t n (fdF (fun q p => mF P t n k (s + 1) (setT g s p) q) m o) := fun m => by
        induction m with
        | zero => exact fun _ => ho
        | succ m ih =>
          intro hm
          refine mF_g k (s + 1) (setT g s m) _ (by omega) (ih (by omega)) (fun i hi hd => ?_)
          by_cases e : i = s
          · rw [e, setT_s]; omega
          · rw [setT_n e]; exact hg i (by omega) hd
      exact this n (Nat.le_refl _)
    · rename_i z
      refine mF_g k (s + 1) g o (by omega) ho (fun i hi hd => ?_)
      by_cases e : i = s
      · rw [e] at hd; exact absurd hd z
      · exact hg i (by omega) hd
/-- whether the postman p has a street below k -/
def uB (t g : Nat → Nat) : Nat → Nat → Bool
  | 0, _ => false
  | k + 1, p => uB t g k p || (decide (k < t 49) && isD t k && decide (g k = p))
theorem uB_iff (t g : Nat → Nat) (p : Nat) : ∀ k, uB t g k p = true ↔ ∃ i, i < k ∧ i < t 49 ∧ isD t i = true ∧ g i = p
  | 0 => ⟨fun h => absurd (show false = true from h) (by decide), fun ⟨i, hi, _⟩ => absurd hi (by omega)⟩
  | k + 1 => by
    unfold uB
    rw [Bool.or_eq_true, uB_iff t g p k, Bool.and_eq_true, Bool.and_eq_true, decide_eq_true_iff, decide_eq_true_iff]
    constructor
    · rintro (⟨i, h1, h2⟩ | ⟨⟨h1, h2⟩, h3⟩)
      · exact ⟨i, by omega, h2⟩
      · exact ⟨k, by omega, h1, h2, h3⟩
    · rintro ⟨i, h1, h2, h3, h4⟩
      by_cases e : i = k
      · subst e; exact Or.inr ⟨⟨h2, h3⟩, h4⟩
      · exact Or.inl ⟨i, by omega, h2, h3, h4⟩
theorem hS_ne {t g : Nat → Nat} (hv : vT t) (p : Nat) : hS t g (t 49) p ≠ 0 ↔ uB t g 8 p = true := by
  have h8 := hv.1
  rw [uB_iff]
  constructor
  · intro h
    apply Classical.byContradiction
    intro w
    apply h
    apply Nat.eq_of_testBit_eq
    intro i
    unfold hS
    rw [bS_bit, Nat.zero_testBit]
    apply Classical.byContradiction
    intro y
    rw [Bool.not_eq_false, Bool.and_eq_true, Bool.and_eq_true, decide_eq_true_iff, decide_eq_true_iff] at y
    exact w ⟨i, by omega, y.1, y.2.1, y.2.2⟩
  · rintro ⟨i, h1, h2, h3, h4⟩ e
    have : (hS t g (t 49) p).testBit i = true := by
      unfold hS
      rw [bS_bit, decide_eq_true h2, h3, decide_eq_true h4]; rfl
    rw [e, Nat.zero_testBit] at this
    cases this
theorem busy_eq {t g : Nat → Nat} (hv : vT t) {n : Nat} (hn : n ≤ 3) (hg : ∀ i, i < t 49 → isD t i = true → g i < n) : cnt (uB t g 8) 3 = cnt (fun p => decide (hS t g (t 49) p ≠ 0)) n := by
  rw [← cnt_cut (fun p => decide (hS t g (t 49) p ≠ 0)) n 3 hn]
  apply cnt_cong
  intro p _
  by_cases z : uB t g 8 p = true
  · obtain ⟨i, h1, h2, h3, h4⟩ := (uB_iff t g p 8).mp z
    have := hg i h2 h3
    rw [z, decide_eq_true (show p < n by omega), decide_eq_true ((hS_ne hv p).mpr z)]; rfl
  · have : ¬ hS t g (t 49) p ≠ 0 := fun w => z ((hS_ne hv p).mp w)
    rw [decide_eq_false this, Bool.and_false]
    exact Bool.not_eq_true _ ▸ z
theorem f10_busy {t g : Nat → Nat} {dl : Nat → Int32} (hv : vT t) {n : Nat} (hn : n ≤ 3) (hg : ∀ i, i < t 49 → isD t i = true → g i < n) (hd : ∀ i, i < 8 → dl i = if i < t 49 ∧ isD t i = true then nI (g i) else -9) {N : Nat} (hN : 100 ≤ N) : lp (fun s_91 : Int32 × Int32 => f_X10_shared_b91 s_91.2 s_91.1 dl) N ((0 : Int32), (0 : Int32)) = some (nI (bS (uB t g 8) 3)) := by
  have z0 : bS (uB t g 0) 3 = 0 := rfl
  have hl := lp_seq (b := fun s_91 : Int32 × Int32 => f_X10_shared_b91 s_91.2 s_91.1 dl) (fun k => (nI (bS (uB t g k) 3), nI k)) (nI (bS (uB t g 8) 3)) 8 (fun k hk => by
    show f_X10_shared_b91 (nI k) (nI (bS (uB t g k) 3)) dl = _
    unfold f_X10_shared_b91
    rw [if_neg (show ¬ (8 : Int32) ≤ nI k from nI_ge (b := 8) hk (by decide)), ga_ok hk (by decide), nI_clamp (by omega), hd k hk, nI_1]
    by_cases y : k < t 49 ∧ isD t k = true
    · have gl := hg k y.1 y.2
      rw [if_pos y, if_neg (nI_pos (by omega)), ga_ok hk (by decide), sh1 (by omega), xI_or]
      congr 4
      apply Nat.eq_of_testBit_eq
      intro p
      rw [Nat.testBit_or, bS_bit, bS_bit, Nat.testBit_two_pow]
      show _ = (decide (p < 3) && (uB t g k p || (decide (k < t 49) && isD t k && decide (g k = p))))
      rw [decide_eq_true y.1, y.2]
      by_cases e : g k = p
      · rw [decide_eq_true e, decide_eq_true (show p < 3 by omega)]; simp
      · rw [decide_eq_false e]; simp
    · rw [if_neg y, if_pos (by decide), show (0 : Int32) = nI 0 from rfl, xI_or, Nat.or_zero]
      congr 4
      apply bS_cong
      intro p _
      show _ = (uB t g k p || (decide (k < t 49) && isD t k && decide (g k = p)))
      have : (decide (k < t 49) && isD t k) = false := by
        cases q : (decide (k < t 49) && isD t k) with
        | false => rfl
        | true =>
          rw [Bool.and_eq_true, decide_eq_true_iff] at q
          exact absurd q y
      rw [this, Bool.false_and, Bool.or_false]) (by
    show f_X10_shared_b91 (nI 8) (nI (bS (uB t g 8) 3)) dl = _
    unfold f_X10_shared_b91
    rw [if_pos (show (8 : Int32) ≤ nI 8 by decide)]) 8 0 N (by omega) (by omega)
  exact hl
theorem CP_of {t : Nat → Nat} (hv : vT t) {cl st co cs ag : Nat → Int32} {du sz : Int32} {V : Nat → Nat → Nat} (hV : IsV t (t 48) (dueB t (t 49)) V) (d2 : ∀ S c, S &&& dueB t (t 49) = S → c < 6 → cl (6 * S + c) = nI (V S c)) : CP t (fun S => V S (t 48)) cl := fun S hS => ⟨d2 S _ hS hv.2.1, hV.1 S _ hS hv.2.1⟩
theorem pm_shared {A I : Nat → Nat → Int32} (hI : Inv A I) {N : Nat} (hN : 8000000 ≤ N) (x1 x2 : Int32) : ∃ oc, f_X9_shared N x1 x2 (I 1 5) (I 1 6) (I 1 7) (A 2) (A 3) (A 4) (A 5) (A 6) (I 29 3) (I 29 4) (I 29 5) (I 31 5) (I 31 6) (I 31 7) (A 32) (A 33) (A 34) (A 35) (A 36) (A 37) (A 38) (A 39) (A 40) (A 41) (A 42) (A 43) (A 44) (A 45) (I 57 2) (I 57 4) (I 57 5) (I 57 6) (I 57 7) (A 58) (A 59) (A 60) (A 64) = some oc ∧ ∃ om, f_X10_shared N x1 x2 ((uI_X9_shared A I oc) 65 23) ((uI_X9_shared A I oc) 65 24) ((uA_X9_shared A I oc) 66) ((uA_X9_shared A I oc) 69) ((uA_X9_shared A I oc) 73) ((uA_X9_shared A I oc) 80) ((uA_X9_shared A I oc) 81) ((uA_X9_shared A I oc) 82) ((uA_X9_shared A I oc) 83) = some om ∧ oc.1 = om.1 ∧ Inv (uA_X10_shared (uA_X9_shared A I oc) (uI_X9_shared A I oc) om) (uI_X10_shared (uA_X9_shared A I oc) (uI_X9_shared A I oc) om) := by
  obtain ⟨t, k, h1, h2, h3, h4, h5, h6, h7, h8⟩ := hI
  obtain ⟨hv, hc, hm⟩ := id h1
  have t8 := hv.1
  have hin : f_X10_in (Int32.toInt64 x1) (1 : Int64) (3 : Int64) = some (b2 (1 ≤ x1.toInt ∧ x1.toInt ≤ 3)) := in_neg (by rw [t64]; exact Iff.rfl)
  have hin2 : f_X10_in (Int32.toInt64 x2) (0 : Int64) (2 : Int64) = some (b2 (0 ≤ x2.toInt ∧ x2.toInt ≤ 2)) := in_neg (by rw [t64]; exact Iff.rfl)
  have i1 : (1 : Int32) ≤ x1 ↔ 1 ≤ x1.toInt := by rw [i32_le]; exact Iff.rfl
  have i3 : x1 ≤ (3 : Int32) ↔ x1.toInt ≤ 3 := by rw [i32_le]; exact Iff.rfl
  have j0 : x2 < 0 ↔ x2.toInt < 0 := by rw [i32_lt]; exact Iff.rfl
  have j2 : x2 ≤ (2 : Int32) ↔ x2.toInt ≤ 2 := by rw [i32_le]; exact Iff.rfl
  by_cases hx : 1 ≤ x1.toInt ∧ x1.toInt ≤ 3
  · by_cases hy : 0 ≤ x2.toInt ∧ x2.toInt ≤ 2
    · obtain ⟨n, hn, rfl⟩ := cin_nI (n := 4) (x := x1) ⟨by omega, by omega⟩ (by decide)
      have hn1 : 1 ≤ n := by have := hx.1; rw [nI_toInt (by omega)] at this; omega
      obtain ⟨du1, ss1, f3, t3, l3, k3, g3, on3, bk3, le3, clf3, cf3, st3, co3, cs3, ag3, sk, c3, tr⟩ := f6_seek (on := A 37) (bk := A 38) (le := A 39) (cf := A 41) hv hc h8 (show 1000 ≤ N by omega)
      have iT := InvT_of hv c3 tr
      obtain ⟨V, hV, d1, d2, d3, d4⟩ := tr
      have cp := CP_of (st := st3) (co := co3) (cs := cs3) (ag := ag3) (du := du1) (sz := ss1) hv hV d2
      obtain ⟨fd, gr, tg, bu, se, trd, be, e1, e2⟩ := f0_seek (se := A 58) (tr := A 59) (be := A 60) (po := I 57 2) (fd := I 57 4) (gr := I 57 5) (tg := I 57 6) (bu := I 57 7) hv cp hn1 (show n ≤ 3 by omega) (show 100 ≤ N by omega)
      obtain ⟨mo, tg2, y, pr, ha, hd, dl, e3, e4, e5⟩ := f10_shares (mo := I 65 23) (tg := I 65 24) (lf := A 73) (pr := A 80) (ha := A 81) (hd := A 82) (dl := A 83) hv hm hV (show n ≤ 3 by omega) h7.2 hN
      rw [cF_mF (PG_of hv hV) (t 49) 0 _ _ (by omega)] at e2
      have gk := mF_g (P := fun S => V S (t 48)) (t := t) (n := n) (t 49) 0 (fun _ => 0) none (by omega) trivial (fun i hi => absurd hi (by omega))
      generalize mF (fun S => V S (t 48)) t n (t 49) 0 (fun _ => 0) none = o at e2 e4 gk
      have e1' : f_X0_seek N (nI n) (I 57 2) (I 57 4) (I 57 5) (I 57 6) (I 57 7) (A 58) (A 59) (A 60) du1 (I 1 7) clf3 = some (nI n, fd, gr, tg, bu, se, trd, be) := by rw [d1, hc.2.1]; exact e1
      have c9 : f_X9_shared N (nI n) x2 (I 1 5) (I 1 6) (I 1 7) (A 2) (A 3) (A 4) (A 5) (A 6) (I 29 3) (I 29 4) (I 29 5) (I 31 5) (I 31 6) (I 31 7) (A 32) (A 33) (A 34) (A 35) (A 36) (A 37) (A 38) (A 39) (A 40) (A 41) (A 42) (A 43) (A 44) (A 45) (I 57 2) (I 57 4) (I 57 5) (I 57 6) (I 57 7) (A 58) (A 59) (A 60) (A 64) = (if fd = 0 then some ((-9 : Int32), 1, du1, ss1, I 1 5, I 1 6, I 1 7, f3, t3, l3, k3, g3, on3, bk3, le3, clf3, cf3, st3, co3, cs3, ag3, nI n, fd, gr, tg, bu, se, trd, be, A 64) else (if x2 = 0 then some (gr, 1, du1, ss1, I 1 5, I 1 6, I 1 7, f3, t3, l3, k3, g3, on3, bk3, le3, clf3, cf3, st3, co3, cs3, ag3, nI n, fd, gr, tg, bu, se, trd, be, A 64) else (if x2 = 1 then some (tg, 1, du1, ss1, I 1 5, I 1 6, I 1 7, f3, t3, l3, k3, g3, on3, bk3, le3, clf3, cf3, st3, co3, cs3, ag3, nI n, fd, gr, tg, bu, se, trd, be, A 64) else some (bu, 1, du1, ss1, I 1 5, I 1 6, I 1 7, f3, t3, l3, k3, g3, on3, bk3, le3, clf3, cf3, st3, co3, cs3, ag3, nI n, fd, gr, tg, bu, se, trd, be, A 64)))) := by
        unfold f_X9_shared
        rw [if_pos (i1.mpr hx.1), if_pos (i3.mpr hx.2), if_neg (fun q => by have := j0.mp q; omega), if_pos (j2.mpr hy.2), sk, Option.bind_some]
        dsimp only
        rw [e1', Option.bind_some]
      have m9 : ∀ r : Nat → Int32, f_X10_shared N (nI n) x2 (I 65 23) (I 65 24) (A 66) r (A 73) (A 80) (A 81) (A 82) (A 83) = (if x2 < 2 then some (if x2 = 1 then tg2 else mo, mo, tg2, r, y, pr, ha, hd, dl) else (if (0 : Int32) ≤ mo then (lp (fun s_91 : Int32 × Int32 => f_X10_shared_b91 s_91.2 s_91.1 dl) N ((0 : Int32), (0 : Int32))).bind (fun e => (f_J6_bitCount_0f7a4 e).bind (fun b => some (b, mo, tg2, r, y, pr, ha, hd, dl))) else some (if x2 = 1 then tg2 else mo, mo, tg2, r, y, pr, ha, hd, dl))) := fun r => by
        unfold f_X10_shared f_X10_shared_j4
        rw [hin, Option.bind_some, if_neg (fun q => b2_0.mp q hx), hin2, Option.bind_some, if_neg (fun q => b2_0.mp q hy), e3, Option.bind_some]
      have core : ∃ v, f_X9_shared N (nI n) x2 (I 1 5) (I 1 6) (I 1 7) (A 2) (A 3) (A 4) (A 5) (A 6) (I 29 3) (I 29 4) (I 29 5) (I 31 5) (I 31 6) (I 31 7) (A 32) (A 33) (A 34) (A 35) (A 36) (A 37) (A 38) (A 39) (A 40) (A 41) (A 42) (A 43) (A 44) (A 45) (I 57 2) (I 57 4) (I 57 5) (I 57 6) (I 57 7) (A 58) (A 59) (A 60) (A 64) = some (v, 1, du1, ss1, I 1 5, I 1 6, I 1 7, f3, t3, l3, k3, g3, on3, bk3, le3, clf3, cf3, st3, co3, cs3, ag3, nI n, fd, gr, tg, bu, se, trd, be, A 64) ∧ ∀ r : Nat → Int32, f_X10_shared N (nI n) x2 (I 65 23) (I 65 24) (A 66) r (A 73) (A 80) (A 81) (A 82) (A 83) = some (v, mo, tg2, r, y, pr, ha, hd, dl) := by
        rw [c9]
        obtain ⟨j, hj, rfl⟩ := cin_nI (n := 3) (x := x2) ⟨hy.1, by omega⟩ (by decide)
        have j3 : j = 0 ∨ j = 1 ∨ j = 2 := by omega
        cases o with
        | none =>
          obtain ⟨m1, m2, m3⟩ := e4
          refine ⟨-9, by rw [if_pos (show fd = 0 from e2)], fun r => ?_⟩
          rw [m9]
          rcases j3 with rfl | rfl | rfl
          · rw [if_pos (by decide), if_neg (by decide), m1]
          · rw [if_pos (by decide), if_pos (by decide), m2]
          · rw [if_neg (by decide), if_neg (by rw [m1]; decide), if_neg (by decide), m1]
        | some q =>
          obtain ⟨a1, a2, a3, a4, a5, a6, a7⟩ := e2
          obtain ⟨m1, m2, m3, m4, m5⟩ := e4
          rw [if_neg (by rw [a1]; decide)]
          rcases j3 with rfl | rfl | rfl
          · refine ⟨nI q.1, by rw [if_pos (by decide), a2], fun r => ?_⟩
            rw [m9, if_pos (by decide), if_neg (by decide), m1]
          · refine ⟨nI q.2.1, by rw [if_neg (by decide), if_pos (by decide), a3], fun r => ?_⟩
            rw [m9, if_pos (by decide), if_pos (by decide), m2]
          · refine ⟨nI (cnt (fun p => decide (hS t q.2.2 (t 49) p ≠ 0)) n), by rw [if_neg (by decide), if_neg (by decide), a4], fun r => ?_⟩
            rw [m9, if_neg (by decide), if_pos (by rw [m1]; exact nI_pos' (by omega)), f10_busy hv (show n ≤ 3 by omega) gk m3 (show 100 ≤ N by omega), Option.bind_some, bitCount_bS _ (by decide), Option.bind_some, busy_eq hv (show n ≤ 3 by omega) gk]
      obtain ⟨v, f1, f2⟩ := core
      exact ⟨_, f1, _, f2 _, rfl, t, k, h1, h2, h3, h4, h5, h6, ⟨h7.1, e5⟩, iT⟩
    · have f9 : f_X9_shared N x1 x2 (I 1 5) (I 1 6) (I 1 7) (A 2) (A 3) (A 4) (A 5) (A 6) (I 29 3) (I 29 4) (I 29 5) (I 31 5) (I 31 6) (I 31 7) (A 32) (A 33) (A 34) (A 35) (A 36) (A 37) (A 38) (A 39) (A 40) (A 41) (A 42) (A 43) (A 44) (A 45) (I 57 2) (I 57 4) (I 57 5) (I 57 6) (I 57 7) (A 58) (A 59) (A 60) (A 64) = some (-2, I 29 3, I 29 4, I 29 5, I 31 5, I 31 6, I 31 7, A 32, A 33, A 34, A 35, A 36, A 37, A 38, A 39, A 40, A 41, A 42, A 43, A 44, A 45, I 57 2, I 57 4, I 57 5, I 57 6, I 57 7, A 58, A 59, A 60, upd (A 64) 2 (A 64 2 + 1)) := by
        unfold f_X9_shared f_X9_shared_j1
        rw [rf9_2, Option.bind_some, if_pos (i1.mpr hx.1), if_pos (i3.mpr hx.2)]
        by_cases z : x2 < 0
        · rw [if_pos z]
        · rw [if_neg z, if_neg (fun q => hy ⟨by have : ¬ x2.toInt < 0 := fun w => z (j0.mpr w); omega, j2.mp q⟩)]
      refine ⟨_, f9, ?_⟩
      have f10 : ∀ r : Nat → Int32, f_X10_shared N x1 x2 (I 65 23) (I 65 24) (A 66) r (A 73) (A 80) (A 81) (A 82) (A 83) = some (-2, I 65 23, I 65 24, upd r 2 (r 2 + 1), A 73, A 80, A 81, A 82, A 83) := fun r => by
        unfold f_X10_shared
        rw [hin, Option.bind_some, if_neg (fun q => b2_0.mp q hx), hin2, Option.bind_some, if_pos (b2_0.mpr hy), rf10_2, Option.bind_some]
      exact ⟨_, f10 _, rfl, t, k, h1, h2, h3, h4.up (by decide), h5, h6, h7, h8⟩
  · by_cases h1x : 1 ≤ x1.toInt
    · have f9 : f_X9_shared N x1 x2 (I 1 5) (I 1 6) (I 1 7) (A 2) (A 3) (A 4) (A 5) (A 6) (I 29 3) (I 29 4) (I 29 5) (I 31 5) (I 31 6) (I 31 7) (A 32) (A 33) (A 34) (A 35) (A 36) (A 37) (A 38) (A 39) (A 40) (A 41) (A 42) (A 43) (A 44) (A 45) (I 57 2) (I 57 4) (I 57 5) (I 57 6) (I 57 7) (A 58) (A 59) (A 60) (A 64) = some (-6, I 29 3, I 29 4, I 29 5, I 31 5, I 31 6, I 31 7, A 32, A 33, A 34, A 35, A 36, A 37, A 38, A 39, A 40, A 41, A 42, A 43, A 44, A 45, I 57 2, I 57 4, I 57 5, I 57 6, I 57 7, A 58, A 59, A 60, upd (A 64) 6 (A 64 6 + 1)) := by
        unfold f_X9_shared
        rw [if_pos (i1.mpr h1x), if_neg (fun q => hx ⟨h1x, i3.mp q⟩), rf9_6, Option.bind_some]
      refine ⟨_, f9, ?_⟩
      have f10 : ∀ r : Nat → Int32, f_X10_shared N x1 x2 (I 65 23) (I 65 24) (A 66) r (A 73) (A 80) (A 81) (A 82) (A 83) = some (-6, I 65 23, I 65 24, upd r 6 (r 6 + 1), A 73, A 80, A 81, A 82, A 83) := fun r => by
        unfold f_X10_shared
        rw [hin, Option.bind_some, if_pos (b2_0.mpr hx), if_pos (i1.mpr h1x), rf10_6, Option.bind_some]
      exact ⟨_, f10 _, rfl, t, k, h1, h2, h3, h4.up (by decide), h5, h6, h7, h8⟩
    · have f9 : f_X9_shared N x1 x2 (I 1 5) (I 1 6) (I 1 7) (A 2) (A 3) (A 4) (A 5) (A 6) (I 29 3) (I 29 4) (I 29 5) (I 31 5) (I 31 6) (I 31 7) (A 32) (A 33) (A 34) (A 35) (A 36) (A 37) (A 38) (A 39) (A 40) (A 41) (A 42) (A 43) (A 44) (A 45) (I 57 2) (I 57 4) (I 57 5) (I 57 6) (I 57 7) (A 58) (A 59) (A 60) (A 64) = some (-4, I 29 3, I 29 4, I 29 5, I 31 5, I 31 6, I 31 7, A 32, A 33, A 34, A 35, A 36, A 37, A 38, A 39, A 40, A 41, A 42, A 43, A 44, A 45, I 57 2, I 57 4, I 57 5, I 57 6, I 57 7, A 58, A 59, A 60, upd (A 64) 4 (A 64 4 + 1)) := by
        unfold f_X9_shared
        rw [if_neg (fun q => h1x (i1.mp q)), rf9_4, Option.bind_some]
      refine ⟨_, f9, ?_⟩
      have f10 : ∀ r : Nat → Int32, f_X10_shared N x1 x2 (I 65 23) (I 65 24) (A 66) r (A 73) (A 80) (A 81) (A 82) (A 83) = some (-4, I 65 23, I 65 24, upd r 4 (r 4 + 1), A 73, A 80, A 81, A 82, A 83) := fun r => by
        unfold f_X10_shared
        rw [hin, Option.bind_some, if_pos (b2_0.mpr hx), if_neg (fun q => h1x (i1.mp q)), rf10_4, Option.bind_some]
      exact ⟨_, f10 _, rfl, t, k, h1, h2, h3, h4.up (by decide), h5, h6, h7, h8⟩
theorem pm_dealt {A I : Nat → Nat → Int32} (hI : Inv A I) {N : Nat} (hN : 8000000 ≤ N) (x1 x2 : Int32) : ∃ oc, f_X9_dealt N x1 x2 (I 1 5) (I 1 6) (I 1 7) (A 2) (A 3) (A 4) (A 5) (A 6) (I 29 3) (I 29 4) (I 29 5) (I 31 5) (I 31 6) (I 31 7) (A 32) (A 33) (A 34) (A 35) (A 36) (A 37) (A 38) (A 39) (A 40) (A 41) (A 42) (A 43) (A 44) (A 45) (I 57 2) (I 57 4) (I 57 5) (I 57 6) (I 57 7) (A 58) (A 59) (A 60) (A 64) = some oc ∧ ∃ om, f_X10_dealt N x1 x2 ((uI_X9_dealt A I oc) 65 23) ((uI_X9_dealt A I oc) 65 24) ((uA_X9_dealt A I oc) 66) ((uA_X9_dealt A I oc) 69) ((uA_X9_dealt A I oc) 73) ((uA_X9_dealt A I oc) 80) ((uA_X9_dealt A I oc) 81) ((uA_X9_dealt A I oc) 82) ((uA_X9_dealt A I oc) 83) = some om ∧ oc.1 = om.1 ∧ Inv (uA_X10_dealt (uA_X9_dealt A I oc) (uI_X9_dealt A I oc) om) (uI_X10_dealt (uA_X9_dealt A I oc) (uI_X9_dealt A I oc) om) := by
  obtain ⟨t, k, h1, h2, h3, h4, h5, h6, h7, h8⟩ := hI
  obtain ⟨hv, hc, hm⟩ := id h1
  have t8 := hv.1
  have hin : f_X10_in (Int32.toInt64 x1) (1 : Int64) (3 : Int64) = some (b2 (1 ≤ x1.toInt ∧ x1.toInt ≤ 3)) := in_neg (by rw [t64]; exact Iff.rfl)
  have i1 : (1 : Int32) ≤ x1 ↔ 1 ≤ x1.toInt := by rw [i32_le]; exact Iff.rfl
  have i3 : x1 ≤ (3 : Int32) ↔ x1.toInt ≤ 3 := by rw [i32_le]; exact Iff.rfl
  by_cases hx : 1 ≤ x1.toInt ∧ x1.toInt ≤ 3
  · by_cases hy : 0 ≤ x2.toInt ∧ x2.toInt < t 49
    · obtain ⟨n, hn, rfl⟩ := cin_nI (n := 4) (x := x1) ⟨by omega, by omega⟩ (by decide)
      have hn1 : 1 ≤ n := by have := hx.1; rw [nI_toInt (by omega)] at this; omega
      obtain ⟨s, hs, rfl⟩ := cin_nI hy (by omega)
      obtain ⟨du1, ss1, f3, t3, l3, k3, g3, on3, bk3, le3, clf3, cf3, st3, co3, cs3, ag3, sk, c3, tr⟩ := f6_seek (on := A 37) (bk := A 38) (le := A 39) (cf := A 41) hv hc h8 (show 1000 ≤ N by omega)
      have iT := InvT_of hv c3 tr
      obtain ⟨V, hV, d1, d2, d3, d4⟩ := tr
      obtain ⟨mo, tg2, y, pr, ha, hd, dl, e3, e4, e5⟩ := f10_shares (mo := I 65 23) (tg := I 65 24) (lf := A 73) (pr := A 80) (ha := A 81) (hd := A 82) (dl := A 83) hv hm hV (show n ≤ 3 by omega) h7.2 hN
      have f10 : ∀ r : Nat → Int32, f_X10_dealt N (nI n) (nI s) (I 65 23) (I 65 24) (A 66) r (A 73) (A 80) (A 81) (A 82) (A 83) = some (dl s, mo, tg2, r, y, pr, ha, hd, dl) := fun r => by
        unfold f_X10_dealt
        rw [hin, Option.bind_some, if_neg (fun q => b2_0.mp q hx), f10_isStreet _ t8 hm.1, Option.bind_some, if_neg (fun q => b2_0.mp q hy), e3, Option.bind_some, ga_ok (by omega) (by decide), nI_clamp (by omega)]
      by_cases z : isD t s = true
      · have cp := CP_of (st := st3) (co := co3) (cs := cs3) (ag := ag3) (du := du1) (sz := ss1) hv hV d2
        obtain ⟨fd, gr, tg, bu, se, trd, be, e1, e2⟩ := f0_seek (se := A 58) (tr := A 59) (be := A 60) (po := I 57 2) (fd := I 57 4) (gr := I 57 5) (tg := I 57 6) (bu := I 57 7) hv cp hn1 (show n ≤ 3 by omega) (show 100 ≤ N by omega)
        rw [cF_mF (PG_of hv hV) (t 49) 0 _ _ (by omega)] at e2
        generalize mF (fun S => V S (t 48)) t n (t 49) 0 (fun _ => 0) none = o at e2 e4
        have e1' : f_X0_seek N (nI n) (I 57 2) (I 57 4) (I 57 5) (I 57 6) (I 57 7) (A 58) (A 59) (A 60) du1 (I 1 7) clf3 = some (nI n, fd, gr, tg, bu, se, trd, be) := by rw [d1, hc.2.1]; exact e1
        have f9 : f_X9_dealt N (nI n) (nI s) (I 1 5) (I 1 6) (I 1 7) (A 2) (A 3) (A 4) (A 5) (A 6) (I 29 3) (I 29 4) (I 29 5) (I 31 5) (I 31 6) (I 31 7) (A 32) (A 33) (A 34) (A 35) (A 36) (A 37) (A 38) (A 39) (A 40) (A 41) (A 42) (A 43) (A 44) (A 45) (I 57 2) (I 57 4) (I 57 5) (I 57 6) (I 57 7) (A 58) (A 59) (A 60) (A 64) = some (dl s, 1, du1, ss1, I 1 5, I 1 6, I 1 7, f3, t3, l3, k3, g3, on3, bk3, le3, clf3, cf3, st3, co3, cs3, ag3, nI n, fd, gr, tg, bu, se, trd, be, A 64) := by
          unfold f_X9_dealt
          rw [if_pos (i1.mpr hx.1), if_pos (i3.mpr hx.2), hc.1, f7_has _ (by omega), Option.bind_some, if_neg (fun q => b2_0.mp q hy), ← hc.1, f7_isDue hv hc hs, Option.bind_some, if_neg (fun q => b2_0.mp q z), sk, Option.bind_some]
          dsimp only
          rw [e1', Option.bind_some]
          dsimp only
          cases o with
          | none =>
            obtain ⟨m1, m2, m3⟩ := e4
            rw [if_pos (show fd = 0 from e2), m3 s (by omega)]
          | some q =>
            obtain ⟨a1, a2, a3, a4, a5, a6, a7⟩ := e2
            obtain ⟨m1, m2, m3, m4, m5⟩ := e4
            rw [if_neg (by rw [a1]; decide), ga_ok (by omega) (by decide), nI_clamp (by omega), a5 s hs z, m3 s (by omega), if_pos ⟨hs, z⟩]
        exact ⟨_, f9, _, f10 _, rfl, t, k, h1, h2, h3, h4, h5, h6, ⟨h7.1, e5⟩, iT⟩
      · have dn : dl s = -9 := by
          generalize mF (fun S => V S (t 48)) t n (t 49) 0 (fun _ => 0) none = o at e4
          cases o with
          | none => exact e4.2.2 s (by omega)
          | some q => rw [e4.2.2.1 s (by omega), if_neg (fun w => z w.2)]
        rw [dn] at f10
        have f9 : f_X9_dealt N (nI n) (nI s) (I 1 5) (I 1 6) (I 1 7) (A 2) (A 3) (A 4) (A 5) (A 6) (I 29 3) (I 29 4) (I 29 5) (I 31 5) (I 31 6) (I 31 7) (A 32) (A 33) (A 34) (A 35) (A 36) (A 37) (A 38) (A 39) (A 40) (A 41) (A 42) (A 43) (A 44) (A 45) (I 57 2) (I 57 4) (I 57 5) (I 57 6) (I 57 7) (A 58) (A 59) (A 60) (A 64) = some (-9, I 29 3, I 29 4, I 29 5, I 31 5, I 31 6, I 31 7, A 32, A 33, A 34, A 35, A 36, A 37, A 38, A 39, A 40, A 41, A 42, A 43, A 44, A 45, I 57 2, I 57 4, I 57 5, I 57 6, I 57 7, A 58, A 59, A 60, A 64) := by
          unfold f_X9_dealt
          rw [if_pos (i1.mpr hx.1), if_pos (i3.mpr hx.2), hc.1, f7_has _ (by omega), Option.bind_some, if_neg (fun q => b2_0.mp q hy), ← hc.1, f7_isDue hv hc hs, Option.bind_some, if_pos (b2_0.mpr z)]
        exact ⟨_, f9, _, f10 _, rfl, t, k, h1, h2, h3, h4, h5, h6, ⟨h7.1, e5⟩, h8⟩
    · have f9 : f_X9_dealt N x1 x2 (I 1 5) (I 1 6) (I 1 7) (A 2) (A 3) (A 4) (A 5) (A 6) (I 29 3) (I 29 4) (I 29 5) (I 31 5) (I 31 6) (I 31 7) (A 32) (A 33) (A 34) (A 35) (A 36) (A 37) (A 38) (A 39) (A 40) (A 41) (A 42) (A 43) (A 44) (A 45) (I 57 2) (I 57 4) (I 57 5) (I 57 6) (I 57 7) (A 58) (A 59) (A 60) (A 64) = some (-1, I 29 3, I 29 4, I 29 5, I 31 5, I 31 6, I 31 7, A 32, A 33, A 34, A 35, A 36, A 37, A 38, A 39, A 40, A 41, A 42, A 43, A 44, A 45, I 57 2, I 57 4, I 57 5, I 57 6, I 57 7, A 58, A 59, A 60, upd (A 64) 1 (A 64 1 + 1)) := by
        unfold f_X9_dealt
        rw [if_pos (i1.mpr hx.1), if_pos (i3.mpr hx.2), hc.1, f7_has _ (by omega), Option.bind_some, if_pos (b2_0.mpr hy), rf9_1, Option.bind_some]
      refine ⟨_, f9, ?_⟩
      have f10 : ∀ r : Nat → Int32, f_X10_dealt N x1 x2 (I 65 23) (I 65 24) (A 66) r (A 73) (A 80) (A 81) (A 82) (A 83) = some (-1, I 65 23, I 65 24, upd r 1 (r 1 + 1), A 73, A 80, A 81, A 82, A 83) := fun r => by
        unfold f_X10_dealt
        rw [hin, Option.bind_some, if_neg (fun q => b2_0.mp q hx), f10_isStreet _ t8 hm.1, Option.bind_some, if_pos (b2_0.mpr hy), rf10_1, Option.bind_some]
      exact ⟨_, f10 _, rfl, t, k, h1, h2, h3, h4.up (by decide), h5, h6, h7, h8⟩
  · by_cases h1x : 1 ≤ x1.toInt
    · have f9 : f_X9_dealt N x1 x2 (I 1 5) (I 1 6) (I 1 7) (A 2) (A 3) (A 4) (A 5) (A 6) (I 29 3) (I 29 4) (I 29 5) (I 31 5) (I 31 6) (I 31 7) (A 32) (A 33) (A 34) (A 35) (A 36) (A 37) (A 38) (A 39) (A 40) (A 41) (A 42) (A 43) (A 44) (A 45) (I 57 2) (I 57 4) (I 57 5) (I 57 6) (I 57 7) (A 58) (A 59) (A 60) (A 64) = some (-6, I 29 3, I 29 4, I 29 5, I 31 5, I 31 6, I 31 7, A 32, A 33, A 34, A 35, A 36, A 37, A 38, A 39, A 40, A 41, A 42, A 43, A 44, A 45, I 57 2, I 57 4, I 57 5, I 57 6, I 57 7, A 58, A 59, A 60, upd (A 64) 6 (A 64 6 + 1)) := by
        unfold f_X9_dealt
        rw [if_pos (i1.mpr h1x), if_neg (fun q => hx ⟨h1x, i3.mp q⟩), rf9_6, Option.bind_some]
      refine ⟨_, f9, ?_⟩
      have f10 : ∀ r : Nat → Int32, f_X10_dealt N x1 x2 (I 65 23) (I 65 24) (A 66) r (A 73) (A 80) (A 81) (A 82) (A 83) = some (-6, I 65 23, I 65 24, upd r 6 (r 6 + 1), A 73, A 80, A 81, A 82, A 83) := fun r => by
        unfold f_X10_dealt
        rw [hin, Option.bind_some, if_pos (b2_0.mpr hx), if_pos (i1.mpr h1x), rf10_6, Option.bind_some]
      exact ⟨_, f10 _, rfl, t, k, h1, h2, h3, h4.up (by decide), h5, h6, h7, h8⟩
    · have f9 : f_X9_dealt N x1 x2 (I 1 5) (I 1 6) (I 1 7) (A 2) (A 3) (A 4) (A 5) (A 6) (I 29 3) (I 29 4) (I 29 5) (I 31 5) (I 31 6) (I 31 7) (A 32) (A 33) (A 34) (A 35) (A 36) (A 37) (A 38) (A 39) (A 40) (A 41) (A 42) (A 43) (A 44) (A 45) (I 57 2) (I 57 4) (I 57 5) (I 57 6) (I 57 7) (A 58) (A 59) (A 60) (A 64) = some (-4, I 29 3, I 29 4, I 29 5, I 31 5, I 31 6, I 31 7, A 32, A 33, A 34, A 35, A 36, A 37, A 38, A 39, A 40, A 41, A 42, A 43, A 44, A 45, I 57 2, I 57 4, I 57 5, I 57 6, I 57 7, A 58, A 59, A 60, upd (A 64) 4 (A 64 4 + 1)) := by
        unfold f_X9_dealt
        rw [if_neg (fun q => h1x (i1.mp q)), rf9_4, Option.bind_some]
      refine ⟨_, f9, ?_⟩
      have f10 : ∀ r : Nat → Int32, f_X10_dealt N x1 x2 (I 65 23) (I 65 24) (A 66) r (A 73) (A 80) (A 81) (A 82) (A 83) = some (-4, I 65 23, I 65 24, upd r 4 (r 4 + 1), A 73, A 80, A 81, A 82, A 83) := fun r => by
        unfold f_X10_dealt
        rw [hin, Option.bind_some, if_pos (b2_0.mpr hx), if_neg (fun q => h1x (i1.mp q)), rf10_4, Option.bind_some]
      exact ⟨_, f10 _, rfl, t, k, h1, h2, h3, h4.up (by decide), h5, h6, h7, h8⟩
