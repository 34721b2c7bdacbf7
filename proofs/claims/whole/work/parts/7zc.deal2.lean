/-! streets dealt to several postmen: the class -/
theorem sT_bd {f : Nat → Nat} {b : Nat} : ∀ n, (∀ i, i < n → f i ≤ b) → sT f n ≤ n * b
  | 0, _ => Nat.zero_le _
  | n + 1, h => by
    have := sT_bd n (fun i hi => h i (by omega))
    have := h n (by omega)
    unfold sT
    rw [Nat.succ_mul]
    omega
/-- prices of the sets of what is due, in the class's table -/
def CP (t P : Nat → Nat) (x : Nat → Int32) : Prop := ∀ S, S &&& dueB t (t 49) = S → x (6 * S + t 48) = nI (P S) ∧ P S ≤ 1000000
theorem f6_costOfSet {S h : Nat} {x : Nat → Int32} (hS : S < 256) (hh : h < 6) : f_X6_costOfSet (nI S) (nI h) x = some (x (6 * S + h)) := by
  unfold f_X6_costOfSet
  rw [six, ga_ok (by omega) (by decide), nI_clamp (by omega)]
theorem f0_mostOf {t P g : Nat → Nat} {x se : Nat → Int32} (hv : vT t) (hP : CP t P x) {n s : Nat} (hn : n ≤ 3) (hs : s ≤ t 49) (hse : ∀ p, p < 3 → se p = nI (hS t g s p)) {N : Nat} (hN : 100 ≤ N) : f_X0_mostOf N (nI n) se (nI (t 48)) x = some (nI (vM P t n g s)) := by
  have h8 := hv.1
  have mb : ∀ i, i ≤ 3 → mxN (fun p => P (hS t g s p)) i < 1000001 := fun i _ => mxN_lt (by omega) i (fun p _ => by have := (hP _ (hS_sub hv g hs p)).2; omega)
  have hl := lp_seq (b := fun s_4 : Int32 × Int32 => f_X0_mostOf_b4 (nI n) s_4.2 s_4.1 se (nI (t 48)) x) (fun i => (nI (mxN (fun p => P (hS t g s p)) i), nI i)) (nI (vM P t n g s)) n (fun i hi => by
    obtain ⟨c1, c2⟩ := hP _ (hS_sub hv g hs i)
    have m1 := mb i (by omega)
    show f_X0_mostOf_b4 (nI n) (nI i) (nI (mxN (fun p => P (hS t g s p)) i)) se (nI (t 48)) x = some (.inl (nI (if mxN (fun p => P (hS t g s p)) i < P (hS t g s i) then P (hS t g s i) else mxN (fun p => P (hS t g s p)) i), nI (i + 1)))
    unfold f_X0_mostOf_b4
    rw [if_neg (nI_ge hi (by omega)), ga_ok (by omega) (by decide), nI_clamp (by omega), hse i (by omega), f6_costOfSet (hS_lt t g (by omega) i) hv.2.1, Option.bind_some, c1, nI_1]
    by_cases z : mxN (fun p => P (hS t g s p)) i < P (hS t g s i)
    · rw [if_pos (nI_lt z (by omega)), if_pos z]
    · rw [if_neg (nI_nlt (by omega) (by omega)), if_neg z]) (by
    show f_X0_mostOf_b4 (nI n) (nI n) (nI (mxN (fun p => P (hS t g s p)) n)) se (nI (t 48)) x = _
    unfold f_X0_mostOf_b4
    rw [if_pos (nI_le (Nat.le_refl _) (by omega))]; rfl) n 0 N (by omega) (by omega)
  unfold f_X0_mostOf
  rw [show lp (fun s_4 : Int32 × Int32 => f_X0_mostOf_b4 (nI n) s_4.2 s_4.1 se (nI (t 48)) x) N ((0 : Int32), (0 : Int32)) = some (nI (vM P t n g s)) from hl, Option.bind_some]
theorem f0_sumOf {t P g : Nat → Nat} {x se : Nat → Int32} (hv : vT t) (hP : CP t P x) {n s : Nat} (hn : n ≤ 3) (hs : s ≤ t 49) (hse : ∀ p, p < 3 → se p = nI (hS t g s p)) {N : Nat} (hN : 100 ≤ N) : f_X0_sumOf N (nI n) se (nI (t 48)) x = some (nI (vW P t n g s)) := by
  have h8 := hv.1
  have hl := lp_seq (b := fun s_4 : Int32 × Int32 => f_X0_sumOf_b4 (nI n) s_4.2 s_4.1 se (nI (t 48)) x) (fun i => (nI (sT (fun p => P (hS t g s p)) i), nI i)) (nI (vW P t n g s)) n (fun i hi => by
    obtain ⟨c1, c2⟩ := hP _ (hS_sub hv g hs i)
    show f_X0_sumOf_b4 (nI n) (nI i) (nI (sT (fun p => P (hS t g s p)) i)) se (nI (t 48)) x = some (.inl (nI (sT (fun p => P (hS t g s p)) i + P (hS t g s i)), nI (i + 1)))
    unfold f_X0_sumOf_b4
    rw [if_neg (nI_ge hi (by omega)), ga_ok (by omega) (by decide), nI_clamp (by omega), hse i (by omega), f6_costOfSet (hS_lt t g (by omega) i) hv.2.1, Option.bind_some, c1, nI_1, nI_add]) (by
    show f_X0_sumOf_b4 (nI n) (nI n) (nI (sT (fun p => P (hS t g s p)) n)) se (nI (t 48)) x = _
    unfold f_X0_sumOf_b4
    rw [if_pos (nI_le (Nat.le_refl _) (by omega))]; rfl) n 0 N (by omega) (by omega)
  unfold f_X0_sumOf
  rw [show lp (fun s_4 : Int32 × Int32 => f_X0_sumOf_b4 (nI n) s_4.2 s_4.1 se (nI (t 48)) x) N ((0 : Int32), (0 : Int32)) = some (nI (vW P t n g s)) from hl, Option.bind_some]
/-- the class's best so far -/
def CR (t : Nat → Nat) (n : Nat) (fd gr tg bu : Int32) (be : Nat → Int32) (o : DL) : Prop :=
  match o with
  | none => fd = 0
  | some q => fd = 1 ∧ gr = nI q.1 ∧ tg = nI q.2.1 ∧ bu = nI (cnt (fun p => decide (hS t q.2.2 (t 49) p ≠ 0)) n) ∧ (∀ i, i < t 49 → isD t i = true → be i = nI (q.2.2 i)) ∧ q.1 < 1000000 ∧ q.2.1 ≤ 3000000
theorem vW_le {t P g : Nat → Nat} {x : Nat → Int32} (hv : vT t) (hP : CP t P x) {n s : Nat} (hn : n ≤ 3) (hs : s ≤ t 49) : vW P t n g s ≤ 3000000 ∧ vM P t n g s ≤ 1000000 := by
  have h1 : vW P t n g s ≤ n * 1000000 := sT_bd n (fun p _ => (hP _ (hS_sub hv g hs p)).2)
  have h2 : vM P t n g s < 1000001 := mxN_lt (by omega) n (fun p _ => by have := (hP _ (hS_sub hv g hs p)).2; omega)
  have : n * 1000000 ≤ 3 * 1000000 := Nat.mul_le_mul_right _ hn
  omega
theorem f0_isBetter {t P g : Nat → Nat} {x se be : Nat → Int32} {fd gr tg bu : Int32} {o : DL} (hv : vT t) (hP : CP t P x) {n s : Nat} (hn : n ≤ 3) (hs : s ≤ t 49) (hse : ∀ p, p < 3 → se p = nI (hS t g s p)) (hC : CR t n fd gr tg bu be o) {N : Nat} (hN : 100 ≤ N) : f_X0_isBetter N (nI n) fd gr tg se (nI (t 48)) x = some (b2 (btr o (vM P t n g s) (vW P t n g s) = true)) := by
  obtain ⟨w1, w2⟩ := vW_le (g := g) hv hP hn hs
  unfold f_X0_isBetter
  rw [f0_mostOf hv hP hn hs hse hN, Option.bind_some]
  by_cases z : vM P t n g s < 1000000
  · rw [if_pos (show nI (vM P t n g s) < (1000000 : Int32) from nI_lt (b := 1000000) z (by decide))]
    cases o with
    | none =>
      rw [if_pos (show fd = 0 from hC)]
      have : btr none (vM P t n g s) (vW P t n g s) = true := by unfold btr; rw [decide_eq_true z]; rfl
      rw [show b2 (btr none (vM P t n g s) (vW P t n g s) = true) = 1 from if_pos this]
    | some q =>
      obtain ⟨c1, c2, c3, c4, c5, c6, c7⟩ := hC
      rw [if_neg (by rw [c1]; decide), c2, c3]
      have bt : btr (some q) (vM P t n g s) (vW P t n g s) = (decide (vM P t n g s < q.1) || (decide (vM P t n g s = q.1) && decide (vW P t n g s < q.2.1))) := by
        unfold btr
        rw [decide_eq_true z, Bool.true_and]
      by_cases a : vM P t n g s < q.1
      · rw [if_pos (nI_lt a (by omega))]
        have : btr (some q) (vM P t n g s) (vW P t n g s) = true := by rw [bt, decide_eq_true a, Bool.true_or]
        rw [show b2 (btr (some q) (vM P t n g s) (vW P t n g s) = true) = 1 from if_pos this]
      · rw [if_neg (nI_nlt (by omega) (by omega))]
        by_cases b : vM P t n g s = q.1
        · rw [if_pos (by rw [b]), f0_sumOf hv hP hn hs hse hN, Option.bind_some]
          have bt' : btr (some q) (vM P t n g s) (vW P t n g s) = decide (vW P t n g s < q.2.1) := by rw [bt, decide_eq_false a, Bool.false_or, decide_eq_true b, Bool.true_and]
          rw [bt']
          have e : (if nI q.2.1 ≤ nI (vW P t n g s) then (0 : Int32) else (1 : Int32)) = b2 (decide (vW P t n g s < q.2.1) = true) := by
            unfold b2
            by_cases y : vW P t n g s < q.2.1
            · rw [if_neg (nI_ge y (by omega)), if_pos (decide_eq_true y)]
            · rw [if_pos (nI_le (by omega) (by omega)), if_neg (by rw [decide_eq_true_iff]; exact y)]
          rw [e, gb_b2]
        · rw [if_neg (fun w => b ((nI_eq (by omega) (by omega)).mp w))]
          have : ¬ btr (some q) (vM P t n g s) (vW P t n g s) = true := by rw [bt, decide_eq_false a, decide_eq_false b, Bool.false_and, Bool.or_false]; decide
          rw [show b2 (btr (some q) (vM P t n g s) (vW P t n g s) = true) = 0 from if_neg this]
  · rw [if_neg (show ¬ nI (vM P t n g s) < (1000000 : Int32) from nI_nlt (b := 1000000) (by omega) (by omega))]
    have : ¬ btr o (vM P t n g s) (vW P t n g s) = true := by unfold btr; rw [decide_eq_false z, Bool.false_and]; decide
    rw [show b2 (btr o (vM P t n g s) (vW P t n g s) = true) = 0 from if_neg this]
theorem f0_keep {t P g : Nat → Nat} {x se tr be : Nat → Int32} {fd gr tg bu : Int32} (hv : vT t) (hP : CP t P x) {n : Nat} (hn : n ≤ 3) (hse : ∀ p, p < 3 → se p = nI (hS t g (t 49) p)) (htr : ∀ i, i < t 49 → isD t i = true → tr i = nI (g i)) (hm : vM P t n g (t 49) < 1000000) {N : Nat} (hN : 100 ≤ N) : ∃ fd' gr' tg' bu' be', f_X0_keep N (nI n) fd gr tg bu se tr be (nI (t 48)) x = some (fd', gr', tg', bu', be') ∧ CR t n fd' gr' tg' bu' be' (some (vM P t n g (t 49), vW P t n g (t 49), g)) := by
  have h8 := hv.1
  have hl := lp_seq (b := fun s_45 : Int32 × Int32 => f_X0_keep_b45 (nI n) s_45.1 s_45.2 se) (fun i => (nI i, nI (cnt (fun p => decide (hS t g (t 49) p ≠ 0)) i))) (nI (cnt (fun p => decide (hS t g (t 49) p ≠ 0)) n)) n (fun i hi => by
    show f_X0_keep_b45 (nI n) (nI i) (nI (cnt (fun p => decide (hS t g (t 49) p ≠ 0)) i)) se = some (.inl (nI (i + 1), nI (cnt (fun p => decide (hS t g (t 49) p ≠ 0)) i + if decide (hS t g (t 49) i ≠ 0) = true then 1 else 0)))
    have hlt := hS_lt t g h8 i
    unfold f_X0_keep_b45
    rw [if_neg (nI_ge hi (by omega)), ga_ok (by omega) (by decide), nI_clamp (by omega), hse i (by omega), nI_1]
    by_cases z : hS t g (t 49) i = 0
    · rw [z, if_pos (show nI 0 = 0 from rfl), if_neg (by decide), iadd0]; rfl
    · rw [if_neg (nI_ne0 (by omega) (by omega)), nI_1, if_pos (decide_eq_true z)]) (by
    show f_X0_keep_b45 (nI n) (nI n) (nI (cnt (fun p => decide (hS t g (t 49) p ≠ 0)) n)) se = _
    unfold f_X0_keep_b45
    rw [if_pos (nI_le (Nat.le_refl _) (by omega))]) n 0 N (by omega) (by omega)
  refine ⟨1, nI (vM P t n g (t 49)), nI (vW P t n g (t 49)), nI (cnt (fun p => decide (hS t g (t 49) p ≠ 0)) n), va_cpy tr be 0 0 8, ?_, rfl, rfl, rfl, rfl, fun i hi hd => ?_, hm, (vW_le hv hP hn (Nat.le_refl _)).1⟩
  · unfold f_X0_keep
    rw [f0_mostOf hv hP hn (Nat.le_refl _) hse hN, Option.bind_some, f0_sumOf hv hP hn (Nat.le_refl _) hse hN, Option.bind_some, gcp_8, show lp (fun s_45 : Int32 × Int32 => f_X0_keep_b45 (nI n) s_45.1 s_45.2 se) N ((0 : Int32), (0 : Int32)) = some (nI (cnt (fun p => decide (hS t g (t 49) p ≠ 0)) n)) from hl, Option.bind_some]; rfl
  · rw [pk_cpy_in (by omega) (by omega), show 0 + (i - 0) = i by omega]
    exact htr i hi hd
theorem btr_lt {o : DL} {v w : Nat} (h : btr o v w = true) : v < 1000000 := by
  unfold btr at h
  rw [Bool.and_eq_true, decide_eq_true_iff] at h
  exact h.1
/-- what give leaves: the best, the sets and what was tried below as they were -/
def GV (t : Nat → Nat) (n s : Nat) (se tr : Nat → Int32) (o : DL) (r : Int32 × Int32 × Int32 × Int32 × (Nat → Int32) × (Nat → Int32) × (Nat → Int32)) : Prop := CR t n r.1 r.2.1 r.2.2.1 r.2.2.2.1 r.2.2.2.2.2.2 o ∧ (∀ p, p < 3 → r.2.2.2.2.1 p = se p) ∧ ∀ i, i < s → r.2.2.2.2.2.1 i = tr i
theorem f0_tail {t P g : Nat → Nat} {x : Nat → Int32} (hv : vT t) (hP : CP t P x) {n : Nat} (hn : n ≤ 3) {N : Nat} (hN : 100 ≤ N) : ∀ j d s (o : DL) (se tr be : Nat → Int32) (fd gr tg bu : Int32), s + j = 8 → t 49 ≤ s → j < d → (∀ p, p < 3 → se p = nI (hS t g (t 49) p)) → (∀ i, i < t 49 → isD t i = true → tr i = nI (g i)) → CR t n fd gr tg bu be o → ∃ r, f_X0_give N d (nI s) (nI n) fd gr tg bu se tr be (nI (dueB t (t 49))) (nI (t 48)) x = some r ∧ GV t n s se tr (cF P t n 0 (t 49) g o) r := by
  have h8 := hv.1
  have hU := dueB_lt hv
  intro j
  induction j with
  | zero =>
    intro d s o se tr be fd gr tg bu hs hts hd hse htr hC
    obtain ⟨d, rfl⟩ : ∃ d', d = d' + 1 := ⟨d - 1, by omega⟩
    unfold f_X0_give cF
    rw [f0_isBetter hv hP hn (Nat.le_refl _) hse hC hN, Option.bind_some]
    by_cases z : btr o (vM P t n g (t 49)) (vW P t n g (t 49)) = true
    · rw [if_neg (fun w => b2_0.mp w z), if_neg (show ¬ nI s < (8 : Int32) from nI_nlt (b := 8) (by omega) (by omega)), if_pos z]
      obtain ⟨fd', gr', tg', bu', be', k1, k2⟩ := f0_keep (fd := fd) (gr := gr) (tg := tg) (bu := bu) (be := be) hv hP hn hse htr (btr_lt z) hN
      rw [k1, Option.bind_some]
      exact ⟨_, rfl, k2, fun _ _ => rfl, fun _ _ => rfl⟩
    · rw [if_pos (b2_0.mpr z), if_neg z]
      exact ⟨_, rfl, hC, fun _ _ => rfl, fun _ _ => rfl⟩
  | succ j ih =>
    intro d s o se tr be fd gr tg bu hs hts hd hse htr hC
    obtain ⟨d, rfl⟩ : ∃ d', d = d' + 1 := ⟨d - 1, by omega⟩
    unfold f_X0_give
    rw [f0_isBetter hv hP hn (Nat.le_refl _) hse hC hN, Option.bind_some]
    by_cases z : btr o (vM P t n g (t 49)) (vW P t n g (t 49)) = true
    · have nb : (dueB t (t 49)).testBit s = false := by
        rw [dueB_bS, bS_bit, decide_eq_false (show ¬ s < t 49 by omega), Bool.false_and]
      obtain ⟨r, r1, r2, r3, r4⟩ := ih d (s + 1) o se tr be fd gr tg bu (by omega) (by omega) (by omega) hse htr hC
      rw [if_neg (fun w => b2_0.mp w z), if_pos (show nI s < (8 : Int32) from nI_lt (b := 8) (by omega) (by decide)), if_pos ((bitI (by omega) (by omega)).mpr nb), nI_1, r1, Option.bind_some]
      exact ⟨_, rfl, r2, r3, fun i hi => r4 i (by omega)⟩
    · unfold cF
      rw [if_pos (b2_0.mpr z), if_neg z]
      exact ⟨_, rfl, hC, fun _ _ => rfl, fun _ _ => rfl⟩
theorem f0_give {t P : Nat → Nat} {x : Nat → Int32} (hv : vT t) (hP : CP t P x) {n : Nat} (hn : n ≤ 3) {N : Nat} (hN : 100 ≤ N) : ∀ k d s (g : Nat → Nat) (o : DL) (se tr be : Nat → Int32) (fd gr tg bu : Int32), s + k = t 49 → 8 - s < d → (∀ p, p < 3 → se p = nI (hS t g s p)) → (∀ i, i < s → isD t i = true → tr i = nI (g i)) → CR t n fd gr tg bu be o → ∃ r, f_X0_give N d (nI s) (nI n) fd gr tg bu se tr be (nI (dueB t (t 49))) (nI (t 48)) x = some r ∧ GV t n s se tr (cF P t n k s g o) r := by
  have h8 := hv.1
  have hU := dueB_lt hv
  intro k
  induction k with
  | zero =>
    intro d s g o se tr be fd gr tg bu hs hd hse htr hC
    have e : s = t 49 := by omega
    subst e
    exact f0_tail hv hP hn hN (8 - t 49) d (t 49) o se tr be fd gr tg bu (by omega) (Nat.le_refl _) hd hse htr hC
  | succ k ih =>
    intro d s g o se tr be fd gr tg bu hs hd hse htr hC
    obtain ⟨d, rfl⟩ : ∃ d', d = d' + 1 := ⟨d - 1, by omega⟩
    have hst : s < t 49 := by omega
    have bt : (dueB t (t 49)).testBit s = isD t s := by rw [dueB_bS, bS_bit, decide_eq_true hst, Bool.true_and]
    unfold f_X0_give cF
    rw [f0_isBetter hv hP hn (show s ≤ t 49 by omega) hse hC hN, Option.bind_some]
    by_cases z : btr o (vM P t n g s) (vW P t n g s) = true
    · rw [if_neg (fun w => b2_0.mp w z), if_pos (show nI s < (8 : Int32) from nI_lt (b := 8) (by omega) (by decide)), if_pos z]
      by_cases y : isD t s = true
      · rw [if_neg (fun w => by have := (bitI (by omega) (by omega)).mp w; rw [bt, y] at this; cases this), if_pos y]
        obtain ⟨e, l1, l2, l3, l4⟩ := lp_cnt (b := fun s_43 : Int32 × Int32 × Int32 × Int32 × Int32 × (Nat → Int32) × (Nat → Int32) × (Nat → Int32) => f_X0_give_b43 (f_X0_give N d) (nI n) s_43.1 s_43.2.1 s_43.2.2.1 s_43.2.2.2.1 s_43.2.2.2.2.1 s_43.2.2.2.2.2.1 s_43.2.2.2.2.2.2.1 s_43.2.2.2.2.2.2.2 (nI s) (nI (dueB t (t 49))) (nI (t 48)) x) (fun i q => (nI i, q)) (fun i q => GV t n s se tr (fdF (fun q p => cF P t n k (s + 1) (setT g s p) q) i o) q) (fun e => GV t n s se tr (fdF (fun q p => cF P t n k (s + 1) (setT g s p) q) n o) e) n (fun i q hi hq => by
          obtain ⟨fd1, gr1, tg1, bu1, se1, tr1, be1⟩ := q
          obtain ⟨q1, q2, q3⟩ := hq
          dsimp only at q1 q2 q3
          have hlt := hS_lt t g (show s ≤ 8 by omega) i
          have ss : ∀ p, p < 3 → se1 p = nI (hS t g s p) := fun p hp => (q2 p hp).trans (hse p hp)
          have s1 : ∀ p, p < 3 → upd se1 i (nI (hS t g s i ||| 2 ^ s)) p = nI (hS t (setT g s i) (s + 1) p) := fun p hp => by
            by_cases e : p = i
            · rw [e, pk_us, hS_or y]
            · rw [pk_un e, ss p hp, hS_set y, if_neg e]
          have t1 : ∀ j, j < s + 1 → isD t j = true → upd tr1 s (nI i) j = nI (setT g s i j) := fun j hj hjd => by
            by_cases e : j = s
            · rw [e, pk_us, setT_s]
            · rw [pk_un e, setT_n e, q3 j (by omega)]
              exact htr j (by omega) hjd
          obtain ⟨r, r1, r2, r3, r4⟩ := ih d (s + 1) (setT g s i) (fdF (fun q p => cF P t n k (s + 1) (setT g s p) q) i o) (upd se1 i (nI (hS t g s i ||| 2 ^ s))) (upd tr1 s (nI i)) be1 fd1 gr1 tg1 bu1 (by omega) (by omega) s1 t1 q1
          refine ⟨(r.1, r.2.1, r.2.2.1, r.2.2.2.1, upd r.2.2.2.2.1 i (nI (hS t g s i)), r.2.2.2.2.2.1, r.2.2.2.2.2.2), ?_, r2, fun p hp => ?_, fun j hj => ?_⟩
          · show f_X0_give_b43 (f_X0_give N d) (nI n) (nI i) fd1 gr1 tg1 bu1 se1 tr1 be1 (nI s) (nI (dueB t (t 49))) (nI (t 48)) x = _
            unfold f_X0_give_b43
            rw [if_neg (nI_ge hi (by omega)), ga_ok (by omega) (by decide), ga_ok (by omega) (by decide), ga_ok (by omega) (by decide), nI_clamp (show i < 2 ^ 31 by omega), nI_clamp (show s < 2 ^ 31 by omega), ss i (by omega), sh1 (by omega), xI_or, nI_1, r1, Option.bind_some, ga_ok (by omega) (by decide), ga_ok (by omega) (by decide), r3 i (by omega), pk_us, hS_or y, clrI _ (hS_lt t (setT g s i) (show s + 1 ≤ 8 by omega) i) s (by omega), hS_clr y, nI_1]
          · dsimp only
            by_cases e : p = i
            · rw [e, pk_us]; exact (hse i (by omega)).symm
            · rw [pk_un e, r3 p hp, pk_un e]; exact q2 p hp
          · dsimp only
            rw [r4 j (by omega), pk_un (by omega)]
            exact q3 j hj) (fun q hq => by
          refine ⟨q, ?_, hq⟩
          dsimp only
          unfold f_X0_give_b43
          rw [if_pos (nI_le (Nat.le_refl _) (by omega))]) n 0 N (fd, gr, tg, bu, se, tr, be) (by omega) (by omega) ⟨hC, fun _ _ => rfl, fun _ _ => rfl⟩
        have l1' : lp (fun s_43 : Int32 × Int32 × Int32 × Int32 × Int32 × (Nat → Int32) × (Nat → Int32) × (Nat → Int32) => f_X0_give_b43 (f_X0_give N d) (nI n) s_43.1 s_43.2.1 s_43.2.2.1 s_43.2.2.2.1 s_43.2.2.2.2.1 s_43.2.2.2.2.2.1 s_43.2.2.2.2.2.2.1 s_43.2.2.2.2.2.2.2 (nI s) (nI (dueB t (t 49))) (nI (t 48)) x) N ((0 : Int32), fd, gr, tg, bu, se, tr, be) = some e := l1
        rw [l1', Option.bind_some]
        exact ⟨_, rfl, l2, l3, l4⟩
      · have nb : (dueB t (t 49)).testBit s = false := by rw [bt]; exact Bool.not_eq_true _ ▸ y
        obtain ⟨r, r1, r2, r3, r4⟩ := ih d (s + 1) g o se tr be fd gr tg bu (by omega) (by omega) (fun p hp => by rw [hS_skip y]; exact hse p hp) (fun i hi hid => by
          by_cases e : i = s
          · rw [e] at hid; exact absurd hid y
          · exact htr i (by omega) hid) hC
        rw [if_pos ((bitI (by omega) (by omega)).mpr nb), nI_1, r1, Option.bind_some, if_neg y]
        exact ⟨_, rfl, r2, r3, fun i hi => r4 i (by omega)⟩
    · rw [if_pos (b2_0.mpr z), if_neg z]
      exact ⟨_, rfl, hC, fun _ _ => rfl, fun _ _ => rfl⟩
