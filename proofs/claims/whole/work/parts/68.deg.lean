/-! degrees, odd corners, balances -/
theorem lp_cnt {S X E : Type} {b : S → Option (S ⊕ E)} (mk : Nat → X → S) (P : Nat → X → Prop) (Q : E → Prop) (n : Nat) (hs : ∀ i x, i < n → P i x → ∃ x', b (mk i x) = some (.inl (mk (i + 1) x')) ∧ P (i + 1) x') (he : ∀ x, P n x → ∃ e, b (mk n x) = some (.inr e) ∧ Q e) : ∀ (k i N : Nat) (x : X), i + k = n → k < N → P i x → ∃ e, lp b N (mk i x) = some e ∧ Q e
  | 0, i, 0, _, _, hN, _ => absurd hN (by omega)
  | 0, i, N + 1, x, hi, _, hp => by
    have : i = n := by omega
    subst this
    obtain ⟨e, h1, h2⟩ := he x hp
    refine ⟨e, ?_, h2⟩
    unfold lp
    rw [h1]
  | k + 1, i, 0, _, _, hN, _ => absurd hN (by omega)
  | k + 1, i, N + 1, x, hi, hN, hp => by
    obtain ⟨x', h1, h2⟩ := hs i x (by omega) hp
    obtain ⟨e, h3, h4⟩ := lp_cnt mk P Q n hs he k (i + 1) N x' (by omega) (by omega) h2
    refine ⟨e, ?_, h4⟩
    unfold lp
    rw [h1]
    exact h3
def cnt (p : Nat → Bool) : Nat → Nat
  | 0 => 0
  | n + 1 => cnt p n + if p n then 1 else 0
theorem cnt_le (p : Nat → Bool) : ∀ n, cnt p n ≤ n
  | 0 => Nat.le_refl _
  | n + 1 => by have := cnt_le p n; unfold cnt; split <;> omega
theorem cnt_cong {p q : Nat → Bool} : ∀ n, (∀ i, i < n → p i = q i) → cnt p n = cnt q n
  | 0, _ => rfl
  | n + 1, h => by unfold cnt; rw [cnt_cong n (fun i hi => h i (by omega)), h n (by omega)]
theorem cnt_cut (p : Nat → Bool) (n : Nat) : ∀ m, n ≤ m → cnt (fun i => decide (i < n) && p i) m = cnt p n
  | 0, h => by
    have : n = 0 := by omega
    subst this; rfl
  | m + 1, h => by
    by_cases e : n = m + 1
    · subst e; exact cnt_cong _ (fun i hi => by simp [hi])
    · have := cnt_cut p n m (by omega)
      have h2 : ¬ m < n := by omega
      show cnt (fun i => decide (i < n) && p i) m + (if (decide (m < n) && p m) = true then 1 else 0) = _
      rw [this]; simp [h2]
theorem bitCount_8 : ∀ m, m < 256 → f_J6_bitCount_0f7a4 (nI m) = some (nI (cnt (fun i => m.testBit i) 8)) := by decide +kernel
theorem bS_and (p q : Nat → Bool) (n : Nat) : bS p n &&& bS q n = bS (fun i => p i && q i) n := by
  apply Nat.eq_of_testBit_eq
  intro i
  rw [Nat.testBit_and, bS_bit, bS_bit, bS_bit]
  by_cases e : i < n
  · simp [e]
  · simp [e]
theorem bitCount_bS (p : Nat → Bool) {n : Nat} (h : n ≤ 8) : f_J6_bitCount_0f7a4 (nI (bS p n)) = some (nI (cnt p n)) := by
  have h2 : bS p n < 256 := Nat.lt_of_lt_of_le (bS_lt p n) (show 2 ^ n ≤ 2 ^ 8 from Nat.pow_le_pow_right (by decide) h)
  rw [bitCount_8 _ h2]
  congr 2
  rw [cnt_cong 8 (fun i _ => bS_bit p n i)]
  exact cnt_cut p n 8 h
/-- the street s touches the corner c -/
def tch (t : Nat → Nat) (c s : Nat) : Bool := decide (t s = c ∨ t (8 + s) = c)
theorem f7_touches {t : Nat → Nat} {fr to ln kd fg : Nat → Int32} {cl sz hm : Int32} (hv : vT t) (h : cR t fr to ln kd fg cl sz hm) {s c : Nat} (hs : s < t 49) (hc : c < 6) : f_X7_touches (nI s) (nI c) fr to = some (b2 (tch t c s = true)) := by
  have h8 := hv.1
  have ho := hv.2.2.1 s hs
  obtain ⟨g1, g2, g3, g4, g5⟩ := h.2.2.2 s hs
  unfold f_X7_touches tch b2
  rw [ga_ok (by omega) (by decide), ga_ok (by omega) (by decide), nI_clamp (by omega), g1, g2]
  by_cases e1 : t s = c
  · rw [if_pos (by rw [e1]), if_pos (by simp [e1])]
  · rw [if_neg (fun z => e1 ((nI_eq (by omega) (by omega)).mp z))]
    by_cases e2 : t (8 + s) = c
    · rw [if_pos (by rw [e2]), gb_1, if_pos (by simp [e2])]
    · rw [if_neg (fun z => e2 ((nI_eq (by omega) (by omega)).mp z)), gb_0, if_neg (by simp [e1, e2])]
theorem f7_streetsAt {t : Nat → Nat} {fr to ln kd fg : Nat → Int32} {cl sz hm : Int32} (hv : vT t) (h : cR t fr to ln kd fg cl sz hm) {c : Nat} (hc : c < 6) {N : Nat} (hN : 100 ≤ N) : f_X7_streetsAt N (nI c) sz fr to = some (nI (bS (tch t c) (t 49))) := by
  have h8 := hv.1
  have g := lp_seq (b := fun s => f_X7_streetsAt_b4 sz s.2 s.1 (nI c) fr to) (fun i => (nI (bS (tch t c) i), nI i)) (nI (bS (tch t c) (t 49))) (t 49) (fun i hi => by
    show f_X7_streetsAt_b4 sz (nI i) (nI (bS (tch t c) i)) (nI c) fr to = _
    unfold f_X7_streetsAt_b4
    rw [h.1, if_neg (nI_ge hi (by omega)), f7_touches hv h hi hc, Option.bind_some, nI_1, sh1 (by omega), xI_or]
    congr 3
    rw [← bS_or]
    by_cases d : tch t c i = true
    · rw [if_neg (fun z => b2_0.mp z d), if_pos d]
    · rw [if_pos (b2_0.mpr d), if_neg d, Nat.or_zero]) (by
    show f_X7_streetsAt_b4 sz (nI (t 49)) (nI (bS (tch t c) (t 49))) (nI c) fr to = _
    unfold f_X7_streetsAt_b4
    rw [h.1, if_pos (nI_le (Nat.le_refl _) (by omega))]) (t 49) 0 N (by omega) (by omega)
  unfold f_X7_streetsAt
  exact (congrArg (fun z => Option.bind z fun e_2 => some e_2) g).trans rfl
/-- the degree of a corner -/
def deg (t : Nat → Nat) (c : Nat) : Nat := cnt (fun s => tch t c s && isD t s) (t 49)
theorem f7_degree {t : Nat → Nat} {fr to ln kd fg : Nat → Int32} {cl sz hm : Int32} (hv : vT t) (h : cR t fr to ln kd fg cl sz hm) {c : Nat} (hc : c < 6) {N : Nat} (hN : 100 ≤ N) : f_X7_degree N (nI c) cl sz fr to kd = some (nI (deg t c)) := by
  unfold f_X7_degree
  rw [f7_streetsAt hv h hc hN, Option.bind_some, f7_dueStreets hv h hN, Option.bind_some, dueB_bS, xI_and, bS_and, bitCount_bS _ hv.1]; rfl
theorem f10_degree {t : Nat → Nat} {w : Nat → Int32} (hv : vT t) (h : mR t w) {c : Nat} (hc : c < 6) {N : Nat} (hN : 100 ≤ N) : f_X10_degree N (nI c) w = some (nI (deg t c)) := by
  have h8 := hv.1
  have e49 : Int32.toNatClampNeg (49 : Int32) = 49 := rfl
  have g := lp_seq (b := fun s => f_X10_degree_b4 w s.2 s.1 (nI c)) (fun i => (nI (cnt (fun s => tch t c s && isD t s) i), nI i)) (nI (deg t c)) (t 49) (fun i hi => by
    show f_X10_degree_b4 w (nI i) (nI (cnt (fun s => tch t c s && isD t s) i)) (nI c) = _
    have ho := hv.2.2.1 i hi
    have a0 : (0 : Int32) + nI i = nI (8 * 0 + i) := nI_add 0 _
    have a8 : (8 : Int32) + nI i = nI (8 * 1 + i) := nI_add 8 _
    have w0 : w (8 * 0 + i) = nI (t i) := by rw [h.2.2 0 (by decide) _ hi]; congr 2; omega
    have w8 : w (8 * 1 + i) = nI (t (8 + i)) := h.2.2 1 (by decide) _ hi
    unfold f_X10_degree_b4
    rw [ga_in (by decide), e49, h.1, if_neg (nI_ge hi (by omega)), f10_isDue hv h hi, Option.bind_some, a0, a8, ga_ok (by omega) (by decide), ga_ok (by omega) (by decide), nI_clamp (by omega), nI_clamp (by omega), w0, w8, nI_1, nI_1]
    show _ = some (Sum.inl (nI (cnt (fun s => tch t c s && isD t s) i + if (tch t c i && isD t i) = true then 1 else 0), nI (i + 1)))
    by_cases d : isD t i = true
    · rw [if_neg (fun z => b2_0.mp z d)]
      unfold tch
      by_cases e1 : t i = c
      · rw [if_pos (by rw [e1])]; simp [d, e1]
      · rw [if_neg (fun z => e1 ((nI_eq (by omega) (by omega)).mp z))]
        by_cases e2 : t (8 + i) = c
        · rw [if_pos (by rw [e2]), nI_1]; simp [d, e2]
        · rw [if_neg (fun z => e2 ((nI_eq (by omega) (by omega)).mp z)), iadd0]; simp [e1, e2]
    · rw [if_pos (b2_0.mpr d), iadd0]; simp [d]) (by
    show f_X10_degree_b4 w (nI (t 49)) (nI (deg t c)) (nI c) = _
    unfold f_X10_degree_b4
    rw [ga_in (by decide), e49, h.1, if_pos (nI_le (Nat.le_refl _) (by omega))]) (t 49) 0 N (by omega) (by omega)
  unfold f_X10_degree
  exact (congrArg (fun z => Option.bind z fun e_2 => some e_2) g).trans rfl
def oddC (t : Nat → Nat) (c : Nat) : Bool := decide (deg t c % 2 = 1)
theorem oddStep {t : Nat → Nat} (hv : vT t) {i : Nat} (hi : i < 6) : nI (bS (oddC t) i) ||| (nI (deg t i % 2) <<< (nI i &&& 31)) = nI (bS (oddC t) (i + 1)) := by
  have hd : deg t i % 2 < 2 := Nat.mod_lt _ (by decide)
  have hp : 2 ^ i ≤ 2 ^ 6 := Nat.pow_le_pow_right (by decide) (by omega)
  rw [pk_shlN (n := deg t i % 2) (nI i &&& 31) i (sm32 i (by omega)) (by
    have : deg t i % 2 * 2 ^ i ≤ 1 * 2 ^ 6 := Nat.mul_le_mul (by omega) hp
    omega), xI_or, ← bS_or]
  congr 2
  unfold oddC
  rcases Nat.mod_two_eq_zero_or_one (deg t i) with e | e
  · rw [e]; simp
  · rw [e]; simp
theorem f7_oddCorners {t : Nat → Nat} {fr to ln kd fg : Nat → Int32} {cl sz hm : Int32} (hv : vT t) (h : cR t fr to ln kd fg cl sz hm) {N : Nat} (hN : 100 ≤ N) : f_X7_oddCorners N cl sz fr to kd = some (nI (bS (oddC t) 6)) := by
  have h8 := hv.1
  have g := lp_seq (b := fun s => f_X7_oddCorners_b4 N s.2 s.1 cl sz fr to kd) (fun i => (nI (bS (oddC t) i), nI i)) (nI (bS (oddC t) 6)) 6 (fun i hi => by
    show f_X7_oddCorners_b4 N (nI i) (nI (bS (oddC t) i)) cl sz fr to kd = _
    have hd : deg t i < 2 ^ 31 := by have := cnt_le (fun s => tch t i s && isD t s) (t 49); unfold deg; omega
    unfold f_X7_oddCorners_b4
    rw [if_neg (show ¬ (6 : Int32) ≤ nI i from nI_ge (b := 6) hi (by decide)), f7_degree hv h hi hN, Option.bind_some, pk_andN (n := deg t i) (by omega) (m := 1) 1 (by decide), oddStep hv hi, nI_1]) (by
    show f_X7_oddCorners_b4 N (nI 6) (nI (bS (oddC t) 6)) cl sz fr to kd = _
    unfold f_X7_oddCorners_b4
    rw [if_pos (show (6 : Int32) ≤ nI 6 from nI_le (a := 6) (Nat.le_refl _) (by decide))]) 6 0 N (by omega) (by omega)
  unfold f_X7_oddCorners
  exact (congrArg (fun z => Option.bind z fun e_2 => some e_2) g).trans rfl
theorem f10_oddSet {t : Nat → Nat} {w : Nat → Int32} (hv : vT t) (h : mR t w) {N : Nat} (hN : 100 ≤ N) : f_X10_oddSet N w = some (nI (bS (oddC t) 6)) := by
  have h8 := hv.1
  have g := lp_seq (b := fun s => f_X10_oddSet_b4 N s.2 s.1 w) (fun i => (nI (bS (oddC t) i), nI i)) (nI (bS (oddC t) 6)) 6 (fun i hi => by
    show f_X10_oddSet_b4 N (nI i) (nI (bS (oddC t) i)) w = _
    have hd : deg t i < 2 ^ 31 := by have := cnt_le (fun s => tch t i s && isD t s) (t 49); unfold deg; omega
    have hr : nI (deg t i) - nI (deg t i) / (2 : Int32) * (2 : Int32) = nI (deg t i % 2) := pk_rem (d := 2) hd (by decide) (by decide)
    unfold f_X10_oddSet_b4
    rw [if_neg (show ¬ (6 : Int32) ≤ nI i from nI_ge (b := 6) hi (by decide)), f10_degree hv h hi hN, Option.bind_some, hr, oddStep hv hi, nI_1]) (by
    show f_X10_oddSet_b4 N (nI 6) (nI (bS (oddC t) 6)) w = _
    unfold f_X10_oddSet_b4
    rw [if_pos (show (6 : Int32) ≤ nI 6 from nI_le (a := 6) (Nat.le_refl _) (by decide))]) 6 0 N (by omega) (by omega)
  unfold f_X10_oddSet
  exact (congrArg (fun z => Option.bind z fun e_2 => some e_2) g).trans rfl
theorem pm_odd {A I : Nat → Nat → Int32} (hI : Inv A I) {N : Nat} (hN : 8000000 ≤ N) : ∃ oc, f_X9_odd N (I 1 5) (I 1 6) (A 2) (A 3) (A 5) = some oc ∧ ∃ om, f_X10_odd N ((uA_X9_odd A I oc) 66) = some om ∧ oc = om ∧ Inv (uA_X10_odd (uA_X9_odd A I oc) (uI_X9_odd A I oc) om) (uI_X10_odd (uA_X9_odd A I oc) (uI_X9_odd A I oc) om) := by
  obtain ⟨t, k, h1, h2, h3, h4, h5, h6, h7, h8⟩ := hI
  obtain ⟨hv, hc, hm⟩ := id h1
  have f9 : f_X9_odd N (I 1 5) (I 1 6) (A 2) (A 3) (A 5) = some (nI (bS (oddC t) 6)) := by
    unfold f_X9_odd
    rw [f7_oddCorners hv hc (by omega)]; rfl
  refine ⟨_, f9, ?_⟩
  have f10 : f_X10_odd N (A 66) = some (nI (bS (oddC t) 6)) := by
    unfold f_X10_odd
    rw [f10_oddSet hv hm (by omega)]; rfl
  exact ⟨_, f10, rfl, t, k, h1, h2, h3, h4, h5, h6, h7, h8⟩
/-- what a street adds to the balance of a corner -/
def balS (t : Nat → Nat) (c s : Nat) : Int32 := if t (40 + s) = 1 ∧ (t (24 + s) = 1 ∨ t (24 + s) = 3) then (if t s = c then 1 else if t (8 + s) = c then -1 else 0) else 0
def bal (t : Nat → Nat) (c : Nat) : Nat → Int32
  | 0 => 0
  | n + 1 => bal t c n + balS t c n
theorem f7_balanceOf {t : Nat → Nat} {fr to ln kd fg : Nat → Int32} {cl sz hm : Int32} (hv : vT t) (h : cR t fr to ln kd fg cl sz hm) {c : Nat} (hc : c < 6) {N : Nat} (hN : 100 ≤ N) : f_X7_balanceOf N (nI c) cl sz fr to kd = some (bal t c (t 49)) := by
  have h8 := hv.1
  have g := lp_seq (b := fun s => f_X7_balanceOf_b4 sz s.2 s.1 cl kd fr (nI c) to) (fun i => (bal t c i, nI i)) (bal t c (t 49)) (t 49) (fun i hi => by
    show f_X7_balanceOf_b4 sz (nI i) (bal t c i) cl kd fr (nI c) to = _
    have ho := hv.2.2.1 i hi
    obtain ⟨g1, g2, g3, g4, g5⟩ := h.2.2.2 i hi
    unfold f_X7_balanceOf_b4
    rw [h.1, if_neg (nI_ge hi (by omega)), f7_isDue hv h hi, Option.bind_some, nI_1, ga_ok (by omega) (by decide), ga_ok (by omega) (by decide), ga_ok (by omega) (by decide), nI_clamp (by omega), g1, g2, g4, kidx_nI (by omega)]
    show _ = some (Sum.inl (bal t c i + balS t c i, nI (i + 1)))
    have hk : kfld 3 (t (24 + i)) = 0 ↔ (t (24 + i) = 1 ∨ t (24 + i) = 3) := le5 (P := fun k => kfld 3 k = 0 ↔ (k = 1 ∨ k = 3)) (by decide) (by decide) (by decide) (by decide) (by decide) (by decide) (show t (24 + i) ≤ 5 by omega)
    have j0 : nI (t i) = nI c ↔ t i = c := nI_eq (by omega) (by omega)
    have j8 : nI (t (8 + i)) = nI c ↔ t (8 + i) = c := nI_eq (by omega) (by omega)
    simp only [hk, j0, j8]
    unfold balS
    by_cases d : isD t i = true
    · have d' : t (40 + i) = 1 ∧ t (24 + i) ≠ 5 := by unfold isD at d; simpa using d
      rw [if_neg (fun z => b2_0.mp z d)]
      by_cases e : t (24 + i) = 1 ∨ t (24 + i) = 3
      · rw [if_pos e, if_pos (show t (40 + i) = 1 ∧ (t (24 + i) = 1 ∨ t (24 + i) = 3) from ⟨d'.1, e⟩)]
        by_cases q1 : t i = c
        · rw [if_pos q1, if_pos q1, if_neg (show ¬ t (8 + i) = c by omega), Int32.sub_zero]
        · rw [if_neg q1, if_neg q1, iadd0]
          by_cases q2 : t (8 + i) = c
          · rw [if_pos q2, if_pos q2, Int32.sub_eq_add_neg]
          · rw [if_neg q2, if_neg q2, Int32.sub_zero, iadd0]
      · rw [if_neg e, if_neg (show ¬ (t (40 + i) = 1 ∧ (t (24 + i) = 1 ∨ t (24 + i) = 3)) from fun z => e z.2), iadd0]
    · rw [if_pos (b2_0.mpr d), if_neg (show ¬ (t (40 + i) = 1 ∧ (t (24 + i) = 1 ∨ t (24 + i) = 3)) from fun z => d (by unfold isD; simp; omega)), iadd0]) (by
    show f_X7_balanceOf_b4 sz (nI (t 49)) (bal t c (t 49)) cl kd fr (nI c) to = _
    unfold f_X7_balanceOf_b4
    rw [h.1, if_pos (nI_le (Nat.le_refl _) (by omega))]) (t 49) 0 N (by omega) (by omega)
  unfold f_X7_balanceOf
  exact (congrArg (fun z => Option.bind z fun e_2 => some e_2) g).trans rfl
theorem f10_balanceOf {t : Nat → Nat} {w : Nat → Int32} (hv : vT t) (h : mR t w) {c : Nat} (hc : c < 6) {N : Nat} (hN : 100 ≤ N) : f_X10_balanceOf N (nI c) w = some (bal t c (t 49)) := by
  have h8 := hv.1
  have e49 : Int32.toNatClampNeg (49 : Int32) = 49 := rfl
  have g := lp_seq (b := fun s => f_X10_balanceOf_b4 w s.2 s.1 (nI c)) (fun i => (bal t c i, nI i)) (bal t c (t 49)) (t 49) (fun i hi => by
    show f_X10_balanceOf_b4 w (nI i) (bal t c i) (nI c) = _
    have ho := hv.2.2.1 i hi
    have a0 : (0 : Int32) + nI i = nI (8 * 0 + i) := nI_add 0 _
    have a8 : (8 : Int32) + nI i = nI (8 * 1 + i) := nI_add 8 _
    have a24 : (24 : Int32) + nI i = nI (8 * 3 + i) := nI_add 24 _
    have a40 : (40 : Int32) + nI i = nI (8 * 5 + i) := nI_add 40 _
    have w0 : w (8 * 0 + i) = nI (t i) := by rw [h.2.2 0 (by decide) _ hi]; congr 2; omega
    have w8 : w (8 * 1 + i) = nI (t (8 + i)) := h.2.2 1 (by decide) _ hi
    have w24 : w (8 * 3 + i) = nI (t (24 + i)) := h.2.2 3 (by decide) _ hi
    have w40 : w (8 * 5 + i) = nI (t (40 + i)) := h.2.2 5 (by decide) _ hi
    unfold f_X10_balanceOf_b4 f_X10_balanceOf_j1
    rw [ga_in (by decide), e49, h.1, if_neg (nI_ge hi (by omega)), a0, a8, a24, a40, ga_ok (by omega) (by decide), ga_ok (by omega) (by decide), ga_ok (by omega) (by decide), ga_ok (by omega) (by decide), ga_ok (by omega) (by decide), nI_clamp (by omega), nI_clamp (by omega), nI_clamp (by omega), nI_clamp (by omega), w0, w8, w24, w40, nI_1]
    show _ = some (Sum.inl (bal t c i + balS t c i, nI (i + 1)))
    have k1 := nI_lit (a := t (40 + i)) (b := 1) (by omega) (by decide) 1 rfl
    have q1 := nI_lit (a := t (24 + i)) (b := 1) (by omega) (by decide) 1 rfl
    have q3 := nI_lit (a := t (24 + i)) (b := 3) (by omega) (by decide) 3 rfl
    have j0 : nI (t i) = nI c ↔ t i = c := nI_eq (by omega) (by omega)
    have j8 : nI (t (8 + i)) = nI c ↔ t (8 + i) = c := nI_eq (by omega) (by omega)
    simp only [k1, q1, q3, j0, j8]
    unfold balS
    by_cases o : t (40 + i) = 1
    · rw [if_pos o]
      by_cases e1 : t (24 + i) = 1
      · rw [if_pos e1, if_pos (show t (40 + i) = 1 ∧ (t (24 + i) = 1 ∨ t (24 + i) = 3) from ⟨o, Or.inl e1⟩)]
        by_cases b0 : t i = c
        · rw [if_pos b0, if_pos b0]
        · rw [if_neg b0, if_neg b0]
      · rw [if_neg e1]
        by_cases e3 : t (24 + i) = 3
        · rw [if_pos e3, if_pos (show t (40 + i) = 1 ∧ (t (24 + i) = 1 ∨ t (24 + i) = 3) from ⟨o, Or.inr e3⟩)]
          by_cases b0 : t i = c
          · rw [if_pos b0, if_pos b0]
          · rw [if_neg b0, if_neg b0]
        · rw [if_neg e3, if_neg (show ¬ (t (40 + i) = 1 ∧ (t (24 + i) = 1 ∨ t (24 + i) = 3)) by omega), iadd0]
    · rw [if_neg o, if_neg (show ¬ (t (40 + i) = 1 ∧ (t (24 + i) = 1 ∨ t (24 + i) = 3)) from fun z => o z.1), iadd0]) (by
    show f_X10_balanceOf_b4 w (nI (t 49)) (bal t c (t 49)) (nI c) = _
    unfold f_X10_balanceOf_b4
    rw [ga_in (by decide), e49, h.1, if_pos (nI_le (Nat.le_refl _) (by omega))]) (t 49) 0 N (by omega) (by omega)
  unfold f_X10_balanceOf
  exact (congrArg (fun z => Option.bind z fun e_2 => some e_2) g).trans rfl
theorem pm_balance {A I : Nat → Nat → Int32} (hI : Inv A I) {N : Nat} (hN : 8000000 ≤ N) (x1 : Int32) : ∃ oc, f_X9_balance N x1 (I 1 5) (I 1 6) (A 2) (A 3) (A 5) (A 64) = some oc ∧ ∃ om, f_X10_balance N x1 ((uA_X9_balance A I oc) 66) ((uA_X9_balance A I oc) 69) = some om ∧ oc.1 = om.1 ∧ Inv (uA_X10_balance (uA_X9_balance A I oc) (uI_X9_balance A I oc) om) (uI_X10_balance (uA_X9_balance A I oc) (uI_X9_balance A I oc) om) := by
  obtain ⟨t, k, h1, h2, h3, h4, h5, h6, h7, h8⟩ := hI
  obtain ⟨hv, hc, hm⟩ := id h1
  by_cases hx : 0 ≤ x1.toInt ∧ x1.toInt < 6
  · obtain ⟨c, hc6, rfl⟩ := cin_nI (n := 6) hx (by decide)
    have f9 : f_X9_balance N (nI c) (I 1 5) (I 1 6) (A 2) (A 3) (A 5) (A 64) = some (bal t c (t 49), A 64) := by
      unfold f_X9_balance
      rw [f9_isCorner, Option.bind_some, if_neg (fun z => b2_0.mp z hx), f7_balanceOf hv hc hc6 (by omega)]; rfl
    refine ⟨_, f9, ?_⟩
    have f10 : ∀ r : Nat → Int32, f_X10_balance N (nI c) (A 66) r = some (bal t c (t 49), r) := fun r => by
      unfold f_X10_balance
      rw [f10_isCorner, Option.bind_some, if_neg (fun z => b2_0.mp z hx), f10_balanceOf hv hm hc6 (by omega)]; rfl
    exact ⟨_, f10 _, rfl, t, k, h1, h2, h3, h4, h5, h6, h7, h8⟩
  · have f9 : f_X9_balance N x1 (I 1 5) (I 1 6) (A 2) (A 3) (A 5) (A 64) = some (-100000 + -1, upd (A 64) 1 (A 64 1 + 1)) := by
      unfold f_X9_balance
      rw [f9_isCorner, Option.bind_some, if_pos (b2_0.mpr hx), rf9_1]; rfl
    refine ⟨_, f9, ?_⟩
    have f10 : ∀ r : Nat → Int32, f_X10_balance N x1 (A 66) r = some (-100000 + -1, upd r 1 (r 1 + 1)) := fun r => by
      unfold f_X10_balance f_X10_refusedBelow
      rw [f10_isCorner, Option.bind_some, if_pos (b2_0.mpr hx), rf10_1]; rfl
    exact ⟨_, f10 _, rfl, t, k, h1, h2, h3, h4.up (by decide), h5, h6, h7, h8⟩
