/-! distances: both sides run the same sums in the same order -/
def RI (x : Nat → Int32) (D : Nat → Nat) : Prop := ∀ i, i < 36 → x i = nI (D i)
def Bd (D : Nat → Nat) : Prop := ∀ i, i < 36 → D i ≤ 1000000
def d0 : Nat → Nat := fun i => if i % 7 = 0 then 0 else 1000000
def edF (c a b : Nat) (D : Nat → Nat) : Nat → Nat := if c < D (6 * a + b) then setT D (6 * a + b) c else D
def edN (t C : Nat → Nat) : Nat → Nat → Nat
  | 0 => d0
  | n + 1 => edF (C n) (sA t n) (sE t n) (edN t C n)
def fwF (k i : Nat) (D : Nat → Nat) : Nat → Nat := edF (D (6 * (i / 6) + k) + D (6 * k + i % 6)) (i / 6) (i % 6) D
def fwI (k : Nat) (D : Nat → Nat) : Nat → Nat → Nat
  | 0 => D
  | i + 1 => fwF k i (fwI k D i)
def fwK (D : Nat → Nat) : Nat → Nat → Nat
  | 0 => D
  | k + 1 => fwI k (fwK D k) 36
def dst (t C : Nat → Nat) : Nat → Nat := fwK (edN t C (2 * t 49)) 6
theorem Bd_d0 : Bd d0 := by intro i _; unfold d0; split <;> omega
theorem Bd_edF {c a b : Nat} {D : Nat → Nat} (h : Bd D) : Bd (edF c a b D) := by
  intro i hi
  unfold edF
  split
  · rename_i hc
    unfold setT
    split
    · rename_i e; subst e; have := h _ hi; omega
    · exact h i hi
  · exact h i hi
theorem Bd_edN (t C : Nat → Nat) : ∀ n, Bd (edN t C n)
  | 0 => Bd_d0
  | n + 1 => Bd_edF (Bd_edN t C n)
theorem Bd_fwI {k : Nat} {D : Nat → Nat} (h : Bd D) : ∀ i, Bd (fwI k D i)
  | 0 => h
  | i + 1 => Bd_edF (Bd_fwI h i)
theorem Bd_fwK {D : Nat → Nat} (h : Bd D) : ∀ k, Bd (fwK D k)
  | 0 => h
  | k + 1 => Bd_fwI (Bd_fwK h k) 36
theorem Bd_dst (t C : Nat → Nat) : Bd (dst t C) := Bd_fwK (Bd_edN t C _) 6
theorem RI_set {x : Nat → Int32} {D : Nat → Nat} (h : RI x D) {i v : Nat} : RI (upd x i (nI v)) (setT D i v) := by
  intro j hj
  unfold upd setT
  by_cases e : j = i
  · rw [if_pos e, if_pos e]
  · rw [if_neg e, if_neg e]; exact h j hj
theorem six {a b : Nat} : nI a * (6 : Int32) + nI b = nI (6 * a + b) := by
  rw [show nI a * (6 : Int32) = nI (a * 6) from pk_mul a 6, nI_add, Nat.mul_comm]
theorem six' {a b : Nat} : (6 : Int32) * nI a + nI b = nI (6 * a + b) := by
  rw [show (6 : Int32) * nI a = nI (6 * a) from pk_mul 6 a, nI_add]
theorem f8_between {x : Nat → Int32} {D : Nat → Nat} (h : RI x D) {a b : Nat} (ha : a < 6) (hb : b < 6) : f_X8_between (nI a) (nI b) x = some (nI (D (6 * a + b))) := by
  unfold f_X8_between
  rw [six, ga_ok (by omega) (by decide), nI_clamp (by omega), h _ (by omega)]
theorem f10_dist {x : Nat → Int32} {D : Nat → Nat} (h : RI x D) {a b : Nat} (ha : a < 6) (hb : b < 6) : f_X10_dist (nI a) (nI b) x = some (nI (D (6 * a + b))) := by
  unfold f_X10_dist
  rw [six', ga_ok (by omega) (by decide), nI_clamp (by omega), h _ (by omega)]
theorem f8_shorten {x : Nat → Int32} {D : Nat → Nat} (h : RI x D) (hB : Bd D) {a b c : Nat} (ha : a < 6) (hb : b < 6) (hc : c < 2 ^ 31) : ∃ x', f_X8_shorten (nI a) (nI b) (nI c) x = some x' ∧ RI x' (edF c a b D) := by
  have hl := hB (6 * a + b) (by omega)
  unfold f_X8_shorten edF
  rw [six, ga_ok (by omega) (by decide), ga_ok (by omega) (by decide), nI_clamp (by omega), h _ (by omega)]
  by_cases e : c < D (6 * a + b)
  · rw [if_neg (nI_ge e (by omega)), if_pos e]
    exact ⟨_, rfl, RI_set h⟩
  · rw [if_pos (nI_le (by omega) hc), if_neg e]
    exact ⟨_, rfl, h⟩
theorem sA_lt {t : Nat → Nat} (hv : vT t) {e : Nat} (he : e < 2 * t 49) : sA t e < 6 := by
  have := hv.2.2.1 (e / 2) (by omega)
  unfold sA; split <;> omega
theorem sE_lt {t : Nat → Nat} (hv : vT t) {e : Nat} (he : e < 2 * t 49) : sE t e < 6 := by
  have := hv.2.2.1 (e / 2) (by omega)
  unfold sE; split <;> omega
theorem sA_0 (t : Nat → Nat) (s : Nat) : sA t (2 * s) = t s := by unfold sA; rw [if_pos (by omega)]; congr 1; omega
theorem sA_1 (t : Nat → Nat) (s : Nat) : sA t (2 * s + 1) = t (8 + s) := by unfold sA; rw [if_neg (by omega)]; congr 1; omega
theorem sE_0 (t : Nat → Nat) (s : Nat) : sE t (2 * s) = t (8 + s) := by unfold sE; rw [if_pos (by omega)]; congr 1; omega
theorem sE_1 (t : Nat → Nat) (s : Nat) : sE t (2 * s + 1) = t s := by unfold sE; rw [if_neg (by omega)]; congr 1; omega
theorem initC (i : Nat) (hi : i < 36) : (if (nI i - nI i / (7 : Int32) * (7 : Int32)) = 0 then (0 : Int32) else (1000000 : Int32)) = nI (d0 i) := by
  have hr : nI i - nI i / (7 : Int32) * (7 : Int32) = nI (i % 7) := pk_rem (d := 7) (by omega) (by decide) (by decide)
  rw [hr]
  unfold d0
  by_cases e : i % 7 = 0
  · rw [e, if_pos rfl]; rfl
  · rw [if_neg e, if_neg (nI_ne0 (by omega) (by omega))]; rfl
theorem initM (i : Nat) (hi : i < 36) : (if nI i / (6 : Int32) = (nI i - nI i / (6 : Int32) * (6 : Int32)) then (0 : Int32) else (1000000 : Int32)) = nI (d0 i) := by
  have hr : nI i - nI i / (6 : Int32) * (6 : Int32) = nI (i % 6) := pk_rem (d := 6) (by omega) (by decide) (by decide)
  have hd : nI i / (6 : Int32) = nI (i / 6) := pk_div (d := 6) (by omega) (by decide) (by decide)
  rw [hr, hd]
  unfold d0
  by_cases e : i % 7 = 0
  · rw [if_pos e, if_pos (by congr 1; omega)]; rfl
  · rw [if_neg e, if_neg (fun z => by have := (nI_eq (by omega) (by omega)).mp z; omega)]; rfl
theorem RI_fill {x : Nat → Int32} {D : Nat → Nat} {i : Nat} (h : ∀ j, j < i → x j = nI (D j)) : ∀ j, j < i + 1 → upd x i (nI (D i)) j = nI (D j) := by
  intro j hj
  unfold upd
  by_cases e : j = i
  · rw [if_pos e, e]
  · rw [if_neg e]; exact h j (by omega)
theorem f8_measure {t C : Nat → Nat} {fr to on bk least : Nat → Int32} {sz : Int32} (hv : vT t) (hsz : sz = nI (t 49)) (hfr : ∀ s, s < t 49 → fr s = nI (t s)) (hto : ∀ s, s < t 49 → to s = nI (t (8 + s))) (hon : ∀ s, s < t 49 → on s = nI (C (2 * s))) (hbk : ∀ s, s < t 49 → bk s = nI (C (2 * s + 1))) (hC : ∀ e, e < 2 * t 49 → C e ≤ 1000000) {N : Nat} (hN : 100 ≤ N) : ∃ x, f_X8_measure N sz fr to on bk least = some x ∧ RI x (dst t C) := by
  have h8 := hv.1
  obtain ⟨x0, e0, r0⟩ := lp_cnt (b := fun s => f_X8_measure_b2 s.1 s.2) (fun i x => (nI i, x)) (fun i x => ∀ j, j < i → x j = nI (d0 j)) (fun x => RI x d0) 36 (fun i x hi hp => by
    refine ⟨upd x i (nI (d0 i)), ?_, RI_fill hp⟩
    show f_X8_measure_b2 (nI i) x = _
    unfold f_X8_measure_b2
    rw [if_neg (show ¬ (36 : Int32) ≤ nI i from nI_ge (b := 36) hi (by decide)), ga_ok hi (by decide), nI_clamp (by omega), initC i hi, nI_1]) (fun x hp => by
    refine ⟨x, ?_, hp⟩
    show f_X8_measure_b2 (nI 36) x = _
    unfold f_X8_measure_b2
    rw [if_pos (show (36 : Int32) ≤ nI 36 from nI_le (a := 36) (Nat.le_refl _) (by decide))]) 36 0 N least (by omega) (by omega) (fun j hj => absurd hj (by omega))
  obtain ⟨x1, e1, r1⟩ := lp_cnt (b := fun s => f_X8_measure_b38 sz s.1 s.2 fr to on bk) (fun i x => (nI i, x)) (fun i x => RI x (edN t C (2 * i))) (fun x => RI x (edN t C (2 * t 49))) (t 49) (fun i x hi hp => by
    show ∃ x', f_X8_measure_b38 sz (nI i) x fr to on bk = _ ∧ _
    have ho := hv.2.2.1 i hi
    have c1 := hC (2 * i) (by omega)
    have c2 := hC (2 * i + 1) (by omega)
    obtain ⟨y, y1, y2⟩ := f8_shorten hp (Bd_edN t C _) (a := t i) (b := t (8 + i)) (c := C (2 * i)) (by omega) (by omega) (by omega)
    have y3 : RI y (edN t C (2 * i + 1)) := by
      show RI y (edF (C (2 * i)) (sA t (2 * i)) (sE t (2 * i)) (edN t C (2 * i)))
      rw [sA_0, sE_0]; exact y2
    obtain ⟨z, z1, z2⟩ := f8_shorten y3 (Bd_edN t C _) (a := t (8 + i)) (b := t i) (c := C (2 * i + 1)) (by omega) (by omega) (by omega)
    refine ⟨z, ?_, ?_⟩
    · unfold f_X8_measure_b38
      rw [hsz, if_neg (nI_ge hi (by omega)), ga_ok (by omega) (by decide), ga_ok (by omega) (by decide), ga_ok (by omega) (by decide), nI_clamp (by omega), hfr i hi, hto i hi, hon i hi, hbk i hi, y1, Option.bind_some, ga_ok (by omega) (by decide), ga_ok (by omega) (by decide), ga_ok (by omega) (by decide), z1, Option.bind_some, nI_1]
    · show RI z (edF (C (2 * i + 1)) (sA t (2 * i + 1)) (sE t (2 * i + 1)) (edN t C (2 * i + 1)))
      rw [sA_1, sE_1]; exact z2) (fun x hp => by
    refine ⟨x, ?_, hp⟩
    show f_X8_measure_b38 sz (nI (t 49)) x fr to on bk = _
    unfold f_X8_measure_b38
    rw [hsz, if_pos (nI_le (Nat.le_refl _) (by omega))]) (t 49) 0 N x0 (by omega) (by omega) r0
  have inner : ∀ (D : Nat → Nat) (k a : Nat), Bd D → k < 6 → a < 6 → ∀ x, RI x (fwI k D (6 * a)) → ∃ y, lp (fun s_129 => f_X8_measure_b129 s_129.1 s_129.2 (nI a) (nI k)) N ((0 : Int32), x) = some y ∧ RI y (fwI k D (6 * a + 6)) := fun D k a hB hk ha x hx =>
    lp_cnt (b := fun s => f_X8_measure_b129 s.1 s.2 (nI a) (nI k)) (fun i x => (nI i, x)) (fun i x => RI x (fwI k D (6 * a + i))) (fun x => RI x (fwI k D (6 * a + 6))) 6 (fun i x hi hp => by
      show ∃ x', f_X8_measure_b129 (nI i) x (nI a) (nI k) = _ ∧ _
      have b1 := Bd_fwI hB (k := k) (6 * a + i)
      have q1 := b1 (6 * a + k) (by omega)
      have q2 := b1 (6 * k + i) (by omega)
      obtain ⟨y, y1, y2⟩ := f8_shorten hp b1 (a := a) (b := i) (c := fwI k D (6 * a + i) (6 * a + k) + fwI k D (6 * a + i) (6 * k + i)) ha hi (by omega)
      refine ⟨y, ?_, ?_⟩
      · unfold f_X8_measure_b129
        rw [if_neg (show ¬ (6 : Int32) ≤ nI i from nI_ge (b := 6) hi (by decide)), f8_between hp ha hk, Option.bind_some, f8_between hp hk hi, Option.bind_some, nI_add, y1, Option.bind_some, nI_1]
      · show RI y (fwF k (6 * a + i) (fwI k D (6 * a + i)))
        unfold fwF
        rw [show (6 * a + i) / 6 = a by omega, show (6 * a + i) % 6 = i by omega]
        exact y2) (fun x hp => by
      refine ⟨x, ?_, hp⟩
      show f_X8_measure_b129 (nI 6) x (nI a) (nI k) = _
      unfold f_X8_measure_b129
      rw [if_pos (show (6 : Int32) ≤ nI 6 from nI_le (a := 6) (Nat.le_refl _) (by decide))]) 6 0 N x (by omega) (by omega) hx
  have mid : ∀ (D : Nat → Nat) (k : Nat), Bd D → k < 6 → ∀ x, RI x D → ∃ y, lp (fun s_121 => f_X8_measure_b121 N s_121.1 s_121.2 (nI k)) N ((0 : Int32), x) = some y ∧ RI y (fwI k D 36) := fun D k hB hk x hx =>
    lp_cnt (b := fun s => f_X8_measure_b121 N s.1 s.2 (nI k)) (fun i x => (nI i, x)) (fun i x => RI x (fwI k D (6 * i))) (fun x => RI x (fwI k D 36)) 6 (fun i x hi hp => by
      show ∃ x', f_X8_measure_b121 N (nI i) x (nI k) = _ ∧ _
      obtain ⟨y, y1, y2⟩ := inner D k i hB hk hi x hp
      refine ⟨y, ?_, y2⟩
      unfold f_X8_measure_b121
      rw [if_neg (show ¬ (6 : Int32) ≤ nI i from nI_ge (b := 6) hi (by decide)), y1, Option.bind_some, nI_1]) (fun x hp => by
      refine ⟨x, ?_, hp⟩
      show f_X8_measure_b121 N (nI 6) x (nI k) = _
      unfold f_X8_measure_b121
      rw [if_pos (show (6 : Int32) ≤ nI 6 from nI_le (a := 6) (Nat.le_refl _) (by decide))]) 6 0 N x (by omega) (by omega) hx
  obtain ⟨x2, e2, r2⟩ := lp_cnt (b := fun s => f_X8_measure_b113 N s.1 s.2) (fun i x => (nI i, x)) (fun i x => RI x (fwK (edN t C (2 * t 49)) i)) (fun x => RI x (dst t C)) 6 (fun i x hi hp => by
    show ∃ x', f_X8_measure_b113 N (nI i) x = _ ∧ _
    obtain ⟨y, y1, y2⟩ := mid _ i (Bd_fwK (Bd_edN t C _) i) hi x hp
    refine ⟨y, ?_, y2⟩
    unfold f_X8_measure_b113
    rw [if_neg (show ¬ (6 : Int32) ≤ nI i from nI_ge (b := 6) hi (by decide)), y1, Option.bind_some, nI_1]) (fun x hp => by
    refine ⟨x, ?_, hp⟩
    show f_X8_measure_b113 N (nI 6) x = _
    unfold f_X8_measure_b113
    rw [if_pos (show (6 : Int32) ≤ nI 6 from nI_le (a := 6) (Nat.le_refl _) (by decide))]) 6 0 N x1 (by omega) (by omega) r1
  refine ⟨x2, ?_, r2⟩
  have e0' : lp (fun s_2 => f_X8_measure_b2 s_2.1 s_2.2) N ((0 : Int32), least) = some x0 := e0
  have e1' : lp (fun s_38 => f_X8_measure_b38 sz s_38.1 s_38.2 fr to on bk) N ((0 : Int32), x0) = some x1 := e1
  have e2' : lp (fun s_113 => f_X8_measure_b113 N s_113.1 s_113.2) N ((0 : Int32), x1) = some x2 := e2
  unfold f_X8_measure
  rw [e0', Option.bind_some, e1', Option.bind_some, e2', Option.bind_some]
theorem f10_begins {t : Nat → Nat} {w : Nat → Int32} (hv : vT t) (h : mR t w) {e : Nat} (he : e < 2 * t 49) : f_X10_begins (nI e) w = some (nI (sA t e)) := by
  have h8 := hv.1
  have hd : nI e / (2 : Int32) = nI (e / 2) := pk_div (d := 2) (by omega) (by decide) (by decide)
  have hr : nI e - nI e / (2 : Int32) * (2 : Int32) = nI (e % 2) := pk_rem (d := 2) (by omega) (by decide) (by decide)
  have w0 : w (8 * 0 + e / 2) = nI (t (e / 2)) := by rw [h.2.2 0 (by decide) _ (show e / 2 < t 49 by omega)]; congr 2; omega
  have w8 : w (8 * 1 + e / 2) = nI (t (8 + e / 2)) := h.2.2 1 (by decide) _ (by omega)
  unfold f_X10_begins sA
  rw [hr, hd]
  rcases Nat.mod_two_eq_zero_or_one e with q | q
  · rw [q, if_pos (show nI 0 = (0 : Int32) from rfl), if_pos rfl, show (0 : Int32) + nI (e / 2) = nI (8 * 0 + e / 2) from nI_add 0 _, ga_ok (by omega) (by decide), nI_clamp (by omega), w0]
  · rw [q, if_neg (show ¬ nI 1 = (0 : Int32) by decide), if_neg (by decide), show (8 : Int32) + nI (e / 2) = nI (8 * 1 + e / 2) from nI_add 8 _, ga_ok (by omega) (by decide), nI_clamp (by omega), w8]
theorem f10_ends {t : Nat → Nat} {w : Nat → Int32} (hv : vT t) (h : mR t w) {e : Nat} (he : e < 2 * t 49) : f_X10_ends (nI e) w = some (nI (sE t e)) := by
  have h8 := hv.1
  have hd : nI e / (2 : Int32) = nI (e / 2) := pk_div (d := 2) (by omega) (by decide) (by decide)
  have hr : nI e - nI e / (2 : Int32) * (2 : Int32) = nI (e % 2) := pk_rem (d := 2) (by omega) (by decide) (by decide)
  have w0 : w (8 * 0 + e / 2) = nI (t (e / 2)) := by rw [h.2.2 0 (by decide) _ (show e / 2 < t 49 by omega)]; congr 2; omega
  have w8 : w (8 * 1 + e / 2) = nI (t (8 + e / 2)) := h.2.2 1 (by decide) _ (by omega)
  unfold f_X10_ends sE
  rw [hr, hd]
  rcases Nat.mod_two_eq_zero_or_one e with q | q
  · rw [q, if_pos (show nI 0 = (0 : Int32) from rfl), if_pos rfl, show (8 : Int32) + nI (e / 2) = nI (8 * 1 + e / 2) from nI_add 8 _, ga_ok (by omega) (by decide), nI_clamp (by omega), w8]
  · rw [q, if_neg (show ¬ nI 1 = (0 : Int32) by decide), if_neg (by decide), show (0 : Int32) + nI (e / 2) = nI (8 * 0 + e / 2) from nI_add 0 _, ga_ok (by omega) (by decide), nI_clamp (by omega), w0]
theorem toldC_neg {c : Nat} (h : c = 1000000 ∨ c ≤ 216) : toldC c < 0 ↔ c = 1000000 := by
  unfold toldC
  rcases h with e | e
  · subst e; decide
  · rw [if_pos (by omega)]
    exact ⟨fun z => absurd z (nI_pos (by omega)), fun z => by omega⟩
theorem f10_measures {t : Nat → Nat} {w d : Nat → Int32} (hv : vT t) (h : mR t w) {N : Nat} (hN : 100 ≤ N) : ∃ x, f_X10_measures N d w = some x ∧ RI x (dst t (sC t)) := by
  have h8 := hv.1
  have e49 : Int32.toNatClampNeg (49 : Int32) = 49 := rfl
  have m2 : (2 : Int32) * nI (t 49) = nI (2 * t 49) := pk_mul 2 _
  obtain ⟨x0, e0, r0⟩ := lp_cnt (b := fun s => f_X10_measures_b2 s.1 s.2) (fun i x => (nI i, x)) (fun i x => ∀ j, j < i → x j = nI (d0 j)) (fun x => RI x d0) 36 (fun i x hi hp => by
    refine ⟨upd x i (nI (d0 i)), ?_, RI_fill hp⟩
    show f_X10_measures_b2 (nI i) x = _
    unfold f_X10_measures_b2
    rw [if_neg (show ¬ (36 : Int32) ≤ nI i from nI_ge (b := 36) hi (by decide)), ga_ok hi (by decide), nI_clamp (by omega), initM i hi, nI_1]) (fun x hp => by
    refine ⟨x, ?_, hp⟩
    show f_X10_measures_b2 (nI 36) x = _
    unfold f_X10_measures_b2
    rw [if_pos (show (36 : Int32) ≤ nI 36 from nI_le (a := 36) (Nat.le_refl _) (by decide))]) 36 0 N d (by omega) (by omega) (fun j hj => absurd hj (by omega))
  obtain ⟨x1, e1, r1⟩ := lp_cnt (b := fun s => f_X10_measures_b39 w s.1 s.2) (fun i x => (nI i, x)) (fun i x => RI x (edN t (sC t) i)) (fun x => RI x (edN t (sC t) (2 * t 49))) (2 * t 49) (fun i x hi hp => by
    show ∃ x', f_X10_measures_b39 w (nI i) x = _ ∧ _
    have hsm := sC_small hv hi
    have hB := Bd_edN t (sC t) i
    have la := sA_lt hv hi
    have le := sE_lt hv hi
    have hb := hB (6 * sA t i + sE t i) (by omega)
    unfold f_X10_measures_b39
    rw [ga_in (by decide), e49, h.1, m2, if_neg (nI_ge hi (by omega)), f10_cost hv h hi, Option.bind_some, f10_begins hv h hi, Option.bind_some, f10_ends hv h hi, Option.bind_some, six', nI_1]
    show ∃ x', _ ∧ RI x' (edF (sC t i) (sA t i) (sE t i) (edN t (sC t) i))
    by_cases g : sC t i = 1000000
    · rw [if_pos ((toldC_neg (by omega)).mpr g)]
      refine ⟨x, rfl, ?_⟩
      unfold edF
      rw [if_neg (by omega)]
      exact hp
    · rw [if_neg (fun z => g ((toldC_neg (by omega)).mp z)), ga_ok (by omega) (by decide), ga_ok (by omega) (by decide), nI_clamp (by omega), hp _ (by omega)]
      have tl : toldC (sC t i) = nI (sC t i) := if_pos (by omega)
      rw [tl]
      unfold edF
      by_cases q : sC t i < edN t (sC t) i (6 * sA t i + sE t i)
      · rw [if_neg (nI_ge q (by omega)), if_pos q]
        exact ⟨_, rfl, RI_set hp⟩
      · rw [if_pos (nI_le (by omega) (by omega)), if_neg q]
        exact ⟨_, rfl, hp⟩) (fun x hp => by
    refine ⟨x, ?_, hp⟩
    show f_X10_measures_b39 w (nI (2 * t 49)) x = _
    unfold f_X10_measures_b39
    rw [ga_in (by decide), e49, h.1, m2, if_pos (nI_le (Nat.le_refl _) (by omega))]) (2 * t 49) 0 N x0 (by omega) (by omega) r0
  have mid : ∀ (D : Nat → Nat) (k : Nat), Bd D → k < 6 → ∀ x, RI x D → ∃ y, lp (fun s_110 => f_X10_measures_b110 s_110.1 s_110.2 (nI k)) N ((0 : Int32), x) = some y ∧ RI y (fwI k D 36) := fun D k hBd hk x hx =>
    lp_cnt (b := fun s => f_X10_measures_b110 s.1 s.2 (nI k)) (fun i x => (nI i, x)) (fun i x => RI x (fwI k D i)) (fun x => RI x (fwI k D 36)) 36 (fun i x hi hp => by
      show ∃ x', f_X10_measures_b110 (nI i) x (nI k) = _ ∧ _
      have hr : nI i - nI i / (6 : Int32) * (6 : Int32) = nI (i % 6) := pk_rem (d := 6) (by omega) (by decide) (by decide)
      have hd : nI i / (6 : Int32) = nI (i / 6) := pk_div (d := 6) (by omega) (by decide) (by decide)
      have hB := Bd_fwI hBd (k := k) i
      have q1 := hB (6 * (i / 6) + k) (by omega)
      have q2 := hB (6 * k + i % 6) (by omega)
      have q3 := hB i hi
      unfold f_X10_measures_b110
      rw [if_neg (show ¬ (36 : Int32) ≤ nI i from nI_ge (b := 36) hi (by decide)), hr, hd, six, six, ga_ok (by omega) (by decide), ga_ok (by omega) (by decide), ga_ok hi (by decide), ga_ok hi (by decide), nI_clamp (by omega), nI_clamp (by omega), nI_clamp (by omega), hp _ (by omega), hp _ (by omega), hp _ hi, nI_add, nI_1]
      refine ⟨_, rfl, ?_⟩
      show RI _ (fwF k i (fwI k D i))
      unfold fwF edF
      rw [show 6 * (i / 6) + i % 6 = i by omega]
      by_cases q : fwI k D i (6 * (i / 6) + k) + fwI k D i (6 * k + i % 6) < fwI k D i i
      · rw [if_pos (nI_lt q (by omega)), if_pos q]
        exact RI_set hp
      · rw [if_neg (nI_nlt (by omega) (by omega)), if_neg q]
        intro j hj
        unfold upd
        by_cases e : j = i
        · rw [if_pos e, e]
        · rw [if_neg e]; exact hp j hj) (fun x hp => by
      refine ⟨x, ?_, hp⟩
      show f_X10_measures_b110 (nI 36) x (nI k) = _
      unfold f_X10_measures_b110
      rw [if_pos (show (36 : Int32) ≤ nI 36 from nI_le (a := 36) (Nat.le_refl _) (by decide))]) 36 0 N x (by omega) (by omega) hx
  obtain ⟨x2, e2, r2⟩ := lp_cnt (b := fun s => f_X10_measures_b102 N s.1 s.2) (fun i x => (nI i, x)) (fun i x => RI x (fwK (edN t (sC t) (2 * t 49)) i)) (fun x => RI x (dst t (sC t))) 6 (fun i x hi hp => by
    show ∃ x', f_X10_measures_b102 N (nI i) x = _ ∧ _
    obtain ⟨y, y1, y2⟩ := mid _ i (Bd_fwK (Bd_edN t (sC t) _) i) hi x hp
    refine ⟨y, ?_, y2⟩
    unfold f_X10_measures_b102
    rw [if_neg (show ¬ (6 : Int32) ≤ nI i from nI_ge (b := 6) hi (by decide)), y1, Option.bind_some, nI_1]) (fun x hp => by
    refine ⟨x, ?_, hp⟩
    show f_X10_measures_b102 N (nI 6) x = _
    unfold f_X10_measures_b102
    rw [if_pos (show (6 : Int32) ≤ nI 6 from nI_le (a := 6) (Nat.le_refl _) (by decide))]) 6 0 N x1 (by omega) (by omega) r1
  refine ⟨x2, ?_, r2⟩
  have e0' : lp (fun s_2 => f_X10_measures_b2 s_2.1 s_2.2) N ((0 : Int32), d) = some x0 := e0
  have e1' : lp (fun s_39 => f_X10_measures_b39 w s_39.1 s_39.2) N ((0 : Int32), x0) = some x1 := e1
  have e2' : lp (fun s_102 => f_X10_measures_b102 N s_102.1 s_102.2) N ((0 : Int32), x1) = some x2 := e2
  unfold f_X10_measures
  rw [e0', Option.bind_some, e1', Option.bind_some, e2', Option.bind_some]
/-- costs as a way learns them: on (b = 0) or turned round -/
def cW (t : Nat → Nat) (b : Nat) (e : Nat) : Nat := if b = 0 then sC t e else sC t (if e % 2 = 0 then e + 1 else e - 1)
theorem f8_learn {t : Nat → Nat} {fr to ln kd fg f2 t2 l2 k2 g2 on bk least : Nat → Int32} {cl sz hm c2 s2 h2 : Int32} (hv : vT t) (h : cR t fr to ln kd fg cl sz hm) {b : Nat} (hb : b < 2) {N : Nat} (hN : 100 ≤ N) : ∃ f3 t3 l3 k3 g3 on3 bk3 least3 : Nat → Int32, f_X8_learn N (nI b) c2 s2 h2 f2 t2 l2 k2 g2 on bk least cl sz hm fr to ln kd fg = some (cl, sz, hm, f3, t3, l3, k3, g3, on3, bk3, least3) ∧ cR t f3 t3 l3 k3 g3 cl sz hm ∧ (∀ s, s < t 49 → on3 s = nI (cW t b (2 * s)) ∧ bk3 s = nI (cW t b (2 * s + 1))) ∧ RI least3 (dst t (cW t b)) := by
  have h8 := hv.1
  obtain ⟨f3, t3, l3, k3, g3, e1, e2⟩ := f7_takeOver (f2 := f2) (t2 := t2) (l2 := l2) (k2 := k2) (g2 := g2) (c2 := c2) (s2 := s2) (h2 := h2) hv h
  obtain ⟨⟨on3, bk3⟩, e3, r3⟩ := lp_cnt (b := fun s : Int32 × (Nat → Int32) × (Nat → Int32) => f_X8_learn_b10 sz s.1 s.2.1 s.2.2 (nI b) cl l3 k3 g3) (fun i x => (nI i, x)) (fun i x => ∀ s, s < i → x.1 s = nI (cW t b (2 * s)) ∧ x.2 s = nI (cW t b (2 * s + 1))) (fun x => ∀ s, s < t 49 → x.1 s = nI (cW t b (2 * s)) ∧ x.2 s = nI (cW t b (2 * s + 1))) (t 49) (fun i x hi hp => by
    refine ⟨(upd x.1 i (nI (cW t b (2 * i))), upd x.2 i (nI (cW t b (2 * i + 1)))), ?_, fun s hs => ?_⟩
    · show f_X8_learn_b10 sz (nI i) x.1 x.2 (nI b) cl l3 k3 g3 = _
      unfold f_X8_learn_b10
      have hsz : sz = nI (t 49) := h.1
      rw [if_neg (by rw [hsz]; exact nI_ge hi (by omega)), f7_costOn hv e2 hi, f7_costBack hv e2 hi]
      unfold cW
      have hb2 : b = 0 ∨ b = 1 := by omega
      rcases hb2 with rfl | rfl
      · rw [if_pos (show nI 0 = (0 : Int32) from rfl), Option.bind_some, Option.bind_some, if_pos (show nI 0 = (0 : Int32) from rfl), Option.bind_some, ga_ok (by omega) (by decide), ga_ok (by omega) (by decide), nI_clamp (by omega), nI_1]; rfl
      · rw [if_neg (show ¬ nI 1 = (0 : Int32) by decide), Option.bind_some, Option.bind_some, if_neg (show ¬ nI 1 = (0 : Int32) by decide), Option.bind_some, ga_ok (by omega) (by decide), ga_ok (by omega) (by decide), nI_clamp (by omega), nI_1, if_neg (show ¬ (1 : Nat) = 0 by decide), if_neg (show ¬ (1 : Nat) = 0 by decide), if_pos (show 2 * i % 2 = 0 by omega), if_neg (show ¬ (2 * i + 1) % 2 = 0 by omega)]; rfl
    · show upd x.1 i (nI (cW t b (2 * i))) s = _ ∧ upd x.2 i (nI (cW t b (2 * i + 1))) s = _
      by_cases e : s = i
      · subst e; rw [pk_us, pk_us]; exact ⟨rfl, rfl⟩
      · rw [pk_un e, pk_un e]; exact hp s (by omega)) (fun x hp => by
    refine ⟨x, ?_, hp⟩
    show f_X8_learn_b10 sz (nI (t 49)) x.1 x.2 (nI b) cl l3 k3 g3 = _
    unfold f_X8_learn_b10
    rw [if_pos (by rw [h.1]; exact nI_le (Nat.le_refl _) (by omega))]) (t 49) 0 N (on, bk) (by omega) (by omega) (fun s hs => absurd hs (by omega))
  have hC : ∀ e, e < 2 * t 49 → cW t b e ≤ 1000000 := fun e he => by
    unfold cW
    split
    · have := sC_small hv he; omega
    · have := sC_small hv (e := if e % 2 = 0 then e + 1 else e - 1) (by split <;> omega); omega
  obtain ⟨x, e4, r4⟩ := f8_measure (least := least) hv h.1 (fun s hs => (e2.2.2.2 s hs).1) (fun s hs => (e2.2.2.2 s hs).2.1) (fun s hs => (r3 s hs).1) (fun s hs => (r3 s hs).2) hC hN
  refine ⟨f3, t3, l3, k3, g3, on3, bk3, x, ?_, e2, r3, r4⟩
  have e3' : lp (fun s_10 => f_X8_learn_b10 sz s_10.1 s_10.2.1 s_10.2.2 (nI b) cl l3 k3 g3) N ((0 : Int32), on, bk) = some (on3, bk3) := e3
  unfold f_X8_learn
  rw [e1, Option.bind_some]
  show (lp (fun s_10 => f_X8_learn_b10 sz s_10.1 s_10.2.1 s_10.2.2 (nI b) cl l3 k3 g3) N ((0 : Int32), on, bk)).bind _ = _
  rw [e3', Option.bind_some]
  show (f_X8_measure N sz f3 t3 on3 bk3 least).bind _ = _
  rw [e4, Option.bind_some]
