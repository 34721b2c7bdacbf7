/-! rounds by sets of streets: the least costs are one, and the round is one -/
def clB8 (S s : Nat) : Bool := decide (clr S s < 256) && (List.range 8).all (fun i => (clr S s).testBit i == (S.testBit i && decide (i ≠ s)))
theorem clB8_ok : ∀ S, S < 256 → ∀ s, s < 8 → clB8 S s = true := by decide +kernel
theorem clr_ok {S s : Nat} (hS : S < 256) (hs : s < 8) : clr S s < 256 ∧ ∀ i, i < 8 → (clr S s).testBit i = (S.testBit i && decide (i ≠ s)) := by
  have h := clB8_ok S hS s hs
  unfold clB8 at h
  rw [Bool.and_eq_true, decide_eq_true_iff, List.all_eq_true] at h
  exact ⟨h.1, fun i hi => beq_iff_eq.mp (h.2 i (List.mem_range.mpr hi))⟩
theorem tb8 {S i : Nat} (hS : S < 256) (hi : ¬ i < 8) : S.testBit i = false :=
  Nat.testBit_lt_two_pow (Nat.lt_of_lt_of_le hS (show 2 ^ 8 ≤ 2 ^ i from Nat.pow_le_pow_right (by decide) (by omega)))
theorem sub_lt {S U : Nat} (h : S &&& U = S) (hU : U < 256) : S < 256 := by
  have := Nat.and_le_right (n := S) (m := U)
  omega
theorem clr_sub {S U s : Nat} (h : S &&& U = S) (hU : U < 256) (hs : s < 8) : clr S s &&& U = clr S s := by
  obtain ⟨a, b⟩ := clr_ok (sub_lt h hU) hs
  apply Nat.eq_of_testBit_eq
  intro i
  rw [Nat.testBit_and]
  by_cases e : i < 8
  · rw [b i e]
    have h2 : (S &&& U).testBit i = S.testBit i := by rw [h]
    rw [Nat.testBit_and] at h2
    cases hx : S.testBit i <;> cases hy : U.testBit i <;> simp_all
  · rw [tb8 a e]; rfl
theorem dueB_lt {t : Nat → Nat} (hv : vT t) : dueB t (t 49) < 256 := by
  rw [dueB_bS]
  exact Nat.lt_of_lt_of_le (bS_lt _ _) (show 2 ^ t 49 ≤ 2 ^ 8 from Nat.pow_le_pow_right (by decide) hv.1)
theorem IsV_le {t : Nat → Nat} (hv : vT t) {h U : Nat} (hU : U < 256) {V W : Nat → Nat → Nat} (hV : IsV t h U V) (hW : IsV t h U W) : ∀ n S c, V S c < n → S &&& U = S → c < 6 → W S c ≤ V S c
  | 0, S, c, hn, _, _ => absurd hn (by omega)
  | n + 1, S, c, hn, hS, hc => by
    by_cases g : V S c < 1000000
    · rcases hV.2.2.2 S c hS hc g with ⟨rfl, rfl⟩ | ⟨e, e1, e2, e3, e4⟩
      · rw [hW.2.1]; exact Nat.zero_le _
      · have hsm := sC_small hv e1
        have h8 := hv.1
        have h1 := hW.2.2.1 S e hS e1 e2
        have h2 := IsV_le hv hU hV hW n (clr S (e / 2)) (sE t e) (by omega) (clr_sub hS hU (by omega)) (sE_lt hv e1)
        rw [e3] at h1
        omega
    · have := hW.1 S c hS hc
      omega
theorem IsV_one {t : Nat → Nat} (hv : vT t) {h U : Nat} (hU : U < 256) {V W : Nat → Nat → Nat} (hV : IsV t h U V) (hW : IsV t h U W) {S c : Nat} (hS : S &&& U = S) (hc : c < 6) : V S c = W S c :=
  Nat.le_antisymm (IsV_le hv hU hW hV _ S c (Nat.lt_succ_self _) hS hc) (IsV_le hv hU hV hW _ S c (Nat.lt_succ_self _) hS hc)
theorem IsR_one {t : Nat → Nat} (hv : vT t) {U : Nat} (hU : U < 256) {V W : Nat → Nat → Nat} (hVW : ∀ S c, S &&& U = S → c < 6 → V S c = W S c) : ∀ (es fs : List Nat) (S c : Nat), S &&& U = S → c < 6 → IsR t V S c es → IsR t W S c fs → es = fs
  | [], [], _, _, _, _, _, _ => rfl
  | [], f :: fs, S, c, hS, hc, h, g => by
    have h1 : V S c = 0 := h
    have h2 := g.1
    rw [← hVW S c hS hc] at h2
    omega
  | e :: es, [], S, c, hS, hc, h, g => by
    have h1 : W S c = 0 := g
    have h2 := h.1
    rw [hVW S c hS hc] at h2
    omega
  | e :: es, f :: fs, S, c, hS, hc, h, g => by
    have h8 := hv.1
    obtain ⟨_, ⟨a1, a2, a3, a4⟩, a5, a6⟩ := h
    obtain ⟨_, ⟨b1, b2, b3, b4⟩, b5, b6⟩ := g
    have sub : ∀ x, x < 2 * t 49 → V (clr S (x / 2)) (sE t x) = W (clr S (x / 2)) (sE t x) := fun x hx => hVW _ _ (clr_sub hS hU (by omega)) (sE_lt hv hx)
    have ef : e = f := by
      rcases Nat.lt_trichotomy e f with q | q | q
      · exact absurd ⟨a2, a3, by rw [← hVW S c hS hc, a4, sub e a1]⟩ (b5 e q)
      · exact q
      · exact absurd ⟨b2, b3, by rw [hVW S c hS hc, b4, sub f b1]⟩ (a5 f q)
    subst ef
    rw [IsR_one hv hU hVW es fs _ _ (clr_sub hS hU (by omega)) (sE_lt hv a1) a6 b6]
theorem cnt_mono {p q : Nat → Bool} : ∀ n, (∀ i, i < n → p i = true → q i = true) → cnt p n ≤ cnt q n
  | 0, _ => Nat.le_refl _
  | n + 1, h => by
    have ih := cnt_mono n (fun i hi => h i (by omega))
    have h1 := h n (by omega)
    unfold cnt
    by_cases e : p n = true
    · rw [if_pos e, if_pos (h1 e)]; omega
    · rw [if_neg e]; omega
theorem cnt_strict {p q : Nat → Bool} : ∀ n, (∀ i, i < n → p i = true → q i = true) → (∃ j, j < n ∧ q j = true ∧ p j = false) → cnt p n < cnt q n
  | 0, _, h => by obtain ⟨j, h, _⟩ := h; omega
  | n + 1, h, ⟨j, j1, j2, j3⟩ => by
    have hm := cnt_mono n (fun i hi => h i (by omega))
    have h1 := h n (by omega)
    unfold cnt
    by_cases e : j = n
    · subst e; rw [j2, j3]; simp; omega
    · have ih := cnt_strict n (fun i hi => h i (by omega)) ⟨j, by omega, j2, j3⟩
      by_cases e : p n = true
      · rw [if_pos e, if_pos (h1 e)]; omega
      · rw [if_neg e]; omega
def pc8 (S : Nat) : Nat := cnt (fun i => S.testBit i) 8
def lessV (V : Nat → Nat → Nat) (S v : Nat) : Nat := cnt (fun c => decide (V S c < v)) 6
theorem clr_pc {S s : Nat} (hS : S < 256) (hs : s < 8) (hb : S.testBit s = true) : pc8 (clr S s) < pc8 S := by
  obtain ⟨a, b⟩ := clr_ok hS hs
  refine cnt_strict 8 (fun i hi h => ?_) ⟨s, hs, hb, ?_⟩
  · rw [b i hi, Bool.and_eq_true] at h; exact h.1
  · show (clr S s).testBit s = false
    rw [b s hs]; simp
/-- the round exists, and isn't long -/
theorem IsR_ex {t : Nat → Nat} (hv : vT t) {h U : Nat} (hU : U < 256) {V : Nat → Nat → Nat} (hV : IsV t h U V) : ∀ n S c, V S c < n → S &&& U = S → c < 6 → V S c < 1000000 → ∃ es, IsR t V S c es ∧ es.length ≤ 6 * pc8 S + lessV V S (V S c)
  | 0, S, c, hn, _, _, _ => absurd hn (by omega)
  | n + 1, S, c, hn, hS, hc, hlt => by
    have h8 := hv.1
    by_cases z : V S c = 0
    · exact ⟨[], z, Nat.zero_le _⟩
    · have hex : ∃ e, e < 2 * t 49 ∧ sC t e < 1000000 ∧ sA t e = c ∧ V S c = sC t e + V (clr S (e / 2)) (sE t e) := by
        rcases hV.2.2.2 S c hS hc hlt with ⟨rfl, rfl⟩ | he
        · exact absurd hV.2.1 z
        · exact he
      obtain ⟨e0, q1, q2, q3, q4⟩ := hex
      obtain ⟨e, g1, g2⟩ := pk_least (fun e => sC t e < 1000000 ∧ sA t e = c ∧ V S c = sC t e + V (clr S (e / 2)) (sE t e)) ⟨e0, q2, q3, q4⟩
      have he : e < 2 * t 49 := by
        rcases Nat.lt_or_ge e0 e with w | w
        · exact absurd ⟨q2, q3, q4⟩ (g2 e0 w)
        · omega
      have hsm := sC_small hv he
      have hsE := sE_lt hv he
      have hs8 : e / 2 < 8 := by omega
      have hS8 := sub_lt hS hU
      have hv1 : V (clr S (e / 2)) (sE t e) < V S c := by have := g1.2.2; omega
      obtain ⟨es, r1, r2⟩ := IsR_ex hv hU hV n (clr S (e / 2)) (sE t e) (by omega) (clr_sub hS hU hs8) hsE (by omega)
      refine ⟨e :: es, ⟨by omega, ⟨he, g1⟩, g2, r1⟩, ?_⟩
      rw [List.length_cons]
      by_cases b : S.testBit (e / 2) = true
      · have h1 := clr_pc hS8 hs8 b
        have h2 : lessV V (clr S (e / 2)) (V (clr S (e / 2)) (sE t e)) < cnt (fun _ => true) 6 := cnt_strict 6 (fun _ _ _ => rfl) ⟨sE t e, hsE, rfl, by simp⟩
        have h3 : cnt (fun _ => true) 6 = 6 := rfl
        omega
      · have hcl : clr S (e / 2) = S := if_neg b
        rw [hcl] at r2 hv1
        have h2 : lessV V S (V S (sE t e)) < lessV V S (V S c) := cnt_strict 6 (fun i _ hi => by
          rw [decide_eq_true_iff] at hi ⊢
          omega) ⟨sE t e, hsE, decide_eq_true hv1, by simp⟩
        omega
theorem IsR_53 {t : Nat → Nat} (hv : vT t) {h U : Nat} (hU : U < 256) {V : Nat → Nat → Nat} (hV : IsV t h U V) {S c : Nat} (hS : S &&& U = S) (hc : c < 6) (hlt : V S c < 1000000) : ∃ es, IsR t V S c es ∧ es.length ≤ 53 := by
  obtain ⟨es, h1, h2⟩ := IsR_ex hv hU hV _ S c (Nat.lt_succ_self _) hS hc hlt
  refine ⟨es, h1, ?_⟩
  have h3 : pc8 S ≤ 8 := cnt_le _ 8
  have h4 : lessV V S (V S c) < cnt (fun _ => true) 6 := cnt_strict 6 (fun _ _ _ => rfl) ⟨c, hc, rfl, by simp⟩
  have h5 : cnt (fun _ => true) 6 = 6 := rfl
  omega
