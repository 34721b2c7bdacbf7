/-! streets dealt to several postmen: the pure side -/
theorem IsV_mono {t : Nat → Nat} (hv : vT t) {h U : Nat} (hU : U < 256) (hh : h < 6) {V : Nat → Nat → Nat} (hV : IsV t h U V) {S R c : Nat} (hR : R &&& U = R) (hS : S &&& U = S) (hc : c < 6) (hSR : ∀ i, i < 8 → S.testBit i = true → R.testBit i = true) : V S c ≤ V R c := by
  have h8 := hv.1
  by_cases z : V R c < 1000000
  · obtain ⟨es, e1, e2, e3⟩ := VC_ex (C := sC t) hv (fun e he => sC_small hv he) hU hV _ R c (Nat.lt_succ_self _) hR hc z
    rw [← e3]
    have m1 : ∀ e, e ∈ es → e / 2 < 8 := fun e he => by have := isW_mem es _ _ e1 e he; omega
    refine VC_le (C := sC t) hv hU hV es S c hS e1 ?_
    rw [clrL_0 hU hS m1]
    intro i hi hb
    exact (clrL_0 hU hR m1).mp e2 i hi (hSR i hi hb)
  · have := hV.1 S c hS hc
    have := hV.1 R c hR hc
    omega
theorem IsV_sub {t : Nat → Nat} {h U S : Nat} (hS : S &&& U = S) {V : Nat → Nat → Nat} (hV : IsV t h U V) : IsV t h S V := by
  have sub : ∀ R, R &&& S = R → R &&& U = R := fun R hR => by rw [← hR, Nat.and_assoc, hS]
  exact ⟨fun R c hR hc => hV.1 R c (sub R hR) hc, hV.2.1, fun R e hR he hC => hV.2.2.1 R e (sub R hR) he hC, fun R c hR hc hlt => hV.2.2.2 R c (sub R hR) hc hlt⟩
/-- the streets below s that the postman p has by the dealing g -/
def hS (t g : Nat → Nat) (s p : Nat) : Nat := bS (fun i => isD t i && decide (g i = p)) s
theorem bS_cong {p q : Nat → Bool} : ∀ n, (∀ i, i < n → p i = q i) → bS p n = bS q n
  | 0, _ => rfl
  | n + 1, h => by
    show bS p n + (if p n then 2 ^ n else 0) = bS q n + (if q n then 2 ^ n else 0)
    rw [bS_cong n (fun i hi => h i (by omega)), h n (by omega)]
theorem hS_lt (t g : Nat → Nat) {s : Nat} (hs : s ≤ 8) (p : Nat) : hS t g s p < 256 :=
  Nat.lt_of_lt_of_le (bS_lt _ _) (show 2 ^ s ≤ 2 ^ 8 from Nat.pow_le_pow_right (by decide) hs)
theorem hS_sub {t : Nat → Nat} (hv : vT t) (g : Nat → Nat) {s : Nat} (hs : s ≤ t 49) (p : Nat) : hS t g s p &&& dueB t (t 49) = hS t g s p := by
  apply Nat.eq_of_testBit_eq
  intro i
  unfold hS
  rw [Nat.testBit_and, bS_bit, dueB_bS, bS_bit]
  by_cases z : i < s
  · rw [decide_eq_true z, decide_eq_true (show i < t 49 by omega)]
    cases isD t i <;> simp
  · rw [decide_eq_false z]; rfl
theorem hS_set {t g : Nat → Nat} {s p q : Nat} (hd : isD t s = true) : hS t (setT g s p) (s + 1) q = if q = p then hS t g s q + 2 ^ s else hS t g s q := by
  unfold hS
  show bS (fun i => isD t i && decide (setT g s p i = q)) s + (if (isD t s && decide (setT g s p s = q)) then 2 ^ s else 0) = _
  rw [bS_cong (q := fun i => isD t i && decide (g i = q)) s (fun i hi => by rw [setT_n (show i ≠ s by omega)]), setT_s, hd, Bool.true_and]
  by_cases e : q = p
  · rw [if_pos (decide_eq_true e.symm), if_pos e]
  · rw [if_neg (by rw [decide_eq_true_iff]; exact fun w => e w.symm), if_neg e]; rfl
theorem hS_skip {t g : Nat → Nat} {s q : Nat} (hd : ¬ isD t s = true) : hS t g (s + 1) q = hS t g s q := by
  unfold hS
  refine bS_f ?_
  rw [Bool.and_eq_true]
  exact fun w => hd w.1
theorem hS_or {t g : Nat → Nat} {s p : Nat} (hd : isD t s = true) : hS t g s p ||| 2 ^ s = hS t (setT g s p) (s + 1) p := by
  rw [hS_set hd, if_pos rfl]
  have h1 := bS_lt (fun i => isD t i && decide (g i = p)) s
  apply Nat.eq_of_testBit_eq
  intro i
  have e : hS t g s p + 2 ^ s = bS (fun j => if j = s then true else (isD t j && decide (g j = p))) (s + 1) := by
    show _ = bS (fun j => if j = s then true else (isD t j && decide (g j = p))) s + (if (if s = s then true else (isD t s && decide (g s = p))) then 2 ^ s else 0)
    rw [if_pos rfl, if_pos rfl, bS_cong (q := fun j => isD t j && decide (g j = p)) s (fun j hj => if_neg (by omega))]; rfl
  rw [e, bS_bit, Nat.testBit_or, Nat.testBit_two_pow]
  unfold hS
  rw [bS_bit]
  by_cases a : i = s
  · subst a
    simp
  · rw [if_neg a, decide_eq_false (show ¬ s = i from fun w => a w.symm), Bool.or_false]
    congr 1
    rw [decide_eq_decide]
    omega
theorem hS_clr {t g : Nat → Nat} {s p : Nat} (hd : isD t s = true) : clr (hS t (setT g s p) (s + 1) p) s = hS t g s p := by
  have hb : (hS t (setT g s p) (s + 1) p).testBit s = true := by rw [← hS_or hd, Nat.testBit_or, Nat.testBit_two_pow, decide_eq_true rfl, Bool.or_true]
  unfold clr
  rw [if_pos hb, hS_set hd, if_pos rfl]; omega
theorem hS_mono {t g : Nat → Nat} {s p q : Nat} (hd : isD t s = true) : ∀ i, (hS t g s q).testBit i = true → (hS t (setT g s p) (s + 1) q).testBit i = true := fun i hi => by
  by_cases e : q = p
  · subst e
    rw [← hS_or hd, Nat.testBit_or, hi, Bool.true_or]
  · rw [hS_set hd, if_neg e]; exact hi
/-- the greatest of the first n, and all of them together -/
def mxN (f : Nat → Nat) : Nat → Nat
  | 0 => 0
  | n + 1 => if mxN f n < f n then f n else mxN f n
theorem mxN_le {f : Nat → Nat} : ∀ n, ∀ i, i < n → f i ≤ mxN f n
  | 0, i, h => absurd h (by omega)
  | n + 1, i, h => by
    unfold mxN
    by_cases e : i = n
    · subst e; split <;> omega
    · have := mxN_le (f := f) n i (by omega)
      split <;> omega
theorem mxN_lt {f : Nat → Nat} {b : Nat} (hb : 0 < b) : ∀ n, (∀ i, i < n → f i < b) → mxN f n < b
  | 0, _ => hb
  | n + 1, h => by
    have := mxN_lt (f := f) hb n (fun i hi => h i (by omega))
    have := h n (by omega)
    unfold mxN
    split <;> omega
theorem mxN_mono {f g : Nat → Nat} : ∀ n, (∀ i, i < n → f i ≤ g i) → mxN f n ≤ mxN g n
  | 0, _ => Nat.le_refl _
  | n + 1, h => by
    have := mxN_mono n (fun i hi => h i (by omega))
    have := h n (by omega)
    unfold mxN
    split <;> split <;> omega
theorem sT_mono {f g : Nat → Nat} : ∀ n, (∀ i, i < n → f i ≤ g i) → sT f n ≤ sT g n
  | 0, _ => Nat.le_refl _
  | n + 1, h => by
    have := sT_mono n (fun i hi => h i (by omega))
    have := h n (by omega)
    unfold sT
    omega
/-- what is best so far: the greatest, all together, the dealing -/
abbrev DL := Option (Nat × Nat × (Nat → Nat))
def btr (o : DL) (v w : Nat) : Bool := decide (v < 1000000) && (match o with | none => true | some q => decide (v < q.1) || (decide (v = q.1) && decide (w < q.2.1)))
def vM (P : Nat → Nat) (t : Nat → Nat) (n : Nat) (g : Nat → Nat) (s : Nat) : Nat := mxN (fun p => P (hS t g s p)) n
def vW (P : Nat → Nat) (t : Nat → Nat) (n : Nat) (g : Nat → Nat) (s : Nat) : Nat := sT (fun p => P (hS t g s p)) n
def fdF (f : DL → Nat → DL) : Nat → DL → DL
  | 0, o => o
  | n + 1, o => f (fdF f n o) n
def mF (P t : Nat → Nat) (n : Nat) : Nat → Nat → (Nat → Nat) → DL → DL
  | 0, s, g, o => if btr o (vM P t n g s) (vW P t n g s) then some (vM P t n g s, vW P t n g s, g) else o
  | k + 1, s, g, o => if isD t s then fdF (fun q p => mF P t n k (s + 1) (setT g s p) q) n o else mF P t n k (s + 1) g o
def cF (P t : Nat → Nat) (n : Nat) : Nat → Nat → (Nat → Nat) → DL → DL
  | 0, s, g, o => if btr o (vM P t n g s) (vW P t n g s) then some (vM P t n g s, vW P t n g s, g) else o
  | k + 1, s, g, o => if btr o (vM P t n g s) (vW P t n g s) then (if isD t s then fdF (fun q p => cF P t n k (s + 1) (setT g s p) q) n o else cF P t n k (s + 1) g o) else o
theorem btr_mono {o : DL} {v w v2 w2 : Nat} (hv : v ≤ v2) (hw : w ≤ w2) (h : btr o v w = false) : btr o v2 w2 = false := by
  unfold btr at *
  cases o with
  | none =>
    simp only [Bool.and_true, decide_eq_false_iff_not] at *
    omega
  | some q =>
    simp only [Bool.and_eq_false_iff, Bool.or_eq_false_iff, decide_eq_false_iff_not] at *
    omega
theorem fdF_cong {f g : DL → Nat → DL} : ∀ n o, (∀ q p, p < n → f q p = g q p) → fdF f n o = fdF g n o
  | 0, o, _ => rfl
  | n + 1, o, h => by
    unfold fdF
    rw [fdF_cong n o (fun q p hp => h q p (by omega)), h _ n (by omega)]
theorem fdF_id {f : DL → Nat → DL} {o : DL} : ∀ n, (∀ p, p < n → f o p = o) → fdF f n o = o
  | 0, _ => rfl
  | n + 1, h => by
    unfold fdF
    rw [fdF_id n (fun p hp => h p (by omega)), h n (by omega)]
theorem vM_step {P t g : Nat → Nat} {n s p : Nat} (hd : isD t s = true) (hP : ∀ q, q < n → P (hS t g s q) ≤ P (hS t (setT g s p) (s + 1) q)) : vM P t n g s ≤ vM P t n (setT g s p) (s + 1) ∧ vW P t n g s ≤ vW P t n (setT g s p) (s + 1) :=
  ⟨mxN_mono n hP, sT_mono n hP⟩
theorem vM_skip {P t g : Nat → Nat} {n s : Nat} (hd : ¬ isD t s = true) : vM P t n g (s + 1) = vM P t n g s ∧ vW P t n g (s + 1) = vW P t n g s := by
  have e : (fun p => P (hS t g (s + 1) p)) = (fun p => P (hS t g s p)) := by funext p; rw [hS_skip hd]
  unfold vM vW
  rw [e]; exact ⟨rfl, rfl⟩
/-- prices grow with the set -/
def PG (t P : Nat → Nat) : Prop := ∀ g s p q, isD t s = true → s < t 49 → P (hS t g s q) ≤ P (hS t (setT g s p) (s + 1) q)
theorem mF_no {P t : Nat → Nat} (hP : PG t P) {n : Nat} : ∀ k s g o, s + k = t 49 → btr o (vM P t n g s) (vW P t n g s) = false → mF P t n k s g o = o
  | 0, s, g, o, _, h => by unfold mF; rw [h]; rfl
  | k + 1, s, g, o, hs, h => by
    unfold mF
    by_cases z : isD t s = true
    · rw [if_pos z]
      refine fdF_id n (fun p hp => ?_)
      obtain ⟨a, b⟩ := vM_step (P := P) (n := n) (g := g) (p := p) z (fun q _ => hP g s p q z (by omega))
      exact mF_no hP k (s + 1) (setT g s p) o (by omega) (btr_mono a b h)
    · obtain ⟨a, b⟩ := vM_skip (P := P) (n := n) (g := g) z
      rw [if_neg z]
      exact mF_no hP k (s + 1) g o (by omega) (by rw [a, b]; exact h)
theorem cF_mF {P t : Nat → Nat} (hP : PG t P) {n : Nat} : ∀ k s g o, s + k = t 49 → cF P t n k s g o = mF P t n k s g o
  | 0, s, g, o, _ => rfl
  | k + 1, s, g, o, hs => by
    cases z : btr o (vM P t n g s) (vW P t n g s) with
    | false =>
      rw [mF_no hP (k + 1) s g o hs z]
      unfold cF
      rw [z]; rfl
    | true =>
      unfold cF mF
      rw [z, if_pos rfl]
      by_cases y : isD t s = true
      · rw [if_pos y, if_pos y]
        exact fdF_cong n o (fun q p _ => cF_mF hP k (s + 1) (setT g s p) q (by omega))
      · rw [if_neg y, if_neg y]
        exact cF_mF hP k (s + 1) g o (by omega)
theorem PG_of {t : Nat → Nat} (hv : vT t) {V : Nat → Nat → Nat} (hV : IsV t (t 48) (dueB t (t 49)) V) : PG t (fun S => V S (t 48)) := fun g s p q hd hs => by
  have h8 := hv.1
  exact IsV_mono hv (dueB_lt hv) hv.2.1 hV (hS_sub hv (setT g s p) (show s + 1 ≤ t 49 by omega) q) (hS_sub hv g (show s ≤ t 49 by omega) q) hv.2.1 (fun i _ hi => hS_mono hd i hi)
