/-! the class's table: first streets -/
theorem clrI : ∀ S, S < 256 → ∀ s, s < 8 → nI S &&& (nI (2 ^ s) ^^^ (-1)) = nI (clr S s) := by decide +kernel
def FS (t : Nat → Nat) (S : Nat) (V : Nat → Nat → Nat) (m : Nat) (G : Nat → Nat) : Prop :=
  (∀ c, c < 6 → G c ≤ 1000000) ∧ (∀ e, e < m → S.testBit (e / 2) = true → G (sA t e) ≤ sC t e + V (clr S (e / 2)) (sE t e)) ∧ ∀ c, c < 6 → G c < 1000000 → ∃ e, e < m ∧ S.testBit (e / 2) = true ∧ sA t e = c ∧ G c = sC t e + V (clr S (e / 2)) (sE t e)
theorem FS_step {t : Nat → Nat} (hv : vT t) {S m : Nat} {V : Nat → Nat → Nat} {G : Nat → Nat} (hm : m < 2 * t 49) (h : FS t S V m G) (hb : S.testBit (m / 2) = true) : FS t S V (m + 1) (setT G (sA t m) (if sC t m + V (clr S (m / 2)) (sE t m) < G (sA t m) then sC t m + V (clr S (m / 2)) (sE t m) else G (sA t m))) := by
  obtain ⟨h1, h2, h3⟩ := h
  have la := sA_lt hv hm
  refine ⟨fun c hc => ?_, fun e he hbe => ?_, fun c hc hlt => ?_⟩
  · have := h1 c hc
    by_cases q : c = sA t m
    · subst q; rw [setT_s]; split <;> omega
    · rw [setT_n q]; exact this
  · by_cases q : e = m
    · subst q; rw [setT_s]; split <;> omega
    · have := h2 e (by omega) hbe
      by_cases q2 : sA t e = sA t m
      · rw [q2] at this ⊢
        rw [setT_s]; split <;> omega
      · rw [setT_n q2]; exact this
  · by_cases q : c = sA t m
    · subst q
      rw [setT_s] at hlt ⊢
      split at hlt
      · rename_i g
        rw [if_pos g]
        exact ⟨m, by omega, hb, rfl, rfl⟩
      · rename_i g
        rw [if_neg g]
        obtain ⟨e, e1, e2, e3, e4⟩ := h3 _ hc hlt
        exact ⟨e, by omega, e2, e3, e4⟩
    · rw [setT_n q] at hlt ⊢
      obtain ⟨e, e1, e2, e3, e4⟩ := h3 c hc hlt
      exact ⟨e, by omega, e2, e3, e4⟩
theorem FS_skip {t : Nat → Nat} {S m : Nat} {V : Nat → Nat → Nat} {G : Nat → Nat} (h : FS t S V m G) (hb : S.testBit (m / 2) = false) : FS t S V (m + 1) G := by
  obtain ⟨h1, h2, h3⟩ := h
  refine ⟨h1, fun e he hbe => ?_, fun c hc hlt => ?_⟩
  · by_cases q : e = m
    · subst q; rw [hb] at hbe; cases hbe
    · exact h2 e (by omega) hbe
  · obtain ⟨e, e1, e2, e3, e4⟩ := h3 c hc hlt
    exact ⟨e, by omega, e2, e3, e4⟩
theorem minI {a b : Nat} (ha : a < 2 ^ 31) (hb : b < 2 ^ 31) : (if nI a < nI b then nI a else nI b) = nI (if a < b then a else b) := by
  by_cases e : a < b
  · rw [if_pos (nI_lt e hb), if_pos e]
  · rw [if_neg (nI_nlt (by omega) ha), if_neg e]
theorem f6_measureFirst {t : Nat → Nat} {fr to on bk x cf : Nat → Int32} {sz : Int32} (hv : vT t) (hsz : sz = nI (t 49)) (hfr : ∀ s, s < t 49 → fr s = nI (t s)) (hto : ∀ s, s < t 49 → to s = nI (t (8 + s))) (hon : ∀ s, s < t 49 → on s = nI (sC t (2 * s))) (hbk : ∀ s, s < t 49 → bk s = nI (sC t (2 * s + 1))) {S : Nat} (hS : S < 256) (hok : ∀ s, s < 8 → S.testBit s = true → ∀ c, c < 6 → okc x (6 * clr S s + c)) {N : Nat} (hN : 100 ≤ N) : ∃ y G, f_X6_measureFirst N (nI S) sz fr to on bk x cf = some y ∧ (∀ c, c < 6 → y c = nI (G c)) ∧ FS t S (fun T c => Lf x (6 * T + c)) (2 * t 49) G := by
  have h8 := hv.1
  obtain ⟨y0, e0, q0⟩ := lp_cnt (b := fun s : Int32 × (Nat → Int32) => f_X6_measureFirst_b2 s.1 s.2) (fun i y => (nI i, y)) (fun i y => ∀ c, c < i → y c = nI 1000000) (fun y => ∀ c, c < 6 → y c = nI 1000000) 6 (fun i y hi hp => by
    refine ⟨upd y i (nI 1000000), ?_, fun c hc => ?_⟩
    · show f_X6_measureFirst_b2 (nI i) y = _
      unfold f_X6_measureFirst_b2
      rw [if_neg (show ¬ (6 : Int32) ≤ nI i from nI_ge (b := 6) hi (by decide)), ga_ok hi (by decide), nI_clamp (by omega), nI_1]; rfl
    · by_cases e : c = i
      · subst e; rw [pk_us]
      · rw [pk_un e]; exact hp c (by omega)) (fun y hp => by
    refine ⟨y, ?_, hp⟩
    show f_X6_measureFirst_b2 (nI 6) y = _
    unfold f_X6_measureFirst_b2
    rw [if_pos (show (6 : Int32) ≤ nI 6 from nI_le (a := 6) (Nat.le_refl _) (by decide))]) 6 0 N cf (by omega) (by omega) (fun c hc => absurd hc (by omega))
  obtain ⟨y1, e1, G, q1, q2⟩ := lp_cnt (b := fun s : Int32 × (Nat → Int32) => f_X6_measureFirst_b24 sz s.1 s.2 (nI S) fr to on x bk) (fun i y => (nI i, y)) (fun i y => ∃ G, (∀ c, c < 6 → y c = nI (G c)) ∧ FS t S (fun T c => Lf x (6 * T + c)) (2 * i) G) (fun y => ∃ G, (∀ c, c < 6 → y c = nI (G c)) ∧ FS t S (fun T c => Lf x (6 * T + c)) (2 * t 49) G) (t 49) (fun i y hi hp => by
    obtain ⟨G, g1, g2⟩ := hp
    show ∃ y', f_X6_measureFirst_b24 sz (nI i) y (nI S) fr to on x bk = _ ∧ _
    have ho := hv.2.2.1 i hi
    unfold f_X6_measureFirst_b24
    rw [hsz, if_neg (nI_ge hi (by omega)), nI_1]
    by_cases b : S.testBit i = true
    · obtain ⟨c1, c2⟩ := clr_ok hS (show i < 8 by omega)
      have k1 := hok i (by omega) b (t (8 + i)) (by omega)
      have k2 := hok i (by omega) b (t i) (by omega)
      have s1 := sC_small hv (e := 2 * i) (by omega)
      have s2 := sC_small hv (e := 2 * i + 1) (by omega)
      have a1 := g2.1 (t i) (by omega)
      have a2 := g2.1 (t (8 + i)) (by omega)
      have st1 := FS_step hv (m := 2 * i) (by omega) g2 (by rw [show 2 * i / 2 = i by omega]; exact b)
      have st2 := FS_step hv (m := 2 * i + 1) (by omega) st1 (by rw [show (2 * i + 1) / 2 = i by omega]; exact b)
      rw [sA_0, sE_0, sA_1, sE_1, show 2 * i / 2 = i by omega, show (2 * i + 1) / 2 = i by omega, setT_n (show t (8 + i) ≠ t i by omega)] at st2
      rw [if_neg (fun z => by have := (bitI (by omega) (by omega)).mp z; rw [b] at this; cases this), nI_clamp (show i < 2 ^ 31 by omega), hfr i hi, hto i hi, hon i hi, hbk i hi, sh1 (by omega), clrI S hS i (by omega), six, six, nI_clamp (show t i < 2 ^ 31 by omega), nI_clamp (show t (8 + i) < 2 ^ 31 by omega), nI_clamp (show 6 * clr S i + t (8 + i) < 2 ^ 31 by omega), nI_clamp (show 6 * clr S i + t i < 2 ^ 31 by omega), pk_un (show t (8 + i) ≠ t i by omega), k1.2, k2.2, g1 _ (show t i < 6 by omega), g1 _ (show t (8 + i) < 6 by omega), nI_add, nI_add, minI (by have := k1.1; omega) (by omega), minI (by have := k2.1; omega) (by omega)]
      rw [ga_ok (by omega) (by decide), ga_ok (by omega) (by decide), ga_ok (by omega) (by decide), ga_ok (by omega) (by decide), ga_ok (by omega) (by decide), ga_ok (by omega) (by decide), ga_ok (by omega) (by decide), ga_ok (by omega) (by decide), ga_ok (by omega) (by decide), ga_ok (by omega) (by decide)]
      refine ⟨_, rfl, _, fun c hc => ?_, st2⟩
      unfold upd setT
      by_cases w1 : c = t (8 + i)
      · rw [if_pos w1, if_pos w1]
      · rw [if_neg w1, if_neg w1]
        by_cases w2 : c = t i
        · rw [if_pos w2, if_pos w2]
        · rw [if_neg w2, if_neg w2]; exact g1 c hc
    · have b' : S.testBit i = false := by cases hh : S.testBit i with | false => rfl | true => exact absurd hh b
      rw [if_pos ((bitI (by omega) (by omega)).mpr b')]
      refine ⟨y, rfl, G, g1, ?_⟩
      have := FS_skip (m := 2 * i) g2 (by rw [show 2 * i / 2 = i by omega]; exact b')
      exact FS_skip (m := 2 * i + 1) this (by rw [show (2 * i + 1) / 2 = i by omega]; exact b')) (fun y hp => by
    refine ⟨y, ?_, hp⟩
    show f_X6_measureFirst_b24 sz (nI (t 49)) y (nI S) fr to on x bk = _
    unfold f_X6_measureFirst_b24
    rw [hsz, if_pos (nI_le (Nat.le_refl _) (by omega))]) (t 49) 0 N y0 (by omega) (by omega) ⟨fun _ => 1000000, q0, fun _ _ => Nat.le_refl _, fun e he => absurd he (by omega), fun c _ hlt => absurd hlt (show ¬ (1000000 : Nat) < 1000000 by omega)⟩
  refine ⟨y1, G, ?_, q1, q2⟩
  have e0' : lp (fun s_2 => f_X6_measureFirst_b2 s_2.1 s_2.2) N ((0 : Int32), cf) = some y0 := e0
  have e1' : lp (fun s_24 => f_X6_measureFirst_b24 sz s_24.1 s_24.2 (nI S) fr to on x bk) N ((0 : Int32), y0) = some y1 := e1
  unfold f_X6_measureFirst
  rw [e0', Option.bind_some, e1', Option.bind_some]
