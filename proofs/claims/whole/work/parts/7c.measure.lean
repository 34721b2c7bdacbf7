/-! the class's table: least ways to the first streets -/
def mS (D G : Nat → Nat) (c : Nat) : Nat → Nat
  | 0 => 1000000
  | n + 1 => if mS D G c n ≤ D (6 * c + n) + G n then mS D G c n else D (6 * c + n) + G n
theorem mS_le (D G : Nat → Nat) (c : Nat) : ∀ n, mS D G c n ≤ 1000000 ∧ ∀ d, d < n → mS D G c n ≤ D (6 * c + d) + G d
  | 0 => ⟨Nat.le_refl _, fun d hd => absurd hd (by omega)⟩
  | n + 1 => by
    obtain ⟨a, b⟩ := mS_le D G c n
    have e : mS D G c (n + 1) = if mS D G c n ≤ D (6 * c + n) + G n then mS D G c n else D (6 * c + n) + G n := rfl
    rw [e]
    refine ⟨by split <;> omega, fun d hd => ?_⟩
    by_cases q : d = n
    · subst q; split <;> omega
    · have := b d (by omega)
      split <;> omega
theorem mS_ex (D G : Nat → Nat) (c : Nat) : ∀ n, mS D G c n < 1000000 → ∃ d, d < n ∧ mS D G c n = D (6 * c + d) + G d
  | 0, h => absurd h (show ¬ (1000000 : Nat) < 1000000 by omega)
  | n + 1, h => by
    have e : mS D G c (n + 1) = if mS D G c n ≤ D (6 * c + n) + G n then mS D G c n else D (6 * c + n) + G n := rfl
    rw [e] at h ⊢
    split at h
    · rename_i g
      rw [if_pos g]
      obtain ⟨d, d1, d2⟩ := mS_ex D G c n h
      exact ⟨d, by omega, d2⟩
    · rename_i g
      rw [if_neg g]
      exact ⟨n, by omega, rfl⟩
theorem f6_measureSet {D G : Nat → Nat} {le x y : Nat → Int32} (hD : RI le D) (hB : Bd D) (hy : ∀ c, c < 6 → y c = nI (G c)) (hG : ∀ c, c < 6 → G c ≤ 1000000) {S : Nat} (hS : S < 256) {N : Nat} (hN : 100 ≤ N) : ∃ x', f_X6_measureSet N (nI S) le x y = some x' ∧ (∀ i, ¬ (6 * S ≤ i ∧ i < 6 * S + 6) → x' i = x i) ∧ ∀ c, c < 6 → x' (6 * S + c) = nI (mS D G c 6) := by
  have inner : ∀ c, c < 6 → lp (fun s_23 => f_X6_measureSet_b23 s_23.2 s_23.1 (nI c) le y) N ((1000000 : Int32), (0 : Int32)) = some (nI (mS D G c 6)) := fun c hc =>
    lp_seq (b := fun s => f_X6_measureSet_b23 s.2 s.1 (nI c) le y) (fun i => (nI (mS D G c i), nI i)) (nI (mS D G c 6)) 6 (fun i hi => by
      show f_X6_measureSet_b23 (nI i) (nI (mS D G c i)) (nI c) le y = _
      have h1 := (mS_le D G c i).1
      have h2 := hB (6 * c + i) (by omega)
      have h3 := hG i hi
      unfold f_X6_measureSet_b23
      rw [if_neg (show ¬ (6 : Int32) ≤ nI i from nI_ge (b := 6) hi (by decide)), six, ga_ok (by omega) (by decide), ga_ok hi (by decide), nI_clamp (by omega), nI_clamp (by omega), hD _ (by omega), hy i hi, nI_add, nI_1]
      show _ = some (Sum.inl (nI (if mS D G c i ≤ D (6 * c + i) + G i then mS D G c i else D (6 * c + i) + G i), nI (i + 1)))
      by_cases e : mS D G c i ≤ D (6 * c + i) + G i
      · rw [if_pos (nI_le e (by omega)), if_pos e]
      · rw [if_neg (nI_ge (by omega) (by omega)), if_neg e]) (by
      show f_X6_measureSet_b23 (nI 6) (nI (mS D G c 6)) (nI c) le y = _
      unfold f_X6_measureSet_b23
      rw [if_pos (show (6 : Int32) ≤ nI 6 from nI_le (a := 6) (Nat.le_refl _) (by decide))]) 6 0 N (by omega) (by omega)
  obtain ⟨x', e1, q1, q2⟩ := lp_cnt (b := fun s : Int32 × (Nat → Int32) => f_X6_measureSet_b10 N s.1 s.2 le y (nI S)) (fun i z => (nI i, z)) (fun i z => (∀ j, ¬ (6 * S ≤ j ∧ j < 6 * S + 6) → z j = x j) ∧ ∀ c, c < i → z (6 * S + c) = nI (mS D G c 6)) (fun z => (∀ j, ¬ (6 * S ≤ j ∧ j < 6 * S + 6) → z j = x j) ∧ ∀ c, c < 6 → z (6 * S + c) = nI (mS D G c 6)) 6 (fun i z hi hp => by
    refine ⟨upd z (6 * S + i) (nI (mS D G i 6)), ?_, fun j hj => ?_, fun c hc => ?_⟩
    · show f_X6_measureSet_b10 N (nI i) z le y (nI S) = _
      unfold f_X6_measureSet_b10
      rw [if_neg (show ¬ (6 : Int32) ≤ nI i from nI_ge (b := 6) hi (by decide)), inner i hi, Option.bind_some, six, ga_ok (by omega) (by decide), nI_clamp (by omega), nI_1]
    · rw [pk_un (by omega)]; exact hp.1 j hj
    · by_cases e : c = i
      · subst e; rw [pk_us]
      · rw [pk_un (by omega)]; exact hp.2 c (by omega)) (fun z hp => by
    refine ⟨z, ?_, hp⟩
    show f_X6_measureSet_b10 N (nI 6) z le y (nI S) = _
    unfold f_X6_measureSet_b10
    rw [if_pos (show (6 : Int32) ≤ nI 6 from nI_le (a := 6) (Nat.le_refl _) (by decide))]) 6 0 N x (by omega) (by omega) ⟨fun _ _ => rfl, fun c hc => absurd hc (by omega)⟩
  refine ⟨x', ?_, q1, q2⟩
  have e1' : lp (fun s_10 => f_X6_measureSet_b10 N s_10.1 s_10.2 le y (nI S)) N ((0 : Int32), x) = some x' := e1
  unfold f_X6_measureSet
  rw [e1', Option.bind_some]
/-- what stands for a set that is done -/
def CS (t : Nat → Nat) (x : Nat → Int32) (S : Nat) : Prop := (∀ c, c < 6 → okc x (6 * S + c)) ∧ ∃ G, FS t S (fun T c => Lf x (6 * T + c)) (2 * t 49) G ∧ ∀ c, c < 6 → Lf x (6 * S + c) = mS (dst t (sC t)) G c 6
theorem FS_cong {t : Nat → Nat} (hv : vT t) {S m : Nat} {V W : Nat → Nat → Nat} {G : Nat → Nat} (hm : m ≤ 2 * t 49) (h : FS t S V m G) (hVW : ∀ s c, s < 8 → c < 6 → S.testBit s = true → V (clr S s) c = W (clr S s) c) : FS t S W m G := by
  have h8 := hv.1
  obtain ⟨h1, h2, h3⟩ := h
  refine ⟨h1, fun e he hb => ?_, fun c hc hlt => ?_⟩
  · rw [← hVW _ _ (by omega) (sE_lt hv (by omega)) hb]; exact h2 e he hb
  · obtain ⟨e, e1, e2, e3, e4⟩ := h3 c hc hlt
    exact ⟨e, e1, e2, e3, by rw [← hVW _ _ (by omega) (sE_lt hv (by omega)) e2]; exact e4⟩
