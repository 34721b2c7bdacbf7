/-! letters that tell a map: the form -/
def fmS (c : Nat) : Nat := if c = 104 then 3 else if c = 107 then 1 else if c = 108 then 1 else if c = 115 then 0 else if c = 120 then 2 else 4
def szL (c : Nat) : Nat := slen (fmS c)
def kch (i k : Nat) : Int32 := (stx i).getD k 0
theorem fmS_lt (c : Nat) : fmS c < 5 := by unfold fmS; (repeat' split) <;> omega
theorem szL_le (c : Nat) : szL c ≤ 5 := by
  have h : ∀ i, i < 5 → slen i ≤ 5 := by decide
  exact h _ (fmS_lt c)
theorem sz_of (c : Nat) : szL c = if c = 115 then 5 else if c = 107 ∨ c = 108 then 4 else if c = 120 ∨ c = 104 then 2 else 0 := by
  unfold szL fmS
  by_cases a : c = 104
  · subst a; rfl
  · by_cases b : c = 107
    · subst b; rfl
    · by_cases d : c = 108
      · subst d; rfl
      · by_cases e : c = 115
        · subst e; rfl
        · by_cases f : c = 120
          · subst f; rfl
          · rw [if_neg a, if_neg b, if_neg d, if_neg e, if_neg f, if_neg e, if_neg (by omega), if_neg (by omega)]; rfl
theorem nIlit {v b : Nat} (hv : v < 256) (hb : b < 256) {x : Int32} (hx : x = nI b) : nI v = x ↔ v = b := nI_lit (by omega) (by omega) x hx
theorem f4_formOfD : ∀ c, c < 256 → f_X4_formOf (nI c) = some (fmS c) := by decide +kernel
theorem f4_formOf {c : Nat} (hc : c < 256) : f_X4_formOf (nI c) = some (fmS c) := f4_formOfD c hc
theorem f10_sizeOfD : ∀ c, c < 256 → f_X10_sizeOf (nI c) = some (nI (szL c)) := by decide +kernel
theorem f10_sizeOf {c : Nat} (hc : c < 256) : f_X10_sizeOf (nI c) = some (nI (szL c)) := f10_sizeOfD c hc
/-- whether a letter fits the k-th place of the i-th form -/
def fitB (i k v : Nat) : Bool := if kch i k = 99 then decide (97 ≤ v ∧ v ≤ 122) else if kch i k = 100 then decide (48 ≤ v ∧ v ≤ 57) else decide (nI v = kch i k)
theorem rng_b2 {v a b : Nat} (hv : v < 256) (ha : a < 256) (hb : b < 256) {x y : Int32} (hx : x = nI a) (hy : y = nI b) : (if nI v < x then (0 : Int32) else (if y < nI v then (0 : Int32) else (1 : Int32))) = b2 (decide (a ≤ v ∧ v ≤ b) = true) := by
  subst hx hy
  unfold b2
  by_cases p : v < a
  · rw [if_pos (nI_lt p (by omega)), if_neg (by rw [decide_eq_true_iff]; omega)]
  · rw [if_neg (nI_nlt (by omega) (by omega))]
    by_cases q : b < v
    · rw [if_pos (nI_lt q (by omega)), if_neg (by rw [decide_eq_true_iff]; omega)]
    · rw [if_neg (nI_nlt (by omega) (by omega)), if_pos (by rw [decide_eq_true_iff]; omega)]
theorem f4_fits {i k v : Nat} (hv : v < 256) : f_X4_fits (nI v) (kch i k) = some (b2 (fitB i k v = true)) := by
  unfold f_X4_fits fitB
  by_cases a : kch i k = 99
  · rw [if_pos a, if_pos a, rng_b2 hv (a := 97) (b := 122) (x := 97) (y := 122) (by decide) (by decide) rfl rfl, gb_b2]
  · rw [if_neg a, if_neg a]
    by_cases b : kch i k = 100
    · rw [if_pos b, if_pos b, rng_b2 hv (a := 48) (b := 57) (x := 48) (y := 57) (by decide) (by decide) rfl rfl, gb_b2]
    · rw [if_neg b, if_neg b]
      have e : (if nI v = kch i k then (1 : Int32) else (0 : Int32)) = b2 (decide (nI v = kch i k) = true) := by
        unfold b2
        by_cases c : nI v = kch i k
        · rw [if_pos c, if_pos (decide_eq_true c)]
        · rw [if_neg c, if_neg (by rw [decide_eq_true_iff]; exact c)]
      rw [e, gb_b2]
theorem kch_n1 : ∀ i, i < 5 → ∀ k, k < slen i → f_X4_fits (-1) (kch i k) = some 0 := by decide +kernel
def lT1 (f : Nat → Int32) (j : Nat) : Nat := (f j).toNatClampNeg
/-- n letters, each below 256 -/
def LT (f : Nat → Int32) (n : Nat) : Prop := n ≤ 96 ∧ ∀ j, j < n → f j = nI (lT1 f j) ∧ lT1 f j < 256
theorem f4_at {f : Nat → Int32} {n : Nat} (h : LT f n) {p : Nat} (hp : p ≤ 200) : f_X4_at (nI p) (nI n) f = some (if p < n then nI (lT1 f p) else -1) := by
  have h96 := h.1
  unfold f_X4_at
  rw [if_neg (nI_pos (by omega))]
  by_cases z : p < n
  · rw [if_neg (nI_ge z (by omega)), ga_ok (by omega) (by decide), nI_clamp (by omega), if_pos z, (h.2 p z).1]
  · rw [if_pos (nI_le (by omega) (by omega)), if_neg z]
/-- the letter behind a statement's first fits -/
def gdB (f : Nat → Int32) (n p k : Nat) : Bool := decide (p + 1 + k < n) && fitB (fmS (lT1 f p)) k (lT1 f (p + 1 + k))
theorem gs_ok {α : Type} {i : Nat} {X : Option α} (h : i < 5) : gs i X = X := if_pos h
theorem slI {i : Nat} : Int32.ofNat (slen i) = nI (slen i) := rfl
theorem f4_fitting {f : Nat → Int32} {n : Nat} (h : LT f n) {p : Nat} (hp : p ≤ 96) {N : Nat} (hN : 100 ≤ N) : f_X4_fitting N (nI (p + 1)) (fmS (lT1 f p)) (nI n) f = some (nI (ldT (gdB f n p) 0 (szL (lT1 f p)))) := by
  have hi := fmS_lt (lT1 f p)
  have hz := szL_le (lT1 f p)
  have key : ∀ r k M, k + r = szL (lT1 f p) → r < M → lp (fun s_2 => f_X4_fitting_b2 (fmS (lT1 f p)) s_2 (nI (p + 1)) (nI n) f) M (nI k) = some (nI (ldT (gdB f n p) k r)) := by
    intro r
    induction r with
    | zero =>
      intro k M hk hM
      obtain ⟨M, rfl⟩ : ∃ M', M = M' + 1 := ⟨M - 1, by omega⟩
      apply lp_r
      show f_X4_fitting_b2 (fmS (lT1 f p)) (nI k) (nI (p + 1)) (nI n) f = _
      unfold f_X4_fitting_b2
      rw [gs_ok hi, slI, if_pos (nI_le (show slen (fmS (lT1 f p)) ≤ k by unfold szL at hk; omega) (by omega))]; rfl
    | succ r ih =>
      intro k M hk hM
      obtain ⟨M, rfl⟩ : ∃ M', M = M' + 1 := ⟨M - 1, by omega⟩
      have ks : k < slen (fmS (lT1 f p)) := by unfold szL at hk; omega
      have body : f_X4_fitting_b2 (fmS (lT1 f p)) (nI k) (nI (p + 1)) (nI n) f = if gdB f n p k then some (.inl (nI (k + 1))) else some (.inr (nI k)) := by
        unfold f_X4_fitting_b2
        rw [gs_ok hi, slI, if_neg (nI_ge ks (by unfold szL at hz; omega)), nI_add, f4_at h (by omega), Option.bind_some, gs_ok hi, ga_ok ks (by unfold szL at hz; omega), nI_1]
        have sc : sch (fmS (lT1 f p)) (nI k) = kch (fmS (lT1 f p)) k := by unfold sch kch; rw [nI_clamp (by omega)]
        rw [sc]
        unfold gdB
        by_cases z : p + 1 + k < n
        · rw [if_pos z, f4_fits (h.2 _ z).2, Option.bind_some, decide_eq_true z, Bool.true_and]
          by_cases y : fitB (fmS (lT1 f p)) k (lT1 f (p + 1 + k)) = true
          · rw [if_neg (fun q => b2_0.mp q y), if_pos y]
          · rw [if_pos (b2_0.mpr y), if_neg y]
        · rw [if_neg z, kch_n1 _ hi k ks, Option.bind_some, if_pos rfl, decide_eq_false z, Bool.false_and, if_neg (by decide)]
      unfold ldT
      by_cases y : gdB f n p k = true
      · rw [if_pos y] at body
        rw [if_pos y]
        exact (lp_l (b := fun s_2 => f_X4_fitting_b2 (fmS (lT1 f p)) s_2 (nI (p + 1)) (nI n) f) body).trans (ih (k + 1) M (by omega) (by omega))
      · rw [if_neg y] at body
        rw [if_neg y]
        exact lp_r (b := fun s_2 => f_X4_fitting_b2 (fmS (lT1 f p)) s_2 (nI (p + 1)) (nI n) f) body
  have k0 := key (szL (lT1 f p)) 0 N (by omega) (by omega)
  unfold f_X4_fitting
  rw [show lp (fun s_2 => f_X4_fitting_b2 (fmS (lT1 f p)) s_2 (nI (p + 1)) (nI n) f) N (0 : Int32) = _ from k0, Option.bind_some]
theorem f4_fittingN {n : Nat} {x : Int32} {f : Nat → Int32} {N : Nat} (hN : 100 ≤ N) : f_X4_fitting N x 4 (nI n) f = some (nI 0) := by
  obtain ⟨M, rfl⟩ : ∃ M', N = M' + 1 := ⟨N - 1, by omega⟩
  unfold f_X4_fitting
  rw [lp_r (b := fun s_2 => f_X4_fitting_b2 4 s_2 x (nI n) f) (e := (0 : Int32)) (by
    show f_X4_fitting_b2 4 (0 : Int32) x (nI n) f = _
    unfold f_X4_fitting_b2
    rw [gs_ok (by decide), if_pos (by decide)]), Option.bind_some]; rfl
/-- the fault's place, or how many statements -/
def paF (f : Nat → Int32) (n : Nat) : Nat → Nat → Nat ⊕ Nat
  | 0, p => .inl p
  | u + 1, p => if p < n ∧ szL (lT1 f p) ≠ 0 then (if ldT (gdB f n p) 0 (szL (lT1 f p)) < szL (lT1 f p) then .inl (p + 1 + ldT (gdB f n p) 0 (szL (lT1 f p))) else if p + 1 + szL (lT1 f p) < n then (match paF f n u (p + 1 + szL (lT1 f p)) with | .inl q => .inl q | .inr c => .inr (c + 1)) else .inr 1) else .inl p
theorem f4_j1 {f : Nat → Int32} {n : Nat} (h : LT f n) {p : Nat} (hp : p ≤ 96) (st : Int32) {N : Nat} (hN : 100 ≤ N) : f_X4_faultOfForm_j1 N (nI p) (nI n) f st = if p < n ∧ szL (lT1 f p) ≠ 0 then (if ldT (gdB f n p) 0 (szL (lT1 f p)) < szL (lT1 f p) then some (.inr (.inr (nI (p + 1 + ldT (gdB f n p) 0 (szL (lT1 f p))), st))) else some (.inl (nI (p + 1 + szL (lT1 f p)), st + 1))) else some (.inr (.inr (nI p, st))) := by
  have hz := szL_le (lT1 f p)
  have hl := ldT_le (gdB f n p) (szL (lT1 f p)) 0
  unfold f_X4_faultOfForm_j1
  rw [f4_at h (by omega), Option.bind_some, nI_1]
  by_cases z : p < n
  · rw [if_pos z, f4_formOf (h.2 p z).2, Option.bind_some, f4_fitting h hp hN, Option.bind_some, gs_ok (fmS_lt _), gs_ok (fmS_lt _), slI]
    by_cases y : szL (lT1 f p) = 0
    · have : nI (slen (fmS (lT1 f p))) = 0 := by unfold szL at y; rw [y]; rfl
      rw [if_pos this, if_neg (show ¬ (1 : Int32) = 0 by decide), if_neg (show ¬ (p < n ∧ szL (lT1 f p) ≠ 0) from fun q => q.2 y)]
    · have : ¬ nI (slen (fmS (lT1 f p))) = 0 := nI_ne0 (by unfold szL at y; omega) (by unfold szL at hz; omega)
      rw [if_neg this, if_pos (show (0 : Int32) = 0 from rfl), if_pos (show p < n ∧ szL (lT1 f p) ≠ 0 from ⟨z, y⟩)]
      by_cases x : ldT (gdB f n p) 0 (szL (lT1 f p)) < szL (lT1 f p)
      · rw [if_neg (show ¬ nI (slen (fmS (lT1 f p))) ≤ _ from nI_ge x (by have := hz; unfold szL at this; omega)), if_pos x, nI_add]
      · rw [if_pos (show nI (slen (fmS (lT1 f p))) ≤ nI (ldT (gdB f n p) 0 (szL (lT1 f p))) from nI_le (by unfold szL at x ⊢; omega) (by omega)), if_neg x, show (1 : Int32) + nI (ldT (gdB f n p) 0 (szL (lT1 f p))) = nI (1 + ldT (gdB f n p) 0 (szL (lT1 f p))) from nI_add 1 _, nI_add, show p + (1 + ldT (gdB f n p) 0 (szL (lT1 f p))) = p + 1 + szL (lT1 f p) by omega]
  · rw [if_neg z, show f_X4_formOf (-1) = some 4 by decide, Option.bind_some, f4_fittingN hN, Option.bind_some, gs_ok (by decide), if_neg (show ¬ (if Int32.ofNat (slen 4) = 0 then (1 : Int32) else (0 : Int32)) = 0 by decide), if_neg (fun q => z q.1)]
theorem ldT_all {p : Nat → Bool} : ∀ k i, ldT p i k = i + k → ∀ j, i ≤ j → j < i + k → p j = true
  | 0, i, _, j, h1, h2 => absurd h2 (by omega)
  | k + 1, i, h, j, h1, h2 => by
    unfold ldT at h
    by_cases z : p i = true
    · rw [if_pos z] at h
      by_cases e : j = i
      · rw [e]; exact z
      · exact ldT_all k (i + 1) (by omega) j (by omega) (by omega)
    · rw [if_neg z] at h; omega
/-- a statement of right form at p -/
def PV (f : Nat → Int32) (n p : Nat) : Prop := p < n ∧ szL (lT1 f p) ≠ 0 ∧ p + szL (lT1 f p) < n ∧ ∀ k, k < szL (lT1 f p) → fitB (fmS (lT1 f p)) k (lT1 f (p + 1 + k)) = true
theorem PV_of {f : Nat → Int32} {n p : Nat} (hp : p < n) (h0 : szL (lT1 f p) ≠ 0) (h : ¬ ldT (gdB f n p) 0 (szL (lT1 f p)) < szL (lT1 f p)) : PV f n p := by
  have hl := ldT_le (gdB f n p) (szL (lT1 f p)) 0
  have ha := ldT_all (p := gdB f n p) (szL (lT1 f p)) 0 (by omega)
  have g : ∀ k, k < szL (lT1 f p) → p + 1 + k < n ∧ fitB (fmS (lT1 f p)) k (lT1 f (p + 1 + k)) = true := fun k hk => by
    have := ha k (by omega) (by omega)
    unfold gdB at this
    rw [Bool.and_eq_true, decide_eq_true_iff] at this
    exact this
  exact ⟨hp, h0, by have := (g (szL (lT1 f p) - 1) (by omega)).1; omega, fun k hk => (g k hk).2⟩
/-- k statements from p on, up to the end -/
def vF (f : Nat → Int32) (n : Nat) : Nat → Nat → Prop
  | 0, p => p = n
  | k + 1, p => PV f n p ∧ vF f n k (p + 1 + szL (lT1 f p))
theorem paF_v {f : Nat → Int32} {n : Nat} : ∀ u p c, paF f n u p = .inr c → vF f n c p
  | 0, p, c, h => by cases h
  | u + 1, p, c, h => by
    unfold paF at h
    split at h
    · rename_i z
      split at h
      · cases h
      · rename_i y
        have pv := PV_of z.1 z.2 y
        split at h
        · split at h
          · cases h
          · rename_i q hq
            cases h
            exact ⟨pv, paF_v u _ _ hq⟩
        · rename_i x
          cases h
          refine ⟨pv, ?_⟩
          show p + 1 + szL (lT1 f p) = n
          have := pv.2.2.1
          omega
    · cases h
theorem f4_fault {f : Nat → Int32} {n : Nat} (h : LT f n) {N : Nat} (hN : 100 ≤ N) : ∀ u p st M, (st = 0 ∨ p < n) → p ≤ n → st ≤ p → n - p + 1 ≤ u → u < M → ∃ sf, lp (fun s_7 : Int32 × Int32 => f_X4_faultOfForm_b7 N s_7.2 s_7.1 (nI n) f) M (nI p, nI st) = some (.inr (match paF f n u p with | .inl q => (nI q, sf) | .inr c => ((-9 : Int32), nI (st + c)))) := by
  have h96 := h.1
  intro u
  induction u with
  | zero => intro p st M _ _ _ hu _; omega
  | succ u ih =>
    intro p st M hst hp hsp hu hM
    obtain ⟨M, rfl⟩ : ∃ M', M = M' + 1 := ⟨M - 1, by omega⟩
    have body : f_X4_faultOfForm_b7 N (nI st) (nI p) (nI n) f = f_X4_faultOfForm_j1 N (nI p) (nI n) f (nI st) := by
      unfold f_X4_faultOfForm_b7
      rw [if_neg (show ¬ (96 : Int32) ≤ nI st from nI_ge (b := 96) (by omega) (by decide))]
      by_cases z : st = 0
      · rw [z, if_pos (show nI 0 ≤ 0 by decide)]
      · rw [if_neg (nI_nle (by omega) (by omega)), if_pos (nI_lt (by omega) (by omega))]
    rw [f4_j1 h (by omega) (nI st) hN] at body
    unfold paF
    by_cases z : p < n ∧ szL (lT1 f p) ≠ 0
    · rw [if_pos z] at body ⊢
      by_cases y : ldT (gdB f n p) 0 (szL (lT1 f p)) < szL (lT1 f p)
      · rw [if_pos y] at body ⊢
        exact ⟨nI st, lp_r (b := fun s_7 : Int32 × Int32 => f_X4_faultOfForm_b7 N s_7.2 s_7.1 (nI n) f) body⟩
      · have pv := PV_of z.1 z.2 y
        have pl := pv.2.2.1
        rw [if_neg y] at body ⊢
        rw [nI_1] at body
        by_cases x : p + 1 + szL (lT1 f p) < n
        · obtain ⟨sf, e⟩ := ih (p + 1 + szL (lT1 f p)) (st + 1) M (Or.inr x) (by omega) (by omega) (by omega) (by omega)
          refine ⟨sf, (lp_l (b := fun s_7 : Int32 × Int32 => f_X4_faultOfForm_b7 N s_7.2 s_7.1 (nI n) f) body).trans (e.trans ?_)⟩
          rw [if_pos x]
          cases paF f n u (p + 1 + szL (lT1 f p)) with
          | inl q => rfl
          | inr c => dsimp only; rw [show st + 1 + c = st + (c + 1) by omega]
        · rw [if_neg x]
          obtain ⟨M, rfl⟩ : ∃ M', M = M' + 1 := ⟨M - 1, by omega⟩
          refine ⟨0, (lp_l (b := fun s_7 : Int32 × Int32 => f_X4_faultOfForm_b7 N s_7.2 s_7.1 (nI n) f) body).trans (lp_r (b := fun s_7 : Int32 × Int32 => f_X4_faultOfForm_b7 N s_7.2 s_7.1 (nI n) f) ?_)⟩
          show f_X4_faultOfForm_b7 N (nI (st + 1)) (nI (p + 1 + szL (lT1 f p))) (nI n) f = _
          unfold f_X4_faultOfForm_b7
          rw [if_neg (show ¬ (96 : Int32) ≤ nI (st + 1) from nI_ge (b := 96) (by omega) (by decide)), if_neg (nI_nle (by omega) (by omega)), if_neg (nI_nlt (by omega) (by omega))]
    · rw [if_neg z] at body ⊢
      exact ⟨nI st, lp_r (b := fun s_7 : Int32 × Int32 => f_X4_faultOfForm_b7 N s_7.2 s_7.1 (nI n) f) body⟩
