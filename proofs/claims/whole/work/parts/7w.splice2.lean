/-! walks spliced together: streets left, walks, in both -/
def RT (a : Nat → Int32) (T : Nat → Nat) (n : Nat) : Prop := ∀ s, s < n → a s = nI (T s)
theorem RT_set {a : Nat → Int32} {T : Nat → Nat} {n s v : Nat} (h : RT a T n) : RT (upd a s (nI v)) (setT T s v) n := fun i hi => by
  by_cases e : i = s
  · rw [e, pk_us, setT_s]
  · rw [pk_un e, setT_n e]; exact h i hi
def oU (o : Option Nat) : Unit ⊕ Int32 := match o with | none => .inl () | some s => .inr (nI s)
theorem f5_leastLeft {t T : Nat → Nat} {fr to ln kd fg lf : Nat → Int32} {cl sz hm : Int32} (hv : vT t) (hc : cR t fr to ln kd fg cl sz hm) (hT : RT lf T (t 49)) (hs : sT T (t 49) ≤ 24) {c : Nat} (hc6 : c < 6) {N : Nat} (hN : 100 ≤ N) : f_X5_leastLeft N (nI c) lf sz fr to = some (oI (lfS t T c)) := by
  have h8 := hv.1
  have key : ∀ k i M, i + k = t 49 → k < M → lp (fun s_2 => f_X5_leastLeft_b2 sz s_2 lf (nI c) fr to) M (nI i) = some (oU (lfF t T c i k)) := by
    intro k
    induction k with
    | zero =>
      intro i M hi hM
      obtain ⟨M, rfl⟩ : ∃ M', M = M' + 1 := ⟨M - 1, by omega⟩
      apply lp_r
      show f_X5_leastLeft_b2 sz (nI i) lf (nI c) fr to = _
      unfold f_X5_leastLeft_b2
      rw [hc.1, if_pos (nI_le (by omega) (by omega))]; rfl
    | succ k ih =>
      intro i M hi hM
      obtain ⟨M, rfl⟩ : ∃ M', M = M' + 1 := ⟨M - 1, by omega⟩
      have hb := sT_le (T := T) (t 49) i (by omega)
      have body : f_X5_leastLeft_b2 sz (nI i) lf (nI c) fr to = if 0 < T i ∧ tch t c i = true then some (.inr (.inr (nI i))) else some (.inl (nI (i + 1))) := by
        unfold f_X5_leastLeft_b2
        rw [hc.1, if_neg (nI_ge (by omega) (by omega)), ga_ok (by omega) (by decide), nI_clamp (by omega), hT i (by omega), nI_1]
        by_cases z : 0 < T i
        · rw [if_neg (nI_nle z (by omega)), f7_touches hv hc (by omega) hc6, Option.bind_some]
          by_cases y : tch t c i = true
          · rw [if_neg (fun q => b2_0.mp q y), if_pos ⟨z, y⟩]
          · rw [if_pos (b2_0.mpr y), if_neg (fun q => y q.2)]
        · rw [show T i = 0 by omega, if_pos (show nI 0 ≤ 0 by decide), if_neg (fun q => by omega)]
      unfold lfF
      by_cases y : 0 < T i ∧ tch t c i = true
      · rw [if_pos y] at body
        rw [if_pos y]
        exact lp_r body
      · rw [if_neg y] at body
        rw [if_neg y]
        exact (lp_l body).trans (ih (i + 1) M (by omega) (by omega))
  have k0 := key (t 49) 0 N (by omega) (by omega)
  unfold f_X5_leastLeft lfS
  rw [show lp (fun s_2 => f_X5_leastLeft_b2 sz s_2 lf (nI c) fr to) N (0 : Int32) = _ from k0, Option.bind_some]
  cases lfF t T c 0 (t 49) <;> rfl
theorem f10_leftAt {t T : Nat → Nat} {w tm : Nat → Int32} (hv : vT t) (h : mR t w) (hT : RT tm T (t 49)) (hs : sT T (t 49) ≤ 24) {c : Nat} (hc6 : c < 6) {N : Nat} (hN : 100 ≤ N) : f_X10_leftAt N (nI c) tm w = some (oI (lfS t T c)) := by
  have h8 := hv.1
  have key : ∀ k i M, i + k = t 49 → k < M → lp (fun s_2 => f_X10_leftAt_b2 w s_2 tm (nI c)) M (nI i) = some (oU (lfF t T c i k)) := by
    intro k
    induction k with
    | zero =>
      intro i M hi hM
      obtain ⟨M, rfl⟩ : ∃ M', M = M' + 1 := ⟨M - 1, by omega⟩
      apply lp_r
      show f_X10_leftAt_b2 w (nI i) tm (nI c) = _
      unfold f_X10_leftAt_b2
      rw [ga_in (by decide), show w (Int32.toNatClampNeg (49 : Int32)) = nI (t 49) from h.1, if_pos (nI_le (by omega) (by omega))]; rfl
    | succ k ih =>
      intro i M hi hM
      obtain ⟨M, rfl⟩ : ∃ M', M = M' + 1 := ⟨M - 1, by omega⟩
      have hb := sT_le (T := T) (t 49) i (by omega)
      have o := hv.2.2.1 i (by omega)
      have body : f_X10_leftAt_b2 w (nI i) tm (nI c) = if 0 < T i ∧ tch t c i = true then some (.inr (.inr (nI i))) else some (.inl (nI (i + 1))) := by
        have a0 : (0 : Int32) + nI i = nI (8 * 0 + i) := by rw [show 8 * 0 + i = 0 + i by omega]; exact nI_add 0 i
        have a8 : (8 : Int32) + nI i = nI (8 * 1 + i) := nI_add 8 i
        have w0 : w (8 * 0 + i) = nI (t i) := by have := h.2.2 0 (by decide) i (by omega); rw [this]; congr 2; omega
        have w8 : w (8 * 1 + i) = nI (t (8 + i)) := h.2.2 1 (by decide) i (by omega)
        unfold f_X10_leftAt_b2
        rw [ga_in (by decide), show w (Int32.toNatClampNeg (49 : Int32)) = nI (t 49) from h.1, if_neg (nI_ge (by omega) (by omega)), ga_ok (by omega) (by decide), a0, a8, nI_clamp (show i < 2 ^ 31 by omega), nI_clamp (show 8 * 0 + i < 2 ^ 31 by omega), nI_clamp (show 8 * 1 + i < 2 ^ 31 by omega), hT i (by omega), w0, w8, nI_1, ga_ok (by omega) (by decide), ga_ok (by omega) (by decide)]
        unfold tch
        by_cases z : 0 < T i
        · rw [if_neg (nI_nle z (by omega))]
          by_cases y1 : t i = c
          · rw [if_pos (by rw [y1]), if_pos ⟨z, decide_eq_true (Or.inl y1)⟩]
          · rw [if_neg (fun q => y1 ((nI_eq (by omega) (by omega)).mp q))]
            by_cases y2 : t (8 + i) = c
            · rw [if_pos (by rw [y2]), if_pos ⟨z, decide_eq_true (Or.inr y2)⟩]
            · rw [if_neg (fun q => y2 ((nI_eq (by omega) (by omega)).mp q)), if_neg (fun q => by rcases of_decide_eq_true q.2 with u | u; exact y1 u; exact y2 u)]
        · rw [show T i = 0 by omega, if_pos (show nI 0 ≤ 0 by decide), if_neg (fun q => by omega)]
      unfold lfF
      by_cases y : 0 < T i ∧ tch t c i = true
      · rw [if_pos y] at body
        rw [if_pos y]
        exact lp_r body
      · rw [if_neg y] at body
        rw [if_neg y]
        exact (lp_l (b := fun s_2 => f_X10_leftAt_b2 w s_2 tm (nI c)) body).trans (ih (i + 1) M (by omega) (by omega))
  have k0 := key (t 49) 0 N (by omega) (by omega)
  unfold f_X10_leftAt lfS
  rw [show lp (fun s_2 => f_X10_leftAt_b2 w s_2 tm (nI c)) N (0 : Int32) = _ from k0, Option.bind_some]
  cases lfF t T c 0 (t 49) <;> rfl
/-- an array's numbers from m on are a list's -/
def AL (a : Nat → Int32) (m : Nat) (L : List Nat) : Prop := ∀ j, j < L.length → a (m + j) = nI (L.getD j 0)
theorem oI_neg {o : Option Nat} (h : ∀ s, o = some s → s < 2 ^ 31) : oI o < 0 ↔ o = none := by
  cases o with
  | none => exact ⟨fun _ => rfl, fun _ => by decide⟩
  | some s => exact ⟨fun q => absurd q (nI_pos (h s rfl)), fun q => by cases q⟩
theorem f5_walkLoop {t : Nat → Nat} {fr to ln kd fg : Nat → Int32} {cl sz hm : Int32} (hv : vT t) (hc : cR t fr to ln kd fg cl sz hm) {N : Nat} (hN : 100 ≤ N) : ∀ k T c m M (lf pt : Nat → Int32), sT T (t 49) ≤ k → m + sT T (t 49) ≤ 24 → sT T (t 49) < M → c < 6 → RT lf T (t 49) → ∃ lf' pt', lp (fun s_15 : Int32 × Int32 × Int32 × (Nat → Int32) × (Nat → Int32) => f_X5_walk_b15 N s_15.2.1 s_15.2.2.1 s_15.2.2.2.1 s_15.2.2.2.2 s_15.1 fr to sz) M (nI c, oI (lfS t T c), nI m, lf, pt) = some (nI (m + (wkF t k T c).1.length), lf', pt') ∧ RT lf' (wkF t k T c).2 (t 49) ∧ (∀ j, j < m → pt' j = pt j) ∧ AL pt' m (wkF t k T c).1 := by
  have h8 := hv.1
  have ex : ∀ k T c m M (lf pt : Nat → Int32), 0 < M → lfS t T c = none → RT lf T (t 49) → ∃ lf' pt', lp (fun s_15 : Int32 × Int32 × Int32 × (Nat → Int32) × (Nat → Int32) => f_X5_walk_b15 N s_15.2.1 s_15.2.2.1 s_15.2.2.2.1 s_15.2.2.2.2 s_15.1 fr to sz) M (nI c, oI (lfS t T c), nI m, lf, pt) = some (nI (m + (wkF t k T c).1.length), lf', pt') ∧ RT lf' (wkF t k T c).2 (t 49) ∧ (∀ j, j < m → pt' j = pt j) ∧ AL pt' m (wkF t k T c).1 := fun k T c m M lf pt hM q hT => by
    obtain ⟨M, rfl⟩ : ∃ M', M = M' + 1 := ⟨M - 1, by omega⟩
    rw [wkF_none q, q]
    refine ⟨lf, pt, lp_r ?_, hT, fun _ _ => rfl, fun j hj => absurd hj (by simp)⟩
    show f_X5_walk_b15 N (-9 : Int32) (nI m) lf pt (nI c) fr to sz = _
    unfold f_X5_walk_b15
    rw [if_pos (by decide)]; rfl
  intro k
  induction k with
  | zero =>
    intro T c m M lf pt hk hm hM hc6 hT
    refine ex 0 T c m M lf pt (by omega) ?_ hT
    cases q : lfS t T c with
    | none => rfl
    | some s =>
      obtain ⟨a1, a2, a3⟩ := lfS_ok q
      have := sT_le (T := T) (t 49) s a1
      omega
  | succ k ih =>
    intro T c m M lf pt hk hm hM hc6 hT
    cases q : lfS t T c with
    | none =>
      have := ex (k + 1) T c m M lf pt (by omega) q hT
      rw [q] at this
      exact this
    | some s =>
      obtain ⟨a1, a2, a3⟩ := lfS_ok q
      have d := sT_dc a1 a2
      have hb := sT_le (T := T) (t 49) s a1
      obtain ⟨M, rfl⟩ : ∃ M', M = M' + 1 := ⟨M - 1, by omega⟩
      have hfr : ∀ s, s < t 49 → fr s = nI (t s) := fun s h => (hc.2.2.2 s h).1
      have hto : ∀ s, s < t 49 → to s = nI (t (8 + s)) := fun s h => (hc.2.2.2 s h).2.1
      have hT' : RT (upd lf s (nI (T s - 1))) (dcT T s) (t 49) := RT_set hT
      have o6 := oeT_lt hv a1 c
      obtain ⟨lf', pt', i1, i2, i3, i4⟩ := ih (dcT T s) (oeT t c s) (m + 1) M (upd lf s (nI (T s - 1))) (upd pt m (nI (oeT t c s))) (by omega) (by omega) (by omega) o6 hT'
      rw [wkF_some q]
      refine ⟨lf', pt', (lp_l ?_).trans (i1.trans ?_), i2, fun j hj => ?_, fun j hj => ?_⟩
      · show f_X5_walk_b15 N (nI s) (nI m) lf pt (nI c) fr to sz = _
        unfold f_X5_walk_b15
        rw [if_neg (nI_pos (by omega)), if_neg (show ¬ (32 : Int32) ≤ nI m from nI_ge (b := 32) (by omega) (by decide)), ga_ok (by omega) (by decide), ga_ok (by omega) (by decide), f7_otherEnd hv hfr hto a1 hc6, Option.bind_some, ga_ok (by omega) (by decide), nI_clamp (show s < 2 ^ 31 by omega), nI_clamp (show m < 2 ^ 31 by omega), hT s a1, show nI (T s) - (1 : Int32) = nI (T s - 1) from pk_sub (b := 1) (by omega)]
        show (f_X5_leastLeft N (nI (oeT t c s)) (upd lf s (nI (T s - 1))) sz fr to).bind _ = _
        rw [f5_leastLeft hv hc hT' (by omega) o6 hN, Option.bind_some, nI_1]; rfl
      · congr 2
        rw [List.length_cons]
        congr 1
        omega
      · rw [i3 j (by omega), pk_un (by omega)]
      · rw [List.length_cons] at hj
        cases j with
        | zero => rw [Nat.add_zero, i3 m (by omega), pk_us]; rfl
        | succ j =>
          have := i4 j (by omega)
          rw [show m + (j + 1) = m + 1 + j by omega, this]; rfl
theorem f5_walk {t : Nat → Nat} {fr to ln kd fg : Nat → Int32} {cl sz hm ps : Int32} (hv : vT t) (hc : cR t fr to ln kd fg cl sz hm) {T : Nat → Nat} {c : Nat} {lf pt : Nat → Int32} (hs : sT T (t 49) ≤ 24) (hc6 : c < 6) (hT : RT lf T (t 49)) {N : Nat} (hN : 100 ≤ N) : ∃ lf' pt', f_X5_walk N (nI c) ps lf pt sz fr to = some (nI (wkF t 24 T c).1.length, lf', pt') ∧ RT lf' (wkF t 24 T c).2 (t 49) ∧ AL pt' 0 (wkF t 24 T c).1 := by
  obtain ⟨lf', pt', e1, e2, e3, e4⟩ := f5_walkLoop hv hc hN 24 T c 0 N lf pt hs (by omega) (by omega) hc6 hT
  refine ⟨lf', pt', ?_, e2, e4⟩
  unfold f_X5_walk
  rw [f5_leastLeft hv hc hT hs hc6 hN, Option.bind_some]
  rw [Nat.zero_add] at e1
  exact (congrArg (fun o => Option.bind o _) e1).trans rfl
theorem f10_walkLoop {t : Nat → Nat} {w : Nat → Int32} (hv : vT t) (h : mR t w) {N : Nat} (hN : 100 ≤ N) : ∀ k T c m M (lf pt : Nat → Int32), sT T (t 49) ≤ k → m + sT T (t 49) ≤ 24 → sT T (t 49) < M → c < 6 → RT lf T (t 49) → ∃ lf' pt', lp (fun s_19 : Int32 × Int32 × Int32 × (Nat → Int32) × (Nat → Int32) => f_X10_putsIn_b19 N s_19.2.2.1 s_19.1 s_19.2.2.2.1 s_19.2.2.2.2 w s_19.2.1) M (nI m, nI c, oI (lfS t T c), lf, pt) = some (nI (m + (wkF t k T c).1.length), lf', pt') ∧ RT lf' (wkF t k T c).2 (t 49) ∧ (∀ j, j < m → pt' j = pt j) ∧ AL pt' m (wkF t k T c).1 := by
  have h8 := hv.1
  have ex : ∀ k T c m M (lf pt : Nat → Int32), 0 < M → lfS t T c = none → RT lf T (t 49) → ∃ lf' pt', lp (fun s_19 : Int32 × Int32 × Int32 × (Nat → Int32) × (Nat → Int32) => f_X10_putsIn_b19 N s_19.2.2.1 s_19.1 s_19.2.2.2.1 s_19.2.2.2.2 w s_19.2.1) M (nI m, nI c, oI (lfS t T c), lf, pt) = some (nI (m + (wkF t k T c).1.length), lf', pt') ∧ RT lf' (wkF t k T c).2 (t 49) ∧ (∀ j, j < m → pt' j = pt j) ∧ AL pt' m (wkF t k T c).1 := fun k T c m M lf pt hM q hT => by
    obtain ⟨M, rfl⟩ : ∃ M', M = M' + 1 := ⟨M - 1, by omega⟩
    rw [wkF_none q, q]
    refine ⟨lf, pt, lp_r ?_, hT, fun _ _ => rfl, fun j hj => absurd hj (by simp)⟩
    show f_X10_putsIn_b19 N (-9 : Int32) (nI m) lf pt w (nI c) = _
    unfold f_X10_putsIn_b19
    rw [if_pos (by decide)]; rfl
  intro k
  induction k with
  | zero =>
    intro T c m M lf pt hk hm hM hc6 hT
    refine ex 0 T c m M lf pt (by omega) ?_ hT
    cases q : lfS t T c with
    | none => rfl
    | some s =>
      obtain ⟨a1, a2, a3⟩ := lfS_ok q
      have := sT_le (T := T) (t 49) s a1
      omega
  | succ k ih =>
    intro T c m M lf pt hk hm hM hc6 hT
    cases q : lfS t T c with
    | none =>
      have := ex (k + 1) T c m M lf pt (by omega) q hT
      rw [q] at this
      exact this
    | some s =>
      obtain ⟨a1, a2, a3⟩ := lfS_ok q
      have d := sT_dc a1 a2
      have hb := sT_le (T := T) (t 49) s a1
      have o := hv.2.2.1 s a1
      obtain ⟨M, rfl⟩ : ∃ M', M = M' + 1 := ⟨M - 1, by omega⟩
      have hT' : RT (upd lf s (nI (T s - 1))) (dcT T s) (t 49) := RT_set hT
      have o6 := oeT_lt hv a1 c
      have b0 : (0 : Int32) + nI s = nI (8 * 0 + s) := by rw [show 8 * 0 + s = 0 + s by omega]; exact nI_add 0 s
      have b8 : (8 : Int32) + nI s = nI (8 * 1 + s) := nI_add 8 s
      have w0 : w (8 * 0 + s) = nI (t s) := by have := h.2.2 0 (by decide) s a1; rw [this]; congr 2; omega
      have w8 : w (8 * 1 + s) = nI (t (8 + s)) := h.2.2 1 (by decide) s a1
      have oe : nI (t s) + nI (t (8 + s)) - nI c = nI (oeT t c s) := by
        have hor := of_decide_eq_true a3
        rw [nI_add, pk_sub (by omega)]
        congr 1
        unfold oeT
        by_cases z : t s = c
        · rw [if_pos z]; omega
        · rw [if_neg z]; omega
      obtain ⟨lf', pt', i1, i2, i3, i4⟩ := ih (dcT T s) (oeT t c s) (m + 1) M (upd lf s (nI (T s - 1))) (upd pt m (nI (oeT t c s))) (by omega) (by omega) (by omega) o6 hT'
      rw [wkF_some q]
      refine ⟨lf', pt', (lp_l ?_).trans (i1.trans ?_), i2, fun j hj => ?_, fun j hj => ?_⟩
      · show f_X10_putsIn_b19 N (nI s) (nI m) lf pt w (nI c) = _
        unfold f_X10_putsIn_b19
        rw [if_neg (nI_pos (by omega)), ga_ok (by omega) (by decide), ga_ok (by omega) (by decide), b0, b8, ga_ok (by omega) (by decide), ga_ok (by omega) (by decide), ga_ok (by omega) (by decide), nI_clamp (show s < 2 ^ 31 by omega), nI_clamp (show m < 2 ^ 31 by omega), nI_clamp (show 8 * 0 + s < 2 ^ 31 by omega), nI_clamp (show 8 * 1 + s < 2 ^ 31 by omega), w0, w8, oe, hT s a1, show nI (T s) - (1 : Int32) = nI (T s - 1) from pk_sub (b := 1) (by omega), f10_leftAt hv h hT' (by omega) o6 hN, Option.bind_some, nI_1]
      · congr 2
        rw [List.length_cons]
        congr 1
        omega
      · rw [i3 j (by omega), pk_un (by omega)]
      · rw [List.length_cons] at hj
        cases j with
        | zero => rw [Nat.add_zero, i3 m (by omega), pk_us]; rfl
        | succ j =>
          have := i4 j (by omega)
          rw [show m + (j + 1) = m + 1 + j by omega, this]; rfl
