/-! walks spliced together: a piece put in, the next place -/
theorem gcp_ok {α : Type} {a b n n0 n1 : Nat} {X : Option α} (h0 : a + n ≤ n0) (h1 : b + n ≤ n1) (h2 : n0 < 2 ^ 31) (h3 : n1 < 2 ^ 31) : gcp (nI a) (nI b) (nI n) n0 n1 X = X := by
  unfold gcp
  rw [nI_toInt (by omega), nI_toInt (by omega), nI_toInt (by omega), nI_clamp (by omega), nI_clamp (by omega), nI_clamp (by omega)]
  exact if_pos ⟨⟨by omega, by omega, by omega⟩, h0, h1⟩
theorem f5_putIn {L p : List Nat} {pt co : Nat → Int32} (hL : AL co 0 L) (hp : AL pt 0 p) {i : Nat} (hi : i < L.length) (h : L.length + p.length ≤ 25) : ∃ co', f_X5_putIn (nI i) (nI p.length) (nI L.length) pt co = some (nI (insL L i p).length, co') ∧ AL co' 0 (insL L i p) := by
  have e1 : nI i + (1 : Int32) = nI (i + 1) := nI_1 i
  have e2 : nI (i + 1) + nI p.length = nI (i + 1 + p.length) := nI_add _ _
  have e3 : nI L.length - nI i - (1 : Int32) = nI (L.length - i - 1) := by
    rw [pk_sub (by omega)]
    exact pk_sub (b := 1) (by omega)
  refine ⟨va_cpy pt (va_cpy co co (i + 1) (i + 1 + p.length) (L.length - i - 1)) 0 (i + 1) p.length, ?_, fun j hj => ?_⟩
  · unfold f_X5_putIn
    rw [nI_add, if_pos (show nI (L.length + p.length) ≤ (32 : Int32) from nI_le (b := 32) (by omega) (by decide)), e1, e2, e3, gcp_ok (by omega) (by omega) (by decide) (by decide), show (0 : Int32) = nI 0 from rfl, gcp_ok (by omega) (by omega) (by decide) (by decide), nI_clamp (show i + 1 < 2 ^ 31 by omega), nI_clamp (show i + 1 + p.length < 2 ^ 31 by omega), nI_clamp (show L.length - i - 1 < 2 ^ 31 by omega), nI_clamp (show 0 < 2 ^ 31 by omega), nI_clamp (show p.length < 2 ^ 31 by omega), insL_len hi]
  · rw [insL_len hi] at hj
    rw [Nat.zero_add, insL_get hi]
    have hLj : ∀ q, q < L.length → co q = nI (L.getD q 0) := fun q hq => by have := hL q hq; rw [Nat.zero_add] at this; exact this
    have hpj : ∀ q, q < p.length → pt q = nI (p.getD q 0) := fun q hq => by have := hp q hq; rw [Nat.zero_add] at this; exact this
    by_cases a : j ≤ i
    · rw [if_pos a, pk_cpy_out (Or.inl (by omega)), pk_cpy_out (Or.inl (by omega))]
      exact hLj j (by omega)
    · rw [if_neg a]
      by_cases b : j ≤ i + p.length
      · rw [if_pos b, pk_cpy_in (by omega) (by omega), Nat.zero_add]
        exact hpj _ (by omega)
      · rw [if_neg b, pk_cpy_out (Or.inr (by omega)), pk_cpy_in (by omega) (by omega), show i + 1 + (j - (i + 1 + p.length)) = j - p.length by omega]
        exact hLj _ (by omega)
theorem f5_firstLeft {t T : Nat → Nat} {fr to ln kd fg lf co : Nat → Int32} {cl sz hm : Int32} (hv : vT t) (hc : cR t fr to ln kd fg cl sz hm) (hT : RT lf T (t 49)) (hs : sT T (t 49) ≤ 24) {L : List Nat} (hL : AL co 0 L) (h25 : L.length ≤ 25) (h6 : ∀ x, x ∈ L → x < 6) {N : Nat} (hN : 100 ≤ N) : f_X5_firstLeft N (nI L.length) lf co sz fr to = some (oI (fiS t T L)) := by
  have key : ∀ k i M, i + k = L.length → k < M → lp (fun s_2 => f_X5_firstLeft_b2 N (nI L.length) s_2 co lf sz fr to) M (nI i) = some (oU (fiF t T L i k)) := by
    intro k
    induction k with
    | zero =>
      intro i M hi hM
      obtain ⟨M, rfl⟩ : ∃ M', M = M' + 1 := ⟨M - 1, by omega⟩
      apply lp_r
      show f_X5_firstLeft_b2 N (nI L.length) (nI i) co lf sz fr to = _
      unfold f_X5_firstLeft_b2
      rw [if_pos (nI_le (by omega) (by omega))]; rfl
    | succ k ih =>
      intro i M hi hM
      obtain ⟨M, rfl⟩ : ∃ M', M = M' + 1 := ⟨M - 1, by omega⟩
      have ci : co i = nI (L.getD i 0) := by have := hL i (by omega); rw [Nat.zero_add] at this; exact this
      have c6 : L.getD i 0 < 6 := by
        rw [List.getD_eq_getElem?_getD, List.getElem?_eq_getElem (by omega)]
        exact h6 _ (List.getElem_mem (by omega))
      have body : f_X5_firstLeft_b2 N (nI L.length) (nI i) co lf sz fr to = if (lfS t T (L.getD i 0)).isSome then some (.inr (.inr (nI i))) else some (.inl (nI (i + 1))) := by
        unfold f_X5_firstLeft_b2
        rw [if_neg (nI_ge (by omega) (by omega)), ga_ok (by omega) (by decide), nI_clamp (by omega), ci, f5_leastLeft hv hc hT hs c6 hN, Option.bind_some, nI_1]
        cases q : lfS t T (L.getD i 0) with
        | none => rw [if_pos (show oI none < 0 by decide)]; rfl
        | some s =>
          have := (lfS_ok q).1
          have h8 := hv.1
          rw [if_neg (show ¬ oI (some s) < 0 from nI_pos (by omega))]; rfl
      unfold fiF
      by_cases y : (lfS t T (L.getD i 0)).isSome = true
      · rw [if_pos y] at body
        rw [if_pos y]
        exact lp_r (b := fun s_2 => f_X5_firstLeft_b2 N (nI L.length) s_2 co lf sz fr to) body
      · rw [if_neg y] at body
        rw [if_neg y]
        exact (lp_l (b := fun s_2 => f_X5_firstLeft_b2 N (nI L.length) s_2 co lf sz fr to) body).trans (ih (i + 1) M (by omega) (by omega))
  have k0 := key L.length 0 N (by omega) (by omega)
  unfold f_X5_firstLeft fiS
  rw [show lp (fun s_2 => f_X5_firstLeft_b2 N (nI L.length) s_2 co lf sz fr to) N (0 : Int32) = _ from k0, Option.bind_some]
  cases fiF t T L 0 L.length <;> rfl
theorem insL_mem {L p : List Nat} {i : Nat} (h6 : ∀ x, x ∈ L → x < 6) (hp : ∀ x, x ∈ p → x < 6) : ∀ x, x ∈ insL L i p → x < 6 := fun x hx => by
  have hx' : x ∈ L.take (i + 1) ++ (p ++ L.drop (i + 1)) := hx
  rcases List.mem_append.mp hx' with w | w
  · exact h6 x (List.mem_of_mem_take w)
  · rcases List.mem_append.mp w with w | w
    · exact hp x w
    · exact h6 x (List.mem_of_mem_drop w)
theorem getD_6 {L : List Nat} {i : Nat} (h6 : ∀ x, x ∈ L → x < 6) (hi : i < L.length) : L.getD i 0 < 6 := by
  rw [List.getD_eq_getElem?_getD, List.getElem?_eq_getElem hi]
  exact h6 _ (List.getElem_mem hi)
/-- a turn of the class's loop -/
theorem f5_turn {t T : Nat → Nat} {fr to ln kd fg lf pt co : Nat → Int32} {cl sz hm ps : Int32} (hv : vT t) (hc : cR t fr to ln kd fg cl sz hm) (hT : RT lf T (t 49)) {L : List Nat} (hL : AL co 0 L) (h24 : L.length + sT T (t 49) ≤ 25) (h6 : ∀ x, x ∈ L → x < 6) {i m : Nat} (hi : i < L.length) (hm : m < 32) {N : Nat} (hN : 100 ≤ N) : ∃ ps' lf' pt' co', f_X5_seek_b29 N (nI m) ps (nI L.length) lf pt co (nI i) sz fr to = some (.inl (oI (fiS t (wkF t 24 T (L.getD i 0)).2 (insL L i (wkF t 24 T (L.getD i 0)).1)), nI (m + 1), ps', nI (insL L i (wkF t 24 T (L.getD i 0)).1).length, lf', pt', co')) ∧ RT lf' (wkF t 24 T (L.getD i 0)).2 (t 49) ∧ AL co' 0 (insL L i (wkF t 24 T (L.getD i 0)).1) := by
  have c6 := getD_6 h6 hi
  have ci : co i = nI (L.getD i 0) := by have := hL i hi; rw [Nat.zero_add] at this; exact this
  obtain ⟨w1, w2⟩ := wkF_ok hv 24 T (L.getD i 0) (by omega)
  obtain ⟨lf', pt', e1, e2, e3⟩ := f5_walk (ps := ps) (pt := pt) hv hc (show sT T (t 49) ≤ 24 by omega) c6 hT hN
  obtain ⟨co', e4, e5⟩ := f5_putIn hL e3 hi (by omega)
  have e6 := f5_firstLeft hv hc e2 (by omega) e5 (by rw [insL_len hi]; omega) (insL_mem h6 w2) hN
  refine ⟨nI (wkF t 24 T (L.getD i 0)).1.length, lf', pt', co', ?_, e2, e5⟩
  unfold f_X5_seek_b29
  rw [if_neg (show ¬ (32 : Int32) ≤ nI m from nI_ge (b := 32) hm (by decide)), if_neg (nI_pos (by omega)), ga_ok (by omega) (by decide), nI_clamp (by omega), ci, e1, Option.bind_some]
  dsimp only
  rw [e4, Option.bind_some]
  dsimp only
  rw [e6, Option.bind_some, nI_1]
theorem f5_turns {t : Nat → Nat} {fr to ln kd fg : Nat → Int32} {cl sz hm : Int32} (hv : vT t) (hc : cR t fr to ln kd fg cl sz hm) {N : Nat} (hN : 100 ≤ N) : ∀ k T L m M (ps : Int32) (lf pt co : Nat → Int32), sT T (t 49) ≤ k → L.length + sT T (t 49) ≤ 25 → m + sT T (t 49) < 32 → sT T (t 49) < M → (∀ x, x ∈ L → x < 6) → RT lf T (t 49) → AL co 0 L → ∃ ps' lf' pt' co', lp (fun s_29 : Int32 × Int32 × Int32 × Int32 × (Nat → Int32) × (Nat → Int32) × (Nat → Int32) => f_X5_seek_b29 N s_29.2.1 s_29.2.2.1 s_29.2.2.2.1 s_29.2.2.2.2.1 s_29.2.2.2.2.2.1 s_29.2.2.2.2.2.2 s_29.1 sz fr to) M (oI (fiS t T L), nI m, ps, nI L.length, lf, pt, co) = some (ps', nI (spF t k T L).length, lf', pt', co') ∧ AL co' 0 (spF t k T L) := by
  have ex : ∀ k T L m M (ps : Int32) (lf pt co : Nat → Int32), 0 < M → m < 32 → fiS t T L = none → AL co 0 L → ∃ ps' lf' pt' co', lp (fun s_29 : Int32 × Int32 × Int32 × Int32 × (Nat → Int32) × (Nat → Int32) × (Nat → Int32) => f_X5_seek_b29 N s_29.2.1 s_29.2.2.1 s_29.2.2.2.1 s_29.2.2.2.2.1 s_29.2.2.2.2.2.1 s_29.2.2.2.2.2.2 s_29.1 sz fr to) M (oI (fiS t T L), nI m, ps, nI L.length, lf, pt, co) = some (ps', nI (spF t k T L).length, lf', pt', co') ∧ AL co' 0 (spF t k T L) := fun k T L m M ps lf pt co hM hm q hL => by
    obtain ⟨M, rfl⟩ : ∃ M', M = M' + 1 := ⟨M - 1, by omega⟩
    rw [spF_none q, q]
    refine ⟨ps, lf, pt, co, lp_r ?_, hL⟩
    show f_X5_seek_b29 N (nI m) ps (nI L.length) lf pt co (-9 : Int32) sz fr to = _
    unfold f_X5_seek_b29
    rw [if_neg (show ¬ (32 : Int32) ≤ nI m from nI_ge (b := 32) hm (by decide)), if_pos (by decide)]
  intro k
  induction k with
  | zero =>
    intro T L m M ps lf pt co hk h25 hm hM h6 hT hL
    refine ex 0 T L m M ps lf pt co (by omega) (by omega) ?_ hL
    cases q : fiS t T L with
    | none => rfl
    | some i =>
      have := fi_walk hv q (by omega)
      omega
  | succ k ih =>
    intro T L m M ps lf pt co hk h25 hm hM h6 hT hL
    cases q : fiS t T L with
    | none =>
      have := ex (k + 1) T L m M ps lf pt co (by omega) (by omega) q hL
      rw [q] at this
      exact this
    | some i =>
      have ff := fiF_ok t T L _ _ i q
      obtain ⟨a, b, c⟩ := fi_walk hv q (by omega)
      obtain ⟨M, rfl⟩ : ∃ M', M = M' + 1 := ⟨M - 1, by omega⟩
      obtain ⟨ps', lf', pt', co', t1, t2, t3⟩ := f5_turn (ps := ps) (pt := pt) hv hc hT hL h25 h6 a (show m < 32 by omega) hN
      obtain ⟨ps2, lf2, pt2, co2, r1, r2⟩ := ih (wkF t 24 T (L.getD i 0)).2 (insL L i (wkF t 24 T (L.getD i 0)).1) (m + 1) M ps' lf' pt' co' (by omega) (by rw [insL_len a]; omega) (by omega) (by omega) (insL_mem h6 (wkF_ok hv 24 T _ (by omega)).2) t2 t3
      rw [spF_some q]
      exact ⟨ps2, lf2, pt2, co2, (lp_l (b := fun s_29 : Int32 × Int32 × Int32 × Int32 × (Nat → Int32) × (Nat → Int32) × (Nat → Int32) => f_X5_seek_b29 N s_29.2.1 s_29.2.2.1 s_29.2.2.2.1 s_29.2.2.2.2.1 s_29.2.2.2.2.2.1 s_29.2.2.2.2.2.2 s_29.1 sz fr to) t1).trans r1, r2⟩
/-- the class's loop from its start -/
theorem f5_start {t T : Nat → Nat} {fr to ln kd fg lf pt co : Nat → Int32} {cl sz hm ps : Int32} (hv : vT t) (hc : cR t fr to ln kd fg cl sz hm) (hT : RT lf T (t 49)) (hs : sT T (t 49) ≤ 23) {h : Nat} (hh : h < 6) (hco : co 0 = nI h) {N : Nat} (hN : 1000 ≤ N) : ∃ ps' lf' pt' co', lp (fun s_29 : Int32 × Int32 × Int32 × Int32 × (Nat → Int32) × (Nat → Int32) × (Nat → Int32) => f_X5_seek_b29 N s_29.2.1 s_29.2.2.1 s_29.2.2.2.1 s_29.2.2.2.2.1 s_29.2.2.2.2.2.1 s_29.2.2.2.2.2.2 s_29.1 sz fr to) N ((0 : Int32), (0 : Int32), ps, (1 : Int32), lf, pt, co) = some (ps', nI (spF t 24 T [h]).length, lf', pt', co') ∧ AL co' 0 (spF t 24 T [h]) := by
  have hL : AL co 0 [h] := fun j hj => by
    have : j = 0 := by simp at hj; exact hj
    subst this
    exact hco
  have h6 : ∀ x, x ∈ [h] → x < 6 := fun x hx => by rw [List.mem_singleton.mp hx]; exact hh
  cases q : fiS t T [h] with
  | some i =>
    obtain ⟨a, b, c⟩ := fi_walk hv q (by omega)
    have i0 : i = 0 := by simp at a; exact a
    subst i0
    have := f5_turns hv hc (show 100 ≤ N by omega) 24 T [h] 0 N ps lf pt co (by omega) (by show 1 + _ ≤ _; omega) (by omega) (by omega) h6 hT hL
    rw [q] at this
    exact this
  | none =>
    obtain ⟨M, rfl⟩ : ∃ M', N = M' + 1 := ⟨N - 1, by omega⟩
    have ln : lfS t T h = none := by
      cases w : lfS t T h with
      | none => rfl
      | some s =>
        have : fiS t T [h] = some 0 := by
          show (if (lfS t T h).isSome then some 0 else none) = some 0
          rw [w]; rfl
        rw [this] at q; cases q
    have wn : wkF t 24 T ([h].getD 0 0) = ([], T) := wkF_none ln
    have il : insL [h] 0 [] = [h] := rfl
    obtain ⟨ps', lf', pt', co', t1, t2, t3⟩ := f5_turn (ps := ps) (pt := pt) (m := 0) hv hc hT hL (by show 1 + _ ≤ _; omega) h6 (show 0 < [h].length from Nat.one_pos) (by decide) (show 100 ≤ M + 1 by omega)
    rw [wn] at t1 t2 t3
    rw [il] at t1 t3
    have := f5_turns hv hc (show 100 ≤ M + 1 by omega) 24 T [h] 1 M ps' lf' pt' co' (by omega) (by show 1 + _ ≤ _; omega) (by omega) (by omega) h6 t2 t3
    obtain ⟨ps2, lf2, pt2, co2, r1, r2⟩ := this
    exact ⟨ps2, lf2, pt2, co2, (lp_l (b := fun s_29 : Int32 × Int32 × Int32 × Int32 × (Nat → Int32) × (Nat → Int32) × (Nat → Int32) => f_X5_seek_b29 (M + 1) s_29.2.1 s_29.2.2.1 s_29.2.2.2.1 s_29.2.2.2.2.1 s_29.2.2.2.2.2.1 s_29.2.2.2.2.2.2 s_29.1 sz fr to) t1).trans r1, r2⟩
