/-! letters that tell a map: the model's search for a fault -/
def kchB (c k : Nat) : Bool := !decide (k < szL c) || (if k + 1 = szL c then decide (kch (fmS c) k = 59) else if c = 104 ∨ (c = 115 ∧ k + 1 < 3) then decide (kch (fmS c) k = 99) else decide (kch (fmS c) k = 100))
theorem kchB_ok : ∀ c, c < 256 → ∀ k, k < 5 → kchB c k = true := by decide +kernel
theorem kchT (c : Nat) (hc : c < 256) (k : Nat) (hk : k < 5) (hs : k < szL c) : (k + 1 = szL c → kch (fmS c) k = 59) ∧ (k + 1 ≠ szL c → (c = 104 ∨ (c = 115 ∧ k + 1 < 3)) → kch (fmS c) k = 99) ∧ (k + 1 ≠ szL c → ¬ (c = 104 ∨ (c = 115 ∧ k + 1 < 3)) → kch (fmS c) k = 100) := by
  have h := kchB_ok c hc k hk
  unfold kchB at h
  rw [decide_eq_true hs, Bool.not_true, Bool.false_or] at h
  refine ⟨fun a => ?_, fun a b => ?_, fun a b => ?_⟩
  · rw [if_pos a] at h; exact of_decide_eq_true h
  · rw [if_neg a, if_pos b] at h; exact of_decide_eq_true h
  · rw [if_neg a, if_neg b] at h; exact of_decide_eq_true h
theorem in_rng {v a b : Nat} (hv : v < 256) {x y : Int64} (hx : x.toInt = a) (hy : y.toInt = b) : f_X10_in (Int32.toInt64 (nI v)) x y = some (b2 (decide (a ≤ v ∧ v ≤ b) = true)) := in_neg (by
  rw [t64, nI_toInt (by omega), hx, hy, decide_eq_true_iff]
  omega)
theorem f10_fits0 {f : Nat → Int32} {n : Nat} (h : LT f n) {p : Nat} (hp : p < n) : f_X10_fits (nI p) (0 : Int32) f = some (b2 (szL (lT1 f p) ≠ 0)) := by
  have h96 := h.1
  have hz := szL_le (lT1 f p)
  unfold f_X10_fits
  rw [ga_ok (by omega) (by decide), nI_clamp (by omega), (h.2 p hp).1, f10_sizeOf (h.2 p hp).2, Option.bind_some, if_pos rfl]
  have e : (if nI (szL (lT1 f p)) ≤ 0 then (0 : Int32) else (1 : Int32)) = b2 (szL (lT1 f p) ≠ 0) := by
    unfold b2
    by_cases z : szL (lT1 f p) = 0
    · rw [z, if_pos (by decide), if_neg (by omega)]
    · rw [if_neg (nI_nle (by omega) (by omega)), if_pos z]
  rw [e, gb_b2]
theorem f10_fitsS {f : Nat → Int32} {n : Nat} (h : LT f n) {p k : Nat} (hp : p + 1 + k < n) (hk : k < szL (lT1 f p)) : f_X10_fits (nI p) (nI (k + 1)) f = some (b2 (fitB (fmS (lT1 f p)) k (lT1 f (p + 1 + k)) = true)) := by
  have h96 := h.1
  have hz := szL_le (lT1 f p)
  have hc := (h.2 p (by omega)).2
  have hv := (h.2 _ hp).2
  obtain ⟨t1, t2, t3⟩ := kchT _ hc k (by omega) hk
  unfold f_X10_fits
  rw [ga_ok (by omega) (by decide), nI_clamp (show p < 2 ^ 31 by omega), (h.2 p (by omega)).1, f10_sizeOf hc, Option.bind_some, if_neg (nI_ne0 (by omega) (by omega)), nI_add, ga_ok (by omega) (by decide), nI_clamp (by omega), show p + (k + 1) = p + 1 + k by omega, (h.2 _ hp).1]
  by_cases z : k + 1 = szL (lT1 f p)
  · have e59 := t1 z
    rw [if_pos (by rw [z])]
    have e : (if nI (lT1 f (p + 1 + k)) = 59 then (1 : Int32) else (0 : Int32)) = b2 (fitB (fmS (lT1 f p)) k (lT1 f (p + 1 + k)) = true) := by
      unfold fitB b2
      rw [e59, if_neg (show ¬ (59 : Int32) = 99 by decide), if_neg (show ¬ (59 : Int32) = 100 by decide)]
      by_cases y : nI (lT1 f (p + 1 + k)) = 59
      · rw [if_pos y, if_pos (decide_eq_true y)]
      · rw [if_neg y, if_neg (by rw [decide_eq_true_iff]; exact y)]
    rw [e, gb_b2]
  · rw [if_neg (fun q => z ((nI_eq (by omega) (by omega)).mp q)), ga_ok (by omega) (by decide)]
    have hm : ((if nI (lT1 f p) = 104 then some (1 : Int32) else ga (nI p) 96 ((if nI (lT1 f p) = 115 then (if (3 : Int32) ≤ nI (k + 1) then some (0 : Int32) else some (1 : Int32)) else some (0 : Int32)))) : Option Int32) = some (b2 (lT1 f p = 104 ∨ (lT1 f p = 115 ∧ k + 1 < 3))) := by
      rw [ga_ok (by omega) (by decide)]
      unfold b2
      by_cases a : lT1 f p = 104
      · rw [if_pos (by rw [a]; rfl), if_pos (Or.inl a)]
      · rw [if_neg (fun q => a ((nIlit hc (b := 104) (x := 104) (by decide) rfl).mp q))]
        by_cases b : lT1 f p = 115
        · rw [if_pos (by rw [b]; rfl)]
          by_cases d : k + 1 < 3
          · rw [if_neg (show ¬ (3 : Int32) ≤ nI (k + 1) from nI_ge (b := 3) d (by decide)), if_pos (Or.inr ⟨b, d⟩)]
          · rw [if_pos (show (3 : Int32) ≤ nI (k + 1) from nI_le (a := 3) (by omega) (by omega)), if_neg (fun q => by omega)]
        · rw [if_neg (fun q => b ((nIlit hc (b := 115) (x := 115) (by decide) rfl).mp q)), if_neg (fun q => by omega)]
    rw [hm, Option.bind_some]
    unfold fitB
    by_cases y : lT1 f p = 104 ∨ (lT1 f p = 115 ∧ k + 1 < 3)
    · rw [if_neg (fun q => b2_0.mp q y), in_rng hv (a := 97) (b := 122) rfl rfl, Option.bind_some, gb_b2, t2 z y, if_pos rfl]
    · rw [if_pos (b2_0.mpr y), in_rng hv (a := 48) (b := 57) rfl rfl, Option.bind_some, gb_b2, t3 z y, if_neg (show ¬ (100 : Int32) = 99 by decide), if_pos rfl]
/-- where the model's inner loop stops -/
theorem f10_inner {f : Nat → Int32} {n : Nat} (h : LT f n) {p : Nat} (hp : p < n) (h0 : szL (lT1 f p) ≠ 0) : ∀ r i M, i + r = szL (lT1 f p) → 1 ≤ r → r < M → lp (fun s_13 => f_X10_faultOf_b13 (nI n) (nI p) s_13 f) M (nI (i + 1)) = some (nI (if ldT (gdB f n p) i r < szL (lT1 f p) then ldT (gdB f n p) i r + 1 else szL (lT1 f p))) := by
  have h96 := h.1
  have hz := szL_le (lT1 f p)
  have hc := (h.2 p hp).2
  intro r
  induction r with
  | zero => intro i M _ h1 _; omega
  | succ r ih =>
    intro i M hi h1 hM
    obtain ⟨M, rfl⟩ : ∃ M', M = M' + 1 := ⟨M - 1, by omega⟩
    have bad : gdB f n p i = false → f_X10_faultOf_b13 (nI n) (nI p) (nI (i + 1)) f = some (.inr (nI (i + 1))) := fun hb => by
      unfold f_X10_faultOf_b13
      rw [nI_add]
      by_cases z : p + 1 + i < n
      · rw [if_neg (nI_ge (show p + (i + 1) < n by omega) (by omega)), f10_fitsS h z (by omega), Option.bind_some]
        have : ¬ fitB (fmS (lT1 f p)) i (lT1 f (p + 1 + i)) = true := by
          unfold gdB at hb
          rw [decide_eq_true z, Bool.true_and] at hb
          rw [hb]; decide
        rw [if_pos (b2_0.mpr this)]
      · rw [if_pos (nI_le (show n ≤ p + (i + 1) by omega) (by omega))]
    have good : gdB f n p i = true → f_X10_faultOf_b13 (nI n) (nI p) (nI (i + 1)) f = if szL (lT1 f p) ≤ i + 1 then some (.inr (nI (i + 1))) else some (.inl (nI (i + 1 + 1))) := fun hb => by
      unfold gdB at hb
      rw [Bool.and_eq_true, decide_eq_true_iff] at hb
      unfold f_X10_faultOf_b13
      rw [nI_add, if_neg (nI_ge (show p + (i + 1) < n by omega) (by omega)), f10_fitsS h hb.1 (by omega), Option.bind_some, if_neg (fun q => b2_0.mp q hb.2), ga_ok (by omega) (by decide), nI_clamp (by omega), (h.2 p hp).1, f10_sizeOf hc, Option.bind_some, nI_1]
      by_cases y : szL (lT1 f p) ≤ i + 1
      · rw [if_pos (nI_le y (by omega)), if_pos y]
      · rw [if_neg (nI_ge (by omega) (by omega)), if_neg y]
    unfold ldT
    cases q : gdB f n p i with
    | false =>
      rw [if_neg (show ¬ (false = true) by decide), if_pos (show i < szL (lT1 f p) by omega)]
      exact lp_r (b := fun s_13 => f_X10_faultOf_b13 (nI n) (nI p) s_13 f) (bad q)
    | true =>
      rw [if_pos (show true = true from rfl)]
      have g := good q
      by_cases y : szL (lT1 f p) ≤ i + 1
      · rw [if_pos y] at g
        have r0 : r = 0 := by omega
        subst r0
        have e : ldT (gdB f n p) (i + 1) 0 = i + 1 := rfl
        rw [e, if_neg (by omega), show szL (lT1 f p) = i + 1 by omega]
        exact lp_r (b := fun s_13 => f_X10_faultOf_b13 (nI n) (nI p) s_13 f) g
      · rw [if_neg y] at g
        exact (lp_l (b := fun s_13 => f_X10_faultOf_b13 (nI n) (nI p) s_13 f) g).trans (ih (i + 1) M (by omega) (by omega) (by omega))
theorem f10_j1 {f : Nat → Int32} {n : Nat} (h : LT f n) {p : Nat} (hp : p ≤ n) (hp0 : p = 0 ∨ p < n) {N : Nat} (hN : 100 ≤ N) : f_X10_faultOf_j1 N (nI n) (nI p) f = if p < n ∧ szL (lT1 f p) ≠ 0 then (if ldT (gdB f n p) 0 (szL (lT1 f p)) < szL (lT1 f p) then some (.inr (.inr (nI (p + 1 + ldT (gdB f n p) 0 (szL (lT1 f p)))))) else some (.inl (nI (p + 1 + szL (lT1 f p))))) else some (.inr (.inr (nI p))) := by
  have h96 := h.1
  have hz := szL_le (lT1 f p)
  obtain ⟨M, rfl⟩ : ∃ M', N = M' + 1 := ⟨N - 1, by omega⟩
  unfold f_X10_faultOf_j1
  by_cases z : p < n
  · have hc := (h.2 p z).2
    by_cases y : szL (lT1 f p) = 0
    · have st : f_X10_faultOf_b13 (nI n) (nI p) (0 : Int32) f = some (.inr (0 : Int32)) := by
        unfold f_X10_faultOf_b13
        rw [iadd0, if_neg (nI_ge z (by omega)), f10_fits0 h z, Option.bind_some, if_pos (b2_0.mpr (by omega))]
      rw [lp_r (b := fun s_13 => f_X10_faultOf_b13 (nI n) (nI p) s_13 f) st, Option.bind_some, iadd0, if_neg (fun q => by have := (nI_eq (by omega) (by omega)).mp q; omega), f10_fits0 h z, Option.bind_some, if_pos (b2_0.mpr (by omega)), if_neg (fun q => q.2 y)]
    · have st : f_X10_faultOf_b13 (nI n) (nI p) (0 : Int32) f = some (.inl (nI (0 + 1))) := by
        unfold f_X10_faultOf_b13
        rw [iadd0, if_neg (nI_ge z (by omega)), f10_fits0 h z, Option.bind_some, if_neg (fun q => b2_0.mp q y), ga_ok (by omega) (by decide), nI_clamp (by omega), (h.2 p z).1, f10_sizeOf hc, Option.bind_some, if_neg (nI_nle (by omega) (by omega))]; rfl
      have inn := f10_inner h z y (szL (lT1 f p)) 0 M (by omega) (by omega) (by omega)
      rw [(lp_l (b := fun s_13 => f_X10_faultOf_b13 (nI n) (nI p) s_13 f) st).trans inn, Option.bind_some, if_pos (show p < n ∧ szL (lT1 f p) ≠ 0 from ⟨z, y⟩), nI_add]
      by_cases x : ldT (gdB f n p) 0 (szL (lT1 f p)) < szL (lT1 f p)
      · rw [if_pos x, if_pos x]
        generalize hj : ldT (gdB f n p) 0 (szL (lT1 f p)) = j at x
        by_cases w : p + 1 + j = n
        · rw [if_pos (by congr 1; omega), show p + (j + 1) = p + 1 + j by omega]
        · rw [if_neg (fun q => by have := (nI_eq (by omega) (by omega)).mp q; omega)]
          have nb : gdB f n p j = false := by
            have stop : ∀ r i, ldT (gdB f n p) i r = j → j < i + r → gdB f n p j = false := fun r => by
              induction r with
              | zero => intro i hi hlt; unfold ldT at hi; omega
              | succ r ih =>
                intro i hi hlt
                unfold ldT at hi
                cases q : gdB f n p i with
                | false => rw [q, if_neg (by decide)] at hi; rw [← hi]; exact q
                | true => rw [q, if_pos rfl] at hi; exact ih (i + 1) hi (by omega)
            exact stop _ 0 hj (by omega)
          have lt : p + 1 + j < n := by
            cases j with
            | zero => omega
            | succ j =>
              have pre : ∀ r i, ldT (gdB f n p) i r = j + 1 → i ≤ j → gdB f n p j = true := fun r => by
                induction r with
                | zero => intro i hi hle; unfold ldT at hi; omega
                | succ r ih =>
                  intro i hi hle
                  unfold ldT at hi
                  cases q : gdB f n p i with
                  | false => rw [q, if_neg (by decide)] at hi; omega
                  | true =>
                    rw [q, if_pos rfl] at hi
                    by_cases e : i = j
                    · rw [← e]; exact q
                    · exact ih (i + 1) hi (by omega)
              have := pre _ 0 hj (by omega)
              unfold gdB at this
              rw [Bool.and_eq_true, decide_eq_true_iff] at this
              omega
          have nf : ¬ fitB (fmS (lT1 f p)) j (lT1 f (p + 1 + j)) = true := by
            unfold gdB at nb
            rw [decide_eq_true lt, Bool.true_and] at nb
            rw [nb]; decide
          rw [f10_fitsS h lt (by omega), Option.bind_some, if_pos (b2_0.mpr nf), show p + (j + 1) = p + 1 + j by omega]
      · have pv := PV_of z y x
        have pl := pv.2.2.1
        obtain ⟨k, hk⟩ : ∃ k, szL (lT1 f p) = k + 1 := ⟨szL (lT1 f p) - 1, by omega⟩
        have pf := pv.2.2.2 k (by omega)
        rw [if_neg x, if_neg x, if_neg (fun q => by have := (nI_eq (by omega) (by omega)).mp q; omega)]
        rw [show nI (szL (lT1 f p)) = nI (k + 1) by rw [hk], f10_fitsS h (by omega) (by omega), Option.bind_some, if_neg (fun q => b2_0.mp q pf), nI_1, nI_add, show p + (k + 1 + 1) = p + 1 + szL (lT1 f p) by omega]
  · have e : p = n := by omega
    have st : f_X10_faultOf_b13 (nI n) (nI p) (0 : Int32) f = some (.inr (0 : Int32)) := by
      unfold f_X10_faultOf_b13
      rw [iadd0, if_pos (nI_le (by omega) (by omega))]
    rw [lp_r (b := fun s_13 => f_X10_faultOf_b13 (nI n) (nI p) s_13 f) st, Option.bind_some, iadd0, if_pos (by rw [e]), if_neg (fun q => z q.1)]
theorem f10_fault {f : Nat → Int32} {n : Nat} (h : LT f n) {N : Nat} (hN : 100 ≤ N) : ∀ u p M, (p = 0 ∨ p < n) → p ≤ n → n - p + 1 ≤ u → u < M → lp (fun s_2 => f_X10_faultOf_b2 N s_2 (nI n) f) M (nI p) = some (match paF f n u p with | .inl q => .inr (nI q) | .inr _ => .inl ()) := by
  have h96 := h.1
  intro u
  induction u with
  | zero => intro p M _ _ hu _; omega
  | succ u ih =>
    intro p M hp0 hp hu hM
    obtain ⟨M, rfl⟩ : ∃ M', M = M' + 1 := ⟨M - 1, by omega⟩
    have body : f_X10_faultOf_b2 N (nI p) (nI n) f = f_X10_faultOf_j1 N (nI n) (nI p) f := by
      unfold f_X10_faultOf_b2
      by_cases z : p < n
      · rw [if_pos (nI_lt z (by omega))]
      · rw [if_neg (nI_nlt (by omega) (by omega)), if_pos (by rw [show p = 0 by omega]; rfl)]
    rw [f10_j1 h hp hp0 hN] at body
    unfold paF
    by_cases z : p < n ∧ szL (lT1 f p) ≠ 0
    · rw [if_pos z] at body ⊢
      by_cases y : ldT (gdB f n p) 0 (szL (lT1 f p)) < szL (lT1 f p)
      · rw [if_pos y] at body ⊢
        exact lp_r (b := fun s_2 => f_X10_faultOf_b2 N s_2 (nI n) f) body
      · have pv := PV_of z.1 z.2 y
        have pl := pv.2.2.1
        rw [if_neg y] at body ⊢
        by_cases x : p + 1 + szL (lT1 f p) < n
        · rw [if_pos x]
          refine (lp_l (b := fun s_2 => f_X10_faultOf_b2 N s_2 (nI n) f) body).trans ((ih (p + 1 + szL (lT1 f p)) M (Or.inr x) (by omega) (by omega) (by omega)).trans ?_)
          cases paF f n u (p + 1 + szL (lT1 f p)) with
          | inl q => rfl
          | inr c => rfl
        · rw [if_neg x]
          obtain ⟨M, rfl⟩ : ∃ M', M = M' + 1 := ⟨M - 1, by omega⟩
          refine (lp_l (b := fun s_2 => f_X10_faultOf_b2 N s_2 (nI n) f) body).trans (lp_r (b := fun s_2 => f_X10_faultOf_b2 N s_2 (nI n) f) ?_)
          show f_X10_faultOf_b2 N (nI (p + 1 + szL (lT1 f p))) (nI n) f = _
          unfold f_X10_faultOf_b2
          rw [if_neg (nI_nlt (by omega) (by omega)), if_neg (nI_ne0 (by omega) (by omega))]
    · rw [if_neg z] at body ⊢
      exact lp_r (b := fun s_2 => f_X10_faultOf_b2 N s_2 (nI n) f) body
