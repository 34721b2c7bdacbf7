/-! the class's trace, all of it -/
/-- what stands of a step that was told -/
def TS (t : Nat → Nat) (S : Nat) (es : List Nat) (m : Nat) (st co cs ag : Nat → Int32) (i : Nat) : Prop :=
  st (m + i) = nI (es.getD i 0 / 2) ∧ co (m + i + 1) = nI (sE t (es.getD i 0)) ∧ cs (m + i) = nI (sC t (es.getD i 0)) ∧ (ag (m + i) = 0 ∨ ag (m + i) = 1) ∧ (ag (m + i) = 1 ↔ (S.testBit (es.getD i 0 / 2) = false ∨ ∃ k, k < i ∧ es.getD k 0 / 2 = es.getD i 0 / 2))
theorem f6_traceAll {t : Nat → Nat} {fr to on bk x : Nat → Int32} {sz hm : Int32} (hv : vT t) (hsz : sz = nI (t 49)) (hhm : hm = nI (t 48)) (hfr : ∀ s, s < t 49 → fr s = nI (t s)) (hto : ∀ s, s < t 49 → to s = nI (t (8 + s))) (hon : ∀ s, s < t 49 → on s = nI (sC t (2 * s))) (hbk : ∀ s, s < t 49 → bk s = nI (sC t (2 * s + 1))) {U : Nat} (hU : U < 256) (hx : ∀ S, S &&& U = S → ∀ c, c < 6 → okc x (6 * S + c)) (hV : IsV t (t 48) U (fun S c => Lf x (6 * S + c))) {N : Nat} (hN : 100 ≤ N) : ∀ (es : List Nat) (S c m M : Nat) (st co cs ag : Nat → Int32), S &&& U = S → c < 6 → IsR t (fun S c => Lf x (6 * S + c)) S c es → es.length < M → m + es.length ≤ 63 → ∃ st' co' cs' ag', lp (fun s_36 => f_X6_trace_b36 N s_36.2.2.1 s_36.2.2.2.1 s_36.2.2.2.2.1 s_36.2.2.2.2.2.1 s_36.2.2.2.2.2.2 s_36.2.1 s_36.1 hm sz fr to on bk x) M (nI c, nI S, nI m, st, co, cs, ag) = some (.inl (nI (m + es.length), st', co', cs', ag')) ∧ (∀ j, j < m → st' j = st j ∧ cs' j = cs j ∧ ag' j = ag j) ∧ (∀ j, j ≤ m → co' j = co j) ∧ ∀ i, i < es.length → TS t S es m st' co' cs' ag' i
  | [], S, c, m, 0, st, co, cs, ag, _, _, _, hM, _ => absurd hM (by omega)
  | [], S, c, m, M + 1, st, co, cs, ag, hS, hc, hR, hM, hm63 => by
    have h0 : Lf x (6 * S + c) = 0 := hR
    obtain ⟨z1, z2⟩ := V_pos hv hV hS hc h0
    refine ⟨st, co, cs, ag, lp_r ?_, fun _ _ => ⟨rfl, rfl, rfl⟩, fun _ _ => rfl, fun i hi => absurd hi (by simp)⟩
    show f_X6_trace_b36 N (nI m) st co cs ag (nI S) (nI c) hm sz fr to on bk x = _
    rw [List.length_nil] at hm63
    unfold f_X6_trace_b36
    rw [if_neg (show ¬ (64 : Int32) ≤ nI m from nI_ge (b := 64) (by omega) (by decide)), z1, if_pos (show nI 0 = (0 : Int32) from rfl), if_pos (by rw [hhm, z2])]; rfl
  | e :: es, S, c, m, 0, st, co, cs, ag, _, _, _, hM, _ => absurd hM (by omega)
  | e :: es, S, c, m, M + 1, st, co, cs, ag, hS, hc, hR, hM, hm63 => by
    have h8 := hv.1
    have hS8 := sub_lt hS hU
    rw [List.length_cons] at hM hm63
    obtain ⟨r0, ⟨r1, r2, r3, r4⟩, r5, r6⟩ := hR
    have r0' : 0 < Lf x (6 * S + c) := r0
    have r4' : Lf x (6 * S + c) = sC t e + Lf x (6 * clr S (e / 2) + sE t e) := r4
    have hs8 : e / 2 < 8 := by omega
    have hsn : e / 2 < t 49 := by omega
    have ho := hv.2.2.1 (e / 2) hsn
    obtain ⟨q1, q2⟩ := st_of hv r1 r3
    have cf : (if t (e / 2) = c then sC t (2 * (e / 2)) else if t (8 + e / 2) = c then sC t (2 * (e / 2) + 1) else 1000000) = sC t e := by
      by_cases z : t (e / 2) = c
      · rw [if_pos z] at q1 ⊢; congr 1; omega
      · rw [if_neg z] at q1 ⊢
        have : t (8 + e / 2) = c := by
          have r3' := r3
          unfold sA at r3'; rw [if_neg (fun w => z (q2.mpr w))] at r3'; exact r3'
        rw [if_pos this]; congr 1; omega
    have ce : (if t (e / 2) = c then t (8 + e / 2) else t (e / 2)) = sE t e := by
      unfold sE
      by_cases z : t (e / 2) = c
      · rw [if_pos z, if_pos (q2.mp z)]
      · rw [if_neg z, if_neg (fun w => z (q2.mpr w))]
    obtain ⟨st', co', cs', ag', s1, s2, s3, s4⟩ := f6_traceAll hv hsz hhm hfr hto hon hbk hU hx hV hN es (clr S (e / 2)) (sE t e) (m + 1) M (upd st m (nI (e / 2))) (upd co (m + 1) (nI (sE t e))) (upd cs m (nI (sC t e))) (upd ag m (if S.testBit (e / 2) = false then 1 else 0)) (clr_sub hS hU hs8) (sE_lt hv r1) r6 (by omega) (by omega)
    refine ⟨st', co', cs', ag', (lp_l ?_).trans (s1.trans ?_), fun j hj => ?_, fun j hj => ?_, fun i hi => ?_⟩
    · show f_X6_trace_b36 N (nI m) st co cs ag (nI S) (nI c) hm sz fr to on bk x = _
      have step : f_X6_trace_j2 N (nI c) (nI S) sz fr to on bk x (nI m) st co cs ag = some (.inl (nI (sE t e), nI (clr S (e / 2)), nI (m + 1), upd st m (nI (e / 2)), upd co (m + 1) (nI (sE t e)), upd cs m (nI (sC t e)), upd ag m (if S.testBit (e / 2) = false then 1 else 0))) := by
        have hb := bitI (show S < 2 ^ 31 by omega) (show e / 2 < 32 by omega)
        unfold f_X6_trace_j2
        rw [f6_leastStreet hv hsz hfr hto hon hbk hU hx hS hc r1 ⟨r2, r3, r4'⟩ r5 hN, Option.bind_some, if_pos (nI_pos' (by omega)), f8_costFrom hv hfr hto hon hbk hsn hc, Option.bind_some, cf, f7_otherEnd hv hfr hto hsn hc, Option.bind_some, ce, nI_1, ga_ok (by omega) (by decide), ga_ok (by omega) (by decide), ga_ok (by omega) (by decide), ga_ok (by omega) (by decide), nar_b2, sh1 (by omega), clrI S hS8 _ hs8, nI_clamp (by omega), nI_clamp (by omega)]
        simp only [hb]
      unfold f_X6_trace_b36
      rw [if_neg (show ¬ (64 : Int32) ≤ nI m from nI_ge (b := 64) (by omega) (by decide)), step]
      by_cases z : S = 0
      · rw [z, if_pos (show nI 0 = (0 : Int32) from rfl), hhm, if_neg (fun w => by
          have w' := (nI_eq (by omega) (by have := hv.2.1; omega)).mp w
          have := hV.2.1
          rw [z, w'] at r0'
          have this' : Lf x (6 * 0 + t 48) = 0 := this
          omega)]
      · rw [if_neg (nI_ne0 (by omega) (by omega))]
    · congr 4
      rw [List.length_cons]; omega
    · obtain ⟨a, b, d⟩ := s2 j (by omega)
      rw [a, b, d, pk_un (by omega), pk_un (by omega), pk_un (by omega)]
      exact ⟨rfl, rfl, rfl⟩
    · rw [s3 j (by omega), pk_un (by omega)]
    · rw [List.length_cons] at hi
      cases i with
      | zero =>
        obtain ⟨a, b, d⟩ := s2 m (by omega)
        have g := s3 (m + 1) (by omega)
        rw [pk_us] at a b d g
        show st' (m + 0) = nI (e / 2) ∧ co' (m + 0 + 1) = nI (sE t e) ∧ cs' (m + 0) = nI (sC t e) ∧ (ag' (m + 0) = 0 ∨ ag' (m + 0) = 1) ∧ (ag' (m + 0) = 1 ↔ (S.testBit (e / 2) = false ∨ ∃ k, k < 0 ∧ _))
        rw [Nat.add_zero, a, b, d, g]
        refine ⟨rfl, rfl, rfl, by split <;> simp, ?_⟩
        constructor
        · intro w
          split at w
          · rename_i z; exact Or.inl z
          · exact absurd w (by decide)
        · rintro (z | ⟨k, hk, _⟩)
          · rw [if_pos z]
          · omega
      | succ i =>
        obtain ⟨a, b, d, f, g⟩ := s4 i (by omega)
        show st' (m + (i + 1)) = nI (es.getD i 0 / 2) ∧ co' (m + (i + 1) + 1) = nI (sE t (es.getD i 0)) ∧ cs' (m + (i + 1)) = nI (sC t (es.getD i 0)) ∧ (ag' (m + (i + 1)) = 0 ∨ ag' (m + (i + 1)) = 1) ∧ (ag' (m + (i + 1)) = 1 ↔ (S.testBit (es.getD i 0 / 2) = false ∨ ∃ k, k < i + 1 ∧ (e :: es).getD k 0 / 2 = es.getD i 0 / 2))
        rw [show m + (i + 1) = m + 1 + i by omega]
        refine ⟨a, b, d, f, g.trans ?_⟩
        have bits : (clr S (e / 2)).testBit (es.getD i 0 / 2) = false ↔ S.testBit (es.getD i 0 / 2) = false ∨ es.getD i 0 / 2 = e / 2 := by
          by_cases q : es.getD i 0 / 2 < 8
          · rw [(clr_ok hS8 hs8).2 _ q]
            cases hh : S.testBit (es.getD i 0 / 2) <;> simp
          · rw [tb8 (clr_ok hS8 hs8).1 q, tb8 hS8 q]; simp
        rw [bits]
        constructor
        · rintro ((z | z) | ⟨k, hk, z⟩)
          · exact Or.inl z
          · exact Or.inr ⟨0, by omega, z.symm⟩
          · exact Or.inr ⟨k + 1, by omega, z⟩
        · rintro (z | ⟨k, hk, z⟩)
          · exact Or.inl (Or.inl z)
          · cases k with
            | zero => exact Or.inl (Or.inr z.symm)
            | succ k => exact Or.inr ⟨k, by omega, z⟩
