/-! the model's walk is the round -/
theorem V_pos {t : Nat → Nat} (hv : vT t) {h U : Nat} {V : Nat → Nat → Nat} (hV : IsV t h U V) {S c : Nat} (hS : S &&& U = S) (hc : c < 6) (h0 : V S c = 0) : S = 0 ∧ c = h := by
  rcases hV.2.2.2 S c hS hc (by omega) with a | ⟨e, e1, e2, e3, e4⟩
  · exact a
  · have := sC_small hv e1
    omega
theorem f10_walkStep {t : Nat → Nat} {w y : Nat → Int32} (hv : vT t) (h : mR t w) {U hm : Nat} (hU : U < 256) (hd : ∀ Y, Y &&& U = Y → Dn t U hm y Y) {S c e : Nat} (hS : S &&& U = S) (hc : c < 6) (he : e < 2 * t 49) (hp : sC t e < 1000000 ∧ sA t e = c ∧ Lf y (6 * (U ^^^ S) + c) = sC t e + Lf y (6 * (U ^^^ clr S (e / 2)) + sE t e)) (hq : ∀ f, f < e → ¬ (sC t f < 1000000 ∧ sA t f = c ∧ Lf y (6 * (U ^^^ S) + c) = sC t f + Lf y (6 * (U ^^^ clr S (f / 2)) + sE t f))) {N : Nat} (hN : 100 ≤ N) : lp (fun s_36 => f_X10_walks_b36 s_36 (nI c) w (nI U) (nI (U ^^^ S)) y (nI (Lf y (6 * (U ^^^ S) + c)))) N (0 : Int32) = some (nI e) := by
  have h8 := hv.1
  have hvl := ((hd _ (xor_sub hS)).1 c hc).1
  have key : ∀ g, g < 2 * t 49 → f_X10_walks_b36 (nI g) (nI c) w (nI U) (nI (U ^^^ S)) y (nI (Lf y (6 * (U ^^^ S) + c))) = if sC t g < 1000000 ∧ sA t g = c ∧ Lf y (6 * (U ^^^ S) + c) = sC t g + Lf y (6 * (U ^^^ clr S (g / 2)) + sE t g) then some (.inr (nI g)) else some (.inl (nI (g + 1))) := fun g hg => by
    have hle := sE_lt hv hg
    have hsm := sC_small hv hg
    have hk : okc y (6 * upX U (U ^^^ S) (g / 2) + sE t g) := (hd _ (upX_ok hU (xor_sub hS)).1).1 _ hle
    have hk1 := hk.1
    have eu := upX_clr (s := g / 2) hU hS (by omega)
    unfold f_X10_walks_b36
    rw [f10_goes hv h hg hc, Option.bind_some, nI_1]
    by_cases z : sA t g = c ∧ sC t g < 1000000
    · rw [if_neg (fun u => b2_0.mp u z), f10_leaves hv h hU (xor_sub hS) hg z.2 hk, Option.bind_some, eu]
      rw [eu] at hk1
      by_cases q : sC t g + Lf y (6 * (U ^^^ clr S (g / 2)) + sE t g) = Lf y (6 * (U ^^^ S) + c)
      · rw [if_pos (by rw [q]), if_pos ⟨z.2, z.1, q.symm⟩]
      · rw [if_neg (fun u => q ((nI_eq (by omega) (by omega)).mp u)), if_neg (fun u => q u.2.2.symm)]
    · rw [if_pos (b2_0.mpr z), if_neg (fun u => z ⟨u.2.1, u.1⟩)]
  have hl := lp_seq (b := fun s => f_X10_walks_b36 s (nI c) w (nI U) (nI (U ^^^ S)) y (nI (Lf y (6 * (U ^^^ S) + c)))) (fun i => nI i) (nI e) e (fun i hi => by
    show f_X10_walks_b36 (nI i) (nI c) w (nI U) (nI (U ^^^ S)) y (nI (Lf y (6 * (U ^^^ S) + c))) = _
    rw [key i (by omega)]; exact if_neg (hq i hi)) (by
    show f_X10_walks_b36 (nI e) (nI c) w (nI U) (nI (U ^^^ S)) y (nI (Lf y (6 * (U ^^^ S) + c))) = _
    rw [key e he]; exact if_pos hp) e 0 N (by omega) (by omega)
  exact hl
theorem f10_walkAll {t : Nat → Nat} {w y : Nat → Int32} (hv : vT t) (h : mR t w) {U hm : Nat} (hU : U < 256) (hh : hm < 6) (hd : ∀ Y, Y &&& U = Y → Dn t U hm y Y) {N : Nat} (hN : 100 ≤ N) : ∀ (es : List Nat) (S c m M : Nat) (st : Nat → Int32), S &&& U = S → c < 6 → IsR t (fun S c => Lf y (6 * (U ^^^ S) + c)) S c es → es.length < M → m + es.length ≤ 64 → ∃ st', lp (fun s_28 => f_X10_walks_b28 N s_28.2.2.1 s_28.2.2.2.1 s_28.2.2.2.2 s_28.1 w (nI U) s_28.2.1 y) M (nI c, nI (U ^^^ S), nI (Lf y (6 * (U ^^^ S) + c)), nI m, st) = some (nI (m + es.length), st') ∧ (∀ j, j < m → st' j = st j) ∧ ∀ i, i < es.length → st' (m + i) = nI (es.getD i 0)
  | [], S, c, m, 0, st, _, _, _, hM, _ => absurd hM (by omega)
  | [], S, c, m, M + 1, st, hS, hc, hR, hM, hm64 => by
    have h0 : Lf y (6 * (U ^^^ S) + c) = 0 := hR
    refine ⟨st, lp_r ?_, fun _ _ => rfl, fun i hi => absurd hi (by simp)⟩
    show f_X10_walks_b28 N (nI (Lf y (6 * (U ^^^ S) + c))) (nI m) st (nI c) w (nI U) (nI (U ^^^ S)) y = _
    unfold f_X10_walks_b28
    rw [h0, if_pos (by decide)]; rfl
  | e :: es, S, c, m, 0, st, _, _, _, hM, _ => absurd hM (by omega)
  | e :: es, S, c, m, M + 1, st, hS, hc, hR, hM, hm64 => by
    have h8 := hv.1
    rw [List.length_cons] at hM hm64
    obtain ⟨r0, ⟨r1, r2, r3, r4⟩, r5, r6⟩ := hR
    have hvl := ((hd _ (xor_sub hS)).1 c hc).1
    have r4' : Lf y (6 * (U ^^^ S) + c) = sC t e + Lf y (6 * (U ^^^ clr S (e / 2)) + sE t e) := r4
    have r0' : 0 < Lf y (6 * (U ^^^ S) + c) := r0
    obtain ⟨st', s1, s2, s3⟩ := f10_walkAll hv h hU hh hd hN es (clr S (e / 2)) (sE t e) (m + 1) M (upd st m (nI e)) (clr_sub hS hU (by omega)) (sE_lt hv r1) r6 (by omega) (by omega)
    refine ⟨st', (lp_l ?_).trans (s1.trans ?_), fun j hj => ?_, fun i hi => ?_⟩
    · show f_X10_walks_b28 N (nI (Lf y (6 * (U ^^^ S) + c))) (nI m) st (nI c) w (nI U) (nI (U ^^^ S)) y = _
      have hd2 : nI e / (2 : Int32) = nI (e / 2) := pk_div (d := 2) (by omega) (by decide) (by decide)
      have eu : nI (U ^^^ S) ||| (nI U &&& nI (2 ^ (e / 2))) = nI (U ^^^ clr S (e / 2)) := by
        rw [xI_and, xI_or]
        exact congrArg nI (upX_clr hU hS (by omega))
      have tl : toldC (sC t e) = nI (sC t e) := if_pos r2
      unfold f_X10_walks_b28
      rw [if_neg (nI_nle r0' (by omega)), f10_walkStep hv h hU hd hS hc r1 ⟨r2, r3, r4'⟩ r5 hN, Option.bind_some, ga_ok (by omega) (by decide), f10_cost hv h r1, Option.bind_some, f10_ends hv h r1, Option.bind_some, hd2, sh1 (by omega), eu, tl, pk_sub (by omega), nI_clamp (by omega), nI_1]
      congr 6
      omega
    · congr 3
      rw [List.length_cons]; omega
    · rw [s2 j (by omega), pk_un (by omega)]
    · rw [List.length_cons] at hi
      cases i with
      | zero => rw [Nat.add_zero, s2 m (by omega), pk_us]; rfl
      | succ i =>
        have := s3 i (by omega)
        rw [show m + (i + 1) = m + 1 + i by omega, this]; rfl
