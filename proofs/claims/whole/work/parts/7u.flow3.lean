/-! corners balanced by least ways: the class's table of sets of takers -/
theorem cnt8 {S m : Nat} (hm : m ≤ 8) (hS : S < 2 ^ m) : cnt (fun i => S.testBit i) 8 = cnt (fun i => S.testBit i) m := by
  rw [← cnt_cut (fun i => S.testBit i) m 8 hm]
  apply cnt_cong
  intro i _
  by_cases z : i < m
  · rw [decide_eq_true z, Bool.true_and]
  · rw [decide_eq_false z, Bool.false_and]
    exact Nat.testBit_lt_two_pow (Nat.lt_of_lt_of_le hS (Nat.pow_le_pow_right (by decide) (by omega)))
theorem take_1 {gs : List Nat} {k : Nat} (h : k < gs.length) : gs.take (k + 1) = gs.take k ++ [gs.getD k 0] := by
  rw [List.take_succ_eq_append_getElem h]
  congr 2
  rw [List.getD_eq_getElem?_getD, List.getElem?_eq_getElem h]; rfl
/-- what stands of a set in the table -/
def FLs (D : Nat → Nat) (gs τ : List Nat) (m : Nat) (y : Nat → Int32) (S : Nat) : Prop := okc y S ∧ MinA D (gs.take (cnt (fun i => S.testBit i) m)) (subL τ S m) (Lf y S)
theorem FLs_step {D : Nat → Nat} {gs τ : List Nat} {m : Nat} (hm : m ≤ 8) (hg : gs.length = m) {y : Nat → Int32} {S k v : Nat} (hS : S < 2 ^ m) (hk : cnt (fun i => S.testBit i) m = k + 1) (hy : ∀ i, i < m → S.testBit i = true → FLs D gs τ m y (clr S i)) (h1 : v ≤ 1000000) (h2 : ∀ i, i < m → S.testBit i = true → v ≤ Lf y (clr S i) + D (6 * gs.getD k 0 + τ.getD i 0)) (h3 : v < 1000000 → ∃ i, i < m ∧ S.testBit i = true ∧ v = Lf y (clr S i) + D (6 * gs.getD k 0 + τ.getD i 0)) : MinA D (gs.take (k + 1)) (subL τ S m) v := by
  have p : (2 : Nat) ^ m ≤ 2 ^ 8 := Nat.pow_le_pow_right (by decide) hm
  have hkm : k + 1 ≤ m := by rw [← hk]; exact cnt_le _ _
  have ck : ∀ i, i < m → S.testBit i = true → cnt (fun j => (clr S i).testBit j) m = k := fun i hi hb => by
    have q := (subL_clr (τ := τ) (show S < 256 by omega) (show i < 8 by omega) hb m hm hi).length_eq
    rw [List.length_cons, subL_len, subL_len, hk] at q
    omega
  rw [take_1 (by omega)]
  have lt : (gs.take k).length = k := by rw [List.length_take]; omega
  refine ⟨h1, fun ts pt => ?_, fun hv => ?_⟩
  · have ln := pt.length_eq
    rw [subL_len, hk] at ln
    have hne : ts ≠ [] := fun e => by rw [e] at ln; simp at ln
    obtain ⟨us, c, rfl⟩ : ∃ us c, ts = us ++ [c] := ⟨ts.dropLast, ts.getLast hne, (List.dropLast_concat_getLast hne).symm⟩
    have hc : c ∈ subL τ S m := pt.mem_iff.mp (by simp)
    obtain ⟨i, i1, i2, i3⟩ := subL_mem m c hc
    have pi := subL_clr (τ := τ) (show S < 256 by omega) (show i < 8 by omega) i2 m hm i1
    rw [i3] at pi
    have pu : us.Perm (subL τ (clr S i) m) := ((List.perm_append_singleton c us).symm.trans (pt.trans pi)).cons_inv
    have lu := pu.length_eq
    rw [subL_len, ck i i1 i2] at lu
    have hM := (hy i i1 i2).2
    rw [ck i i1 i2] at hM
    have a1 := hM.2.1 us pu
    have a2 := h2 i i1 i2
    rw [aC_app D _ _ _ _ (by rw [lt, lu]), ← i3]
    omega
  · obtain ⟨i, i1, i2, i3⟩ := h3 hv
    have hM := (hy i i1 i2).2
    rw [ck i i1 i2] at hM
    obtain ⟨us, u1, u2⟩ := hM.2.2 (by omega)
    have pi := subL_clr (τ := τ) (show S < 256 by omega) (show i < 8 by omega) i2 m hm i1
    have lu := u1.length_eq
    rw [subL_len, ck i i1 i2] at lu
    refine ⟨us ++ [τ.getD i 0], ((List.perm_append_singleton _ us).trans (u1.cons _)).trans pi.symm, ?_⟩
    rw [aC_app D _ _ _ _ (by rw [lt, lu]), u2, i3]
theorem f1_leastOf {D : Nat → Nat} {x giv tak y : Nat → Int32} (hx : RI x D) (hB : Bd D) {gs τ : List Nat} {m : Nat} (hm : m ≤ 8) (hg : gs.length = m) (ht : τ.length = m) (hgv : ∀ j, j < m → giv j = nI (gs.getD j 0) ∧ gs.getD j 0 < 6) (htk : ∀ j, j < m → tak j = nI (τ.getD j 0) ∧ τ.getD j 0 < 6) {S : Nat} (hS : S < 2 ^ m) (h0 : 0 < S) (hy : ∀ i, i < m → S.testBit i = true → FLs D gs τ m y (clr S i)) {N : Nat} (hN : 100 ≤ N) : ∃ v, f_X1_leastOf N (nI S) giv tak y x = some (nI v) ∧ v ≤ 1000000 ∧ MinA D (gs.take (cnt (fun i => S.testBit i) m)) (subL τ S m) v := by
  have p : (2 : Nat) ^ m ≤ 2 ^ 8 := Nat.pow_le_pow_right (by decide) hm
  have hcl := cnt_le (fun i => S.testBit i) m
  have hpos : 0 < cnt (fun i => S.testBit i) m := by
    apply Nat.pos_of_ne_zero
    intro e
    have : S = 0 := by
      apply Nat.eq_of_testBit_eq
      intro i
      rw [Nat.zero_testBit]
      apply Classical.byContradiction
      intro w
      rw [Bool.not_eq_false] at w
      have hi : i < m := by
        by_cases q : i < m
        · exact q
        · rw [Nat.testBit_lt_two_pow (Nat.lt_of_lt_of_le hS (Nat.pow_le_pow_right (by decide) (by omega)))] at w; cases w
      have := cnt_strict (p := fun _ => false) (q := fun i => S.testBit i) m (fun _ _ q => by cases q) ⟨i, hi, w, rfl⟩
      omega
    omega
  obtain ⟨k, hk⟩ : ∃ k, cnt (fun i => S.testBit i) m = k + 1 := ⟨cnt (fun i => S.testBit i) m - 1, by omega⟩
  obtain ⟨gv1, gv2⟩ := hgv k (by omega)
  obtain ⟨e, l1, v, l2, l3, l4, l5⟩ := lp_cnt (b := fun s_19 : Int32 × Int32 => f_X1_leastOf_b19 s_19.2 s_19.1 (nI S) giv (nI (k + 1)) tak x y) (fun i z => (z, nI i)) (fun i z => ∃ v, z = nI v ∧ v ≤ 1000000 ∧ (∀ j, j < i → j < m → S.testBit j = true → v ≤ Lf y (clr S j) + D (6 * gs.getD k 0 + τ.getD j 0)) ∧ (v < 1000000 → ∃ j, j < m ∧ S.testBit j = true ∧ v = Lf y (clr S j) + D (6 * gs.getD k 0 + τ.getD j 0))) (fun z => ∃ v, z = nI v ∧ v ≤ 1000000 ∧ (∀ j, j < 8 → j < m → S.testBit j = true → v ≤ Lf y (clr S j) + D (6 * gs.getD k 0 + τ.getD j 0)) ∧ (v < 1000000 → ∃ j, j < m ∧ S.testBit j = true ∧ v = Lf y (clr S j) + D (6 * gs.getD k 0 + τ.getD j 0))) 8 (fun i z hi hp => by
    obtain ⟨v, rfl, p1, p2, p3⟩ := hp
    show ∃ x', f_X1_leastOf_b19 (nI i) (nI v) (nI S) giv (nI (k + 1)) tak x y = some (Sum.inl (x', nI (i + 1))) ∧ _
    unfold f_X1_leastOf_b19
    rw [if_neg (show ¬ (8 : Int32) ≤ nI i from nI_ge (b := 8) hi (by decide)), nI_1]
    by_cases z : S.testBit i = true
    · have im : i < m := by
        by_cases q : i < m
        · exact q
        · rw [Nat.testBit_lt_two_pow (Nat.lt_of_lt_of_le hS (Nat.pow_le_pow_right (by decide) (by omega)))] at z; cases z
      have hok := (hy i im z).1
      have hok1 := hok.1
      obtain ⟨tk1, tk2⟩ := htk i im
      have hD := hB (6 * gs.getD k 0 + τ.getD i 0) (by omega)
      have hcl8 := (clr_ok (show S < 256 by omega) hi).1
      rw [if_neg (fun w => by rw [(bitI (by omega) (by omega)).mp w] at z; cases z), sh1 (by omega), clrI S (by omega) i hi, ga_ok (by omega) (by decide), ga_ok (by omega) (by decide), nI_pred, nI_clamp (show k < 2 ^ 31 by omega), nI_clamp (show i < 2 ^ 31 by omega), nI_clamp (show clr S i < 2 ^ 31 by omega), gv1, tk1, f8_between hx gv2 tk2, Option.bind_some, hok.2, nI_add, minI (by omega) (by omega)]
      refine ⟨_, rfl, _, rfl, by split <;> omega, fun j hj jm jb => ?_, fun hv => ?_⟩
      · by_cases e : j = i
        · subst e; split <;> omega
        · have := p2 j (by omega) jm jb
          split <;> omega
      · by_cases w : Lf y (clr S i) + D (6 * gs.getD k 0 + τ.getD i 0) < v
        · rw [if_pos w]; exact ⟨i, im, z, rfl⟩
        · rw [if_neg w] at hv ⊢; exact p3 hv
    · refine ⟨nI v, ?_, v, rfl, p1, fun j hj jm jb => ?_, p3⟩
      · rw [Bool.not_eq_true] at z
        rw [if_pos ((bitI (by omega) (by omega)).mpr z)]
      · by_cases e : j = i
        · subst e; exact absurd jb z
        · exact p2 j (by omega) jm jb) (fun z hp => by
    refine ⟨z, ?_, hp⟩
    show f_X1_leastOf_b19 (nI 8) z (nI S) giv (nI (k + 1)) tak x y = _
    unfold f_X1_leastOf_b19
    rw [if_pos (show (8 : Int32) ≤ nI 8 by decide)]) 8 0 N (1000000 : Int32) (by omega) (by omega) ⟨1000000, rfl, Nat.le_refl _, fun j hj => absurd hj (by omega), fun h => absurd h (by omega)⟩
  subst l2
  refine ⟨v, ?_, l3, ?_⟩
  · unfold f_X1_leastOf
    rw [bitCount_8 S (by omega), Option.bind_some, cnt8 hm hS, hk, nI_pred, ga_ok (by omega) (by decide)]
    have l1' : lp (fun s_19 : Int32 × Int32 => f_X1_leastOf_b19 s_19.2 s_19.1 (nI S) giv (nI (k + 1)) tak x y) N ((1000000 : Int32), (0 : Int32)) = some (nI v) := l1
    rw [l1', Option.bind_some]
  · rw [hk]
    exact FLs_step hm hg hS hk hy l3 (fun i hi hb => l4 i (by omega) hi hb) l5
theorem f1_seek {t : Nat → Nat} {fr to ln kd fg x giv tak y : Nat → Int32} {cl sz hm : Int32} (hv : vT t) (hc : cR t fr to ln kd fg cl sz hm) (hx : RI x (dst t (sC t))) (hy0 : y 0 = 0) {N : Nat} (hN : 1000 ≤ N) : ∃ v giv' tak' y', f_X1_seek N giv tak y cl sz fr to kd x = some (nI v, giv', tak', y') ∧ y' 0 = 0 ∧ v ≤ 1000000 ∧ MinA (dst t (sC t)) (glL (fun c => (-bz t c (t 49)).toNat) 6) (glL (fun c => (bz t c (t 49)).toNat) 6) v ∧ (glL (fun c => (-bz t c (t 49)).toNat) 6).length = (glL (fun c => (bz t c (t 49)).toNat) 6).length ∧ (glL (fun c => (-bz t c (t 49)).toNat) 6).length ≤ 8 := by
  have t8 := hv.1
  have hB := Bd_dst t (sC t)
  obtain ⟨b1, b2⟩ := bz_ok hv (t 49) (Nat.le_refl _)
  obtain ⟨b3, b4⟩ := s6_neg b1 b2
  have gn : (glL (fun c => (-bz t c (t 49)).toNat) 6).length = p6 (fun c => (bz t c (t 49)).toNat) := by rw [glL_len, b3]
  have gp : (glL (fun c => (bz t c (t 49)).toNat) 6).length = p6 (fun c => (bz t c (t 49)).toNat) := glL_len _
  obtain ⟨giv', e1, e2⟩ := f1_list (arr := giv) hv hc (x2 := -1) (w := fun c => -bz t c (t 49)) (fun c hc6 => by
    have := b4 c hc6
    refine ⟨?_, by omega, by omega⟩
    rw [bal_zI]
    show (-1 : Int32) * zI _ = _
    rw [Int32.neg_mul, Int32.one_mul]
    exact (Int32.ofInt_neg _).symm) (by rw [gn]; omega) (show 100 ≤ N by omega)
  obtain ⟨tak', e3, e4⟩ := f1_list (arr := tak) hv hc (x2 := 1) (w := fun c => bz t c (t 49)) (fun c hc6 => by
    have := b4 c hc6
    refine ⟨?_, by omega, by omega⟩
    rw [bal_zI, Int32.one_mul]) (by rw [gp]; omega) (show 100 ≤ N by omega)
  generalize hgs : glL (fun c => (-bz t c (t 49)).toNat) 6 = gs at *
  generalize hts : glL (fun c => (bz t c (t 49)).toNat) 6 = τ at *
  have hml : gs.length = τ.length := gn.trans gp.symm
  have hm8 : τ.length ≤ 8 := by omega
  have p : (2 : Nat) ^ τ.length ≤ 2 ^ 8 := Nat.pow_le_pow_right (by decide) hm8
  have pp : 0 < 2 ^ τ.length := Nat.pow_pos (by decide)
  have gD : ∀ (l : List Nat) j, (∀ c, c ∈ l → c < 6) → j < l.length → l.getD j 0 < 6 := fun l j h hj => by
    rw [List.getD_eq_getElem?_getD, List.getElem?_eq_getElem hj]
    exact h _ (List.getElem_mem hj)
  have hgv : ∀ j, j < τ.length → giv' j = nI (gs.getD j 0) ∧ gs.getD j 0 < 6 := fun j hj => ⟨e2 j (by omega), gD gs j (fun c hc => glL_mem _ 6 c (hgs ▸ hc)) (by omega)⟩
  have htk : ∀ j, j < τ.length → tak' j = nI (τ.getD j 0) ∧ τ.getD j 0 < 6 := fun j hj => ⟨e4 j (by omega), gD τ j (fun c hc => glL_mem _ 6 c (hts ▸ hc)) (by omega)⟩
  have FLs0 : ∀ z : Nat → Int32, z 0 = 0 → FLs (dst t (sC t)) gs τ τ.length z 0 := fun z hz => by
    have o := okc_of (x := z) (i := 0) (v := 0) hz (by omega)
    refine ⟨o.1, ?_⟩
    have c0 : cnt (fun i => (0 : Nat).testBit i) τ.length = 0 := by
      have := subL_len τ 0 τ.length
      rw [← this]
      have : ∀ n, subL τ 0 n = [] := fun n => by
        induction n with
        | zero => rfl
        | succ n ih => unfold subL; rw [Nat.zero_testBit, ih]; rfl
      rw [this]; rfl
    have s0 : subL τ 0 τ.length = [] := List.length_eq_zero_iff.mp (by rw [subL_len, c0])
    rw [c0, s0, o.2, List.take_zero]
    exact ⟨by omega, fun _ _ => Nat.zero_le _, fun _ => ⟨[], List.Perm.refl _, rfl⟩⟩
  obtain ⟨y', l1, l2, l3⟩ := lp_cnt (b := fun s_28 : Int32 × (Nat → Int32) => f_X1_seek_b28 N (nI τ.length) s_28.1 s_28.2 giv' tak' x) (fun i z => (nI (1 + i), z)) (fun i z => z 0 = 0 ∧ ∀ S, S < 1 + i → FLs (dst t (sC t)) gs τ τ.length z S) (fun z => z 0 = 0 ∧ ∀ S, S < 2 ^ τ.length → FLs (dst t (sC t)) gs τ τ.length z S) (2 ^ τ.length - 1) (fun i z hi hp => by
    obtain ⟨p1, p2⟩ := hp
    obtain ⟨v, f1, f2, f3⟩ := f1_leastOf hx hB hm8 hml rfl hgv htk (show 1 + i < 2 ^ τ.length by omega) (by omega) (fun j hj hb => p2 _ (clr_low hb)) (show 100 ≤ N by omega)
    refine ⟨upd z (1 + i) (nI v), ?_, by rw [pk_un (by omega)]; exact p1, fun S hS => ?_⟩
    · show f_X1_seek_b28 N (nI τ.length) (nI (1 + i)) z giv' tak' x = some (Sum.inl (nI (1 + (i + 1)), upd z (1 + i) (nI v)))
      unfold f_X1_seek_b28
      rw [sh1 (by omega), if_neg (nI_ge (by omega) (by omega)), f1, Option.bind_some, ga_ok (by omega) (by decide), nI_clamp (by omega), nI_1, show 1 + i + 1 = 1 + (i + 1) by omega]
    · by_cases e : S = 1 + i
      · subst e
        have o := okc_of (x := upd z (1 + i) (nI v)) (i := 1 + i) (v := v) pk_us f2
        refine ⟨o.1, ?_⟩
        rw [o.2]; exact f3
      · have h := p2 S (by omega)
        unfold FLs okc Lf at h ⊢
        rw [pk_un e]; exact h) (fun z hp => by
    refine ⟨z, ?_, hp.1, fun S hS => hp.2 S (by omega)⟩
    show f_X1_seek_b28 N (nI τ.length) (nI (1 + (2 ^ τ.length - 1))) z giv' tak' x = _
    unfold f_X1_seek_b28
    rw [sh1 (by omega), if_pos (nI_le (by omega) (by omega))]) (2 ^ τ.length - 1) 0 N y (by omega) (by omega) ⟨hy0, fun S hS => by rw [show S = 0 by omega]; exact FLs0 y hy0⟩
  have hF := l3 (2 ^ τ.length - 1) (by omega)
  have hFl := hF.1.1
  refine ⟨Lf y' (2 ^ τ.length - 1), giv', tak', y', ?_, l2, hFl, ?_, hml, by omega⟩
  · have l1' : lp (fun s_28 : Int32 × (Nat → Int32) => f_X1_seek_b28 N (nI τ.length) s_28.1 s_28.2 giv' tak' x) N ((1 : Int32), y) = some y' := l1
    unfold f_X1_seek
    rw [e1, Option.bind_some, e3, Option.bind_some]
    dsimp only
    rw [hml, l1', Option.bind_some, sh1 (by omega), show nI (2 ^ τ.length) - (1 : Int32) = nI (2 ^ τ.length - 1) from pk_sub (b := 1) (by omega), ga_ok (by omega) (by decide), nI_clamp (by omega), ← hF.1.2]
  · have hM := hF.2
    have cf : cnt (fun i => (2 ^ τ.length - 1).testBit i) τ.length = τ.length := by
      have := (subL_full τ (m := τ.length) τ.length (Nat.le_refl _) (Nat.le_refl _)).length_eq
      rw [subL_len, List.length_take] at this
      omega
    rw [cf, ← hml, List.take_length] at hM
    have pf := subL_full τ (m := τ.length) τ.length (Nat.le_refl _) (Nat.le_refl _)
    rw [List.take_length] at pf
    rw [← hml] at pf
    rw [hml] at hM pf
    exact MinA_perm pf hM
theorem pm_flow {A I : Nat → Nat → Int32} (hI : Inv A I) {N : Nat} (hN : 8000000 ≤ N) : ∃ oc, f_X9_flow N (I 1 5) (I 1 6) (I 1 7) (A 2) (A 3) (A 4) (A 5) (A 6) (I 20 5) (I 20 6) (I 20 7) (A 21) (A 22) (A 23) (A 24) (A 25) (A 26) (A 27) (A 28) (A 54) (A 55) (A 56) = some oc ∧ ∃ om, f_X10_flow N ((uA_X9_flow A I oc) 66) ((uA_X9_flow A I oc) 72) ((uA_X9_flow A I oc) 79) = some om ∧ oc.1 = om.1 ∧ Inv (uA_X10_flow (uA_X9_flow A I oc) (uI_X9_flow A I oc) om) (uI_X10_flow (uA_X9_flow A I oc) (uI_X9_flow A I oc) om) := by
  obtain ⟨t, k, h1, h2, h3, h4, h5, h6, h7, h8⟩ := hI
  obtain ⟨hv, hc, hm⟩ := id h1
  obtain ⟨f3, t3, l3, k3, g3, on3, bk3, le3, e1, e2, e3, e4⟩ := f8_learn (f2 := A 21) (t2 := A 22) (l2 := A 23) (k2 := A 24) (g2 := A 25) (on := A 26) (bk := A 27) (least := A 28) (c2 := I 20 5) (s2 := I 20 6) (h2 := I 20 7) hv hc (b := 0) (by decide) (show 100 ≤ N by omega)
  rw [cW_0] at e3 e4
  have e1' : f_X8_learn N (0 : Int32) (I 20 5) (I 20 6) (I 20 7) (A 21) (A 22) (A 23) (A 24) (A 25) (A 26) (A 27) (A 28) (I 1 5) (I 1 6) (I 1 7) (A 2) (A 3) (A 4) (A 5) (A 6) = some (I 1 5, I 1 6, I 1 7, f3, t3, l3, k3, g3, on3, bk3, le3) := e1
  obtain ⟨v, gv, tk, y', s1, s2, s3, s4, s5, s6⟩ := f1_seek (giv := A 54) (tak := A 55) hv e2 e4 h7.1 (show 1000 ≤ N by omega)
  have f9 : f_X9_flow N (I 1 5) (I 1 6) (I 1 7) (A 2) (A 3) (A 4) (A 5) (A 6) (I 20 5) (I 20 6) (I 20 7) (A 21) (A 22) (A 23) (A 24) (A 25) (A 26) (A 27) (A 28) (A 54) (A 55) (A 56) = some (toldC v, I 1 5, I 1 6, I 1 7, f3, t3, l3, k3, g3, on3, bk3, le3, gv, tk, y') := by
    unfold f_X9_flow
    rw [e1', Option.bind_some]
    dsimp only
    rw [s1, Option.bind_some]
    dsimp only
    rw [f9_orNone (by omega), Option.bind_some]
  refine ⟨_, f9, ?_⟩
  obtain ⟨x, m1, m2⟩ := f10_measures (d := A 72) hv hm (show 100 ≤ N by omega)
  obtain ⟨bb, n1, n2⟩ := lp_cnt (b := fun s_10 : Int32 × (Nat → Int32) => f_X10_flow_b10 N s_10.1 s_10.2 (A 66)) (fun i z => (nI i, z)) (fun i z => ∀ c, c < i → z c = bal t c (t 49)) (fun z => ∀ c, c < 6 → z c = bal t c (t 49)) 6 (fun i z hi hp => by
    refine ⟨upd z i (bal t i (t 49)), ?_, fun c hcc => ?_⟩
    · show f_X10_flow_b10 N (nI i) z (A 66) = _
      unfold f_X10_flow_b10
      rw [if_neg (show ¬ (6 : Int32) ≤ nI i from nI_ge (b := 6) hi (by decide)), f10_balanceOf hv hm hi (by omega), Option.bind_some, ga_ok hi (by decide), nI_clamp (by omega), nI_1]
    · by_cases e : c = i
      · subst e; rw [pk_us]
      · rw [pk_un e]; exact hp c (by omega)) (fun z hp => by
    refine ⟨z, ?_, hp⟩
    show f_X10_flow_b10 N (nI 6) z (A 66) = _
    unfold f_X10_flow_b10
    rw [if_pos (show (6 : Int32) ≤ nI 6 by decide)]) 6 0 N (A 79) (by omega) (by omega) (fun c hcc => absurd hcc (by omega))
  have hFR : FR bb (glL (fun c => (-bz t c (t 49)).toNat) 6) (glL (fun c => (bz t c (t 49)).toNat) 6) := by
    refine ⟨fun c hc6 => ?_, fun c => ?_, glL_sorted _ 6, fun g hg => glL_mem _ 6 g hg, fun c hcc => glL_mem _ 6 c hcc, s5, s6⟩
    · rw [n2 c hc6, bal_zI, glL_count, glL_count, if_pos hc6, if_pos hc6]
      congr 1
      omega
    · rw [glL_count, glL_count]
      by_cases q : c < 6
      · rw [if_pos q, if_pos q]; omega
      · rw [if_neg q]; exact Or.inl rfl
  obtain ⟨v2, r1, r2⟩ := f10_flows m2 (Bd_dst t (sC t)) (show 100 ≤ N by omega) 12 _ _ bb (by omega) hFR
  have ev : v2 = v := MinA_one r2 s4
  subst ev
  have f10 : f_X10_flow N (A 66) (A 72) (A 79) = some (toldC v2, x, bb) := by
    have n1' : lp (fun s_10 : Int32 × (Nat → Int32) => f_X10_flow_b10 N s_10.1 s_10.2 (A 66)) N ((0 : Int32), A 79) = some bb := n1
    unfold f_X10_flow
    rw [m1, Option.bind_some, n1', Option.bind_some, r1, Option.bind_some]
    dsimp only
    unfold toldC
    by_cases q : v2 < 1000000
    · rw [if_pos q, if_neg (show ¬ (1000000 : Int32) ≤ nI v2 from nI_ge (b := 1000000) q (by decide))]
    · rw [if_neg q, if_pos (show (1000000 : Int32) ≤ nI v2 from nI_le (a := 1000000) (by omega) (by omega))]
  exact ⟨_, f10, rfl, t, k, h1, h2, h3, h4, h5, h6, ⟨s2, h7.2⟩, h8⟩
