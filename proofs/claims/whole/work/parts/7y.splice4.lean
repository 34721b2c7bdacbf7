/-! walks spliced together: the model's loop -/
theorem lfF_mono {t T U : Nat → Nat} (h : ∀ s, U s ≤ T s) (c : Nat) : ∀ k i, lfF t T c i k = none → lfF t U c i k = none
  | 0, _, _ => rfl
  | k + 1, i, hn => by
    unfold lfF at hn ⊢
    have := h i
    by_cases z : 0 < T i ∧ tch t c i = true
    · rw [if_pos z] at hn; cases hn
    · rw [if_neg z] at hn
      rw [if_neg (fun q => z ⟨by omega, q.2⟩)]
      exact lfF_mono h c k (i + 1) hn
theorem wkF_le {t : Nat → Nat} : ∀ k T c s, (wkF t k T c).2 s ≤ T s
  | 0, T, c, s => Nat.le_refl _
  | k + 1, T, c, s => by
    cases q : lfS t T c with
    | none => rw [wkF_none q]; exact Nat.le_refl _
    | some r =>
      rw [wkF_some q]
      have := wkF_le (t := t) k (dcT T r) (oeT t c r) s
      refine Nat.le_trans this ?_
      unfold dcT setT
      split
      · rename_i e; rw [e]; omega
      · exact Nat.le_refl _
theorem fiF_none {t T : Nat → Nat} {L : List Nat} (h : ∀ j, j < L.length → lfS t T (L.getD j 0) = none) : fiS t T L = none := by
  have := fiF_skip t T L L.length 0 0 (fun j _ h2 => by rw [h j (by omega)]; rfl)
  unfold fiS
  rw [Nat.add_zero] at this
  rw [this]; rfl
theorem fiF_at {t T : Nat → Nat} {L : List Nat} {i s : Nat} (h : ∀ j, j < i → lfS t T (L.getD j 0) = none) (hi : i < L.length) (hs : lfS t T (L.getD i 0) = some s) : fiS t T L = some i := by
  have := fiF_skip t T L i 0 (L.length - i) (fun j _ h2 => by rw [h j (by omega)]; rfl)
  unfold fiS
  rw [show i + (L.length - i) = L.length by omega, Nat.zero_add] at this
  rw [this]
  obtain ⟨k, hk⟩ : ∃ k, L.length - i = k + 1 := ⟨L.length - i - 1, by omega⟩
  rw [hk]
  unfold fiF
  rw [hs]; rfl
theorem f10_putsIn {t T : Nat → Nat} {w tm sp pc : Nat → Int32} (hv : vT t) (h : mR t w) (hT : RT tm T (t 49)) {L : List Nat} (hL : AL sp 0 L) (h24 : L.length + sT T (t 49) ≤ 25) (h6 : ∀ x, x ∈ L → x < 6) {i : Nat} (hi : i < L.length) {N : Nat} (hN : 100 ≤ N) : ∃ tm' sp' pc', f_X10_putsIn N (nI i) (nI L.length) tm sp pc w = some (nI (insL L i (wkF t 24 T (L.getD i 0)).1).length, tm', sp', pc') ∧ RT tm' (wkF t 24 T (L.getD i 0)).2 (t 49) ∧ AL sp' 0 (insL L i (wkF t 24 T (L.getD i 0)).1) := by
  have c6 := getD_6 h6 hi
  have ci : sp i = nI (L.getD i 0) := by have := hL i hi; rw [Nat.zero_add] at this; exact this
  obtain ⟨w1, w2⟩ := wkF_ok hv 24 T (L.getD i 0) (by omega)
  obtain ⟨tm', pc', e1, e2, e3, e4⟩ := f10_walkLoop hv h hN 24 T (L.getD i 0) 0 N tm pc (by omega) (by omega) (by omega) c6 hT
  rw [Nat.zero_add] at e1
  generalize hp : (wkF t 24 T (L.getD i 0)).1 = p at *
  obtain ⟨s1, f1, f2⟩ := lp_cnt (b := fun s_85 : Int32 × (Nat → Int32) => f_X10_putsIn_b85 s_85.1 (nI i) s_85.2 (nI p.length)) (fun j x => (nI (L.length - 1 - j), x)) (fun j x => ∀ q, x q = if L.length - 1 - j + p.length < q ∧ q ≤ L.length - 1 + p.length then sp (q - p.length) else sp q) (fun x => ∀ q, x q = if i + p.length < q ∧ q ≤ L.length - 1 + p.length then sp (q - p.length) else sp q) (L.length - 1 - i) (fun j x hj hx => by
    refine ⟨upd x (L.length - 1 - j + p.length) (sp (L.length - 1 - j)), ?_, fun q => ?_⟩
    · show f_X10_putsIn_b85 (nI (L.length - 1 - j)) (nI i) x (nI p.length) = _
      have xr : x (L.length - 1 - j) = sp (L.length - 1 - j) := by rw [hx, if_neg (fun z => by omega)]
      unfold f_X10_putsIn_b85
      rw [if_neg (nI_ge (by omega) (by omega)), ga_ok (by omega) (by decide), nI_add, ga_ok (by omega) (by decide), nI_clamp (show L.length - 1 - j < 2 ^ 31 by omega), nI_clamp (show L.length - 1 - j + p.length < 2 ^ 31 by omega), xr, show L.length - 1 - j = (L.length - 1 - (j + 1)) + 1 by omega, pk_m1]
    · by_cases e : q = L.length - 1 - j + p.length
      · rw [e, pk_us, if_pos ⟨by omega, by omega⟩]
        congr 1
        omega
      · rw [pk_un e, hx q]
        by_cases z : L.length - 1 - j + p.length < q ∧ q ≤ L.length - 1 + p.length
        · rw [if_pos z, if_pos ⟨by omega, z.2⟩]
        · rw [if_neg z, if_neg (fun y => z ⟨by omega, y.2⟩)]) (fun x hx => by
    refine ⟨x, ?_, fun q => ?_⟩
    · show f_X10_putsIn_b85 (nI (L.length - 1 - (L.length - 1 - i))) (nI i) x (nI p.length) = _
      unfold f_X10_putsIn_b85
      rw [if_pos (nI_le (by omega) (by omega))]
    · rw [hx q, show L.length - 1 - (L.length - 1 - i) = i by omega]) (L.length - 1 - i) 0 N sp (by omega) (by omega) (fun q => by rw [if_neg (fun z => by omega)])
  obtain ⟨s2, g1, g2⟩ := lp_cnt (b := fun s_116 : Int32 × (Nat → Int32) => f_X10_putsIn_b116 (nI p.length) s_116.1 s_116.2 (nI i) pc') (fun j x => (nI j, x)) (fun j x => ∀ q, x q = if i < q ∧ q ≤ i + j then pc' (q - (i + 1)) else s1 q) (fun x => ∀ q, x q = if i < q ∧ q ≤ i + p.length then pc' (q - (i + 1)) else s1 q) p.length (fun j x hj hx => by
    refine ⟨upd x (i + 1 + j) (pc' j), ?_, fun q => ?_⟩
    · show f_X10_putsIn_b116 (nI p.length) (nI j) x (nI i) pc' = _
      unfold f_X10_putsIn_b116
      rw [if_neg (nI_ge (by omega) (by omega)), ga_ok (by omega) (by decide), nI_1 i, nI_add, ga_ok (by omega) (by decide), nI_clamp (show j < 2 ^ 31 by omega), nI_clamp (show i + 1 + j < 2 ^ 31 by omega), nI_1]
    · by_cases e : q = i + 1 + j
      · rw [e, pk_us, if_pos ⟨by omega, by omega⟩]
        congr 1
        omega
      · rw [pk_un e, hx q]
        by_cases z : i < q ∧ q ≤ i + j
        · rw [if_pos z, if_pos ⟨by omega, by omega⟩]
        · rw [if_neg z, if_neg (fun y => z ⟨by omega, by omega⟩)]) (fun x hx => by
    refine ⟨x, ?_, hx⟩
    show f_X10_putsIn_b116 (nI p.length) (nI p.length) x (nI i) pc' = _
    unfold f_X10_putsIn_b116
    rw [if_pos (nI_le (Nat.le_refl _) (by omega))]) p.length 0 N s1 (by omega) (by omega) (fun q => by rw [if_neg (fun z => by omega)])
  refine ⟨tm', s2, pc', ?_, e2, fun j hj => ?_⟩
  · have f1' : lp (fun s_85 : Int32 × (Nat → Int32) => f_X10_putsIn_b85 s_85.1 (nI i) s_85.2 (nI p.length)) N (nI L.length - (1 : Int32), sp) = some s1 := by
      rw [show nI L.length - (1 : Int32) = nI (L.length - 1) from pk_sub (b := 1) (by omega)]; exact f1
    have g1' : lp (fun s_116 : Int32 × (Nat → Int32) => f_X10_putsIn_b116 (nI p.length) s_116.1 s_116.2 (nI i) pc') N ((0 : Int32), s1) = some s2 := g1
    have e1' : lp (fun s_19 : Int32 × Int32 × Int32 × (Nat → Int32) × (Nat → Int32) => f_X10_putsIn_b19 N s_19.2.2.1 s_19.1 s_19.2.2.2.1 s_19.2.2.2.2 w s_19.2.1) N ((0 : Int32), nI (L.getD i 0), oI (lfS t T (L.getD i 0)), tm, pc) = some (nI p.length, tm', pc') := e1
    unfold f_X10_putsIn
    rw [ga_ok (by omega) (by decide), nI_clamp (by omega), ci, f10_leftAt hv h hT (by omega) c6 hN, Option.bind_some, e1', Option.bind_some]
    dsimp only
    rw [f1', Option.bind_some, g1', Option.bind_some, nI_add, insL_len hi]
  · rw [insL_len hi] at hj
    rw [Nat.zero_add, insL_get hi, g2 j]
    have hLj : ∀ q, q < L.length → sp q = nI (L.getD q 0) := fun q hq => by have := hL q hq; rw [Nat.zero_add] at this; exact this
    have hpj : ∀ q, q < p.length → pc' q = nI (p.getD q 0) := fun q hq => by have := e4 q hq; rw [Nat.zero_add] at this; exact this
    by_cases a : j ≤ i
    · rw [if_pos a, if_neg (fun z => by omega), f2 j, if_neg (fun z => by omega)]
      exact hLj j (by omega)
    · rw [if_neg a]
      by_cases b : j ≤ i + p.length
      · rw [if_pos b, if_pos ⟨by omega, b⟩]
        exact hpj _ (by omega)
      · rw [if_neg b, if_neg (fun z => b z.2), f2 j, if_pos ⟨by omega, by omega⟩]
        exact hLj _ (by omega)
theorem f10_turns {t : Nat → Nat} {w : Nat → Int32} (hv : vT t) (h : mR t w) {N : Nat} (hN : 100 ≤ N) : ∀ u k T L i M (tm sp pc : Nat → Int32), 2 * sT T (t 49) + (L.length - i) ≤ u → u < M → sT T (t 49) ≤ k → L.length + sT T (t 49) ≤ 25 → i ≤ L.length → (∀ x, x ∈ L → x < 6) → (∀ j, j < i → lfS t T (L.getD j 0) = none) → RT tm T (t 49) → AL sp 0 L → ∃ tm' sp' pc', lp (fun s_158 : Int32 × Int32 × (Nat → Int32) × (Nat → Int32) × (Nat → Int32) => f_X10_splices_b158 N s_158.2.1 s_158.1 s_158.2.2.1 s_158.2.2.2.1 s_158.2.2.2.2 w) M (nI i, nI L.length, tm, sp, pc) = some (nI (spF t k T L).length, tm', sp', pc') ∧ AL sp' 0 (spF t k T L) := by
  intro u
  induction u with
  | zero =>
    intro k T L i M tm sp pc hu hM hk h25 hi h6 hj hT hL
    obtain ⟨M, rfl⟩ : ∃ M', M = M' + 1 := ⟨M - 1, by omega⟩
    have q : fiS t T L = none := fiF_none (fun j hjl => hj j (by omega))
    rw [spF_none q]
    refine ⟨tm, sp, pc, lp_r ?_, hL⟩
    show f_X10_splices_b158 N (nI L.length) (nI i) tm sp pc w = _
    unfold f_X10_splices_b158
    rw [if_pos (nI_le (by omega) (by omega))]
  | succ u ih =>
    intro k T L i M tm sp pc hu hM hk h25 hi h6 hj hT hL
    obtain ⟨M, rfl⟩ : ∃ M', M = M' + 1 := ⟨M - 1, by omega⟩
    by_cases z : i = L.length
    · have q : fiS t T L = none := fiF_none (fun j hjl => hj j (by omega))
      rw [spF_none q]
      refine ⟨tm, sp, pc, lp_r ?_, hL⟩
      show f_X10_splices_b158 N (nI L.length) (nI i) tm sp pc w = _
      unfold f_X10_splices_b158
      rw [if_pos (nI_le (by omega) (by omega))]
    · have il : i < L.length := by omega
      have c6 := getD_6 h6 il
      have ci : sp i = nI (L.getD i 0) := by have := hL i il; rw [Nat.zero_add] at this; exact this
      cases q : lfS t T (L.getD i 0) with
      | none =>
        obtain ⟨tm', sp', pc', r1, r2⟩ := ih k T L (i + 1) M tm sp pc (by omega) (by omega) hk h25 (by omega) h6 (fun j hj' => by
          by_cases e : j = i
          · rw [e]; exact q
          · exact hj j (by omega)) hT hL
        refine ⟨tm', sp', pc', (lp_l (b := fun s_158 : Int32 × Int32 × (Nat → Int32) × (Nat → Int32) × (Nat → Int32) => f_X10_splices_b158 N s_158.2.1 s_158.1 s_158.2.2.1 s_158.2.2.2.1 s_158.2.2.2.2 w) ?_).trans r1, r2⟩
        show f_X10_splices_b158 N (nI L.length) (nI i) tm sp pc w = _
        unfold f_X10_splices_b158
        rw [if_neg (nI_ge il (by omega)), ga_ok (by omega) (by decide), nI_clamp (by omega), ci, f10_leftAt hv h hT (by omega) c6 hN, Option.bind_some, q, if_pos (show oI none < 0 by decide), nI_1]
      | some s =>
        have qs := lfS_ok q
        have t8 := hv.1
        have hb := sT_le (T := T) (t 49) s qs.1
        have fq := fiF_at hj il q
        obtain ⟨a, b, c⟩ := fi_walk hv fq (by omega)
        obtain ⟨tm1, sp1, pc1, p1, p2, p3⟩ := f10_putsIn (pc := pc) hv h hT hL h25 h6 il hN
        obtain ⟨k, rfl⟩ : ∃ k', k = k' + 1 := ⟨k - 1, by omega⟩
        have lsm : ∀ j, j < i → lfS t (wkF t 24 T (L.getD i 0)).2 ((insL L i (wkF t 24 T (L.getD i 0)).1).getD j 0) = none := fun j hj' => by
          rw [insL_get il, if_pos (by omega)]
          exact lfF_mono (wkF_le 24 T _) _ _ _ (hj j hj')
        obtain ⟨tm', sp', pc', r1, r2⟩ := ih k (wkF t 24 T (L.getD i 0)).2 (insL L i (wkF t 24 T (L.getD i 0)).1) i M tm1 sp1 pc1 (by rw [insL_len il]; omega) (by omega) (by omega) (by rw [insL_len il]; omega) (by rw [insL_len il]; omega) (insL_mem h6 (wkF_ok hv 24 T _ (by omega)).2) lsm p2 p3
        rw [spF_some fq]
        refine ⟨tm', sp', pc', (lp_l (b := fun s_158 : Int32 × Int32 × (Nat → Int32) × (Nat → Int32) × (Nat → Int32) => f_X10_splices_b158 N s_158.2.1 s_158.1 s_158.2.2.1 s_158.2.2.2.1 s_158.2.2.2.2 w) ?_).trans r1, r2⟩
        show f_X10_splices_b158 N (nI L.length) (nI i) tm sp pc w = _
        unfold f_X10_splices_b158
        rw [if_neg (nI_ge il (by omega)), ga_ok (by omega) (by decide), nI_clamp (by omega), ci, f10_leftAt hv h hT (by omega) c6 hN, Option.bind_some, q, if_neg (show ¬ oI (some s) < 0 from nI_pos (by omega)), p1, Option.bind_some]
