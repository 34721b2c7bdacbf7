/-! walks spliced together: ways laid -/
noncomputable def nxE (t : Nat → Nat) (a b : Nat) : Nat := @dite Nat (∃ e, NS t (sC t) a b e) (Classical.propDecidable _) (fun h => Classical.choose h) (fun _ => 0)
theorem nxE_ok {t : Nat → Nat} (hv : vT t) {a b : Nat} (ha : a < 6) (hb : b < 6) (hab : a ≠ b) (hd : dst t (sC t) (6 * a + b) < 1000000) : NS t (sC t) a b (nxE t a b) := by
  have h := NS_ex hv ha hb hab hd
  unfold nxE
  rw [dif_pos h]
  exact Classical.choose_spec h
noncomputable def wyF (t : Nat → Nat) (b : Nat) : Nat → (Nat → Nat) → Nat → Nat → Nat
  | 0, T, _ => T
  | k + 1, T, a => if a = b then T else wyF t b k (icT T (nxE t a b / 2)) (sE t (nxE t a b))
/-- how many corners are nearer -/
def nrD (t : Nat → Nat) (b a : Nat) : Nat := cnt (fun c => decide (dst t (sC t) (6 * c + b) < dst t (sC t) (6 * a + b))) 6
theorem nrD_5 (t : Nat → Nat) {a : Nat} (b : Nat) (ha : a < 6) : nrD t b a ≤ 5 := by
  have : nrD t b a < cnt (fun _ => true) 6 := cnt_strict 6 (fun _ _ _ => rfl) ⟨a, ha, rfl, by simp⟩
  have e : cnt (fun _ => true) 6 = 6 := rfl
  omega
theorem nx_step {t : Nat → Nat} (hv : vT t) {a b : Nat} (ha : a < 6) (hb : b < 6) (hab : a ≠ b) (hd : dst t (sC t) (6 * a + b) < 1000000) : nxE t a b < 2 * t 49 ∧ sC t (nxE t a b) < 1000000 ∧ sA t (nxE t a b) = a ∧ sE t (nxE t a b) < 6 ∧ dst t (sC t) (6 * sE t (nxE t a b) + b) < 1000000 ∧ nrD t b (sE t (nxE t a b)) < nrD t b a := by
  obtain ⟨e1, ⟨e2, e3, e4⟩, _⟩ := nxE_ok hv ha hb hab hd
  have sm := sC_small hv e1
  have e6 := sE_lt hv e1
  refine ⟨e1, e2, e3, e6, by omega, ?_⟩
  refine cnt_strict 6 (fun i _ hi => ?_) ⟨sE t (nxE t a b), e6, decide_eq_true (by omega), by simp⟩
  rw [decide_eq_true_iff] at hi ⊢
  omega
theorem wyF_sum {t : Nat → Nat} (hv : vT t) {b : Nat} (hb : b < 6) : ∀ k T a, nrD t b a ≤ k → a < 6 → dst t (sC t) (6 * a + b) < 1000000 → sT (wyF t b k T a) (t 49) ≤ sT T (t 49) + nrD t b a := by
  intro k
  induction k with
  | zero =>
    intro T a _ _ _
    exact Nat.le_add_right _ _
  | succ k ih =>
    intro T a hk ha hd
    unfold wyF
    by_cases e : a = b
    · rw [if_pos e]; exact Nat.le_add_right _ _
    · obtain ⟨n1, n2, n3, n4, n5, n6⟩ := nx_step hv ha hb e hd
      rw [if_neg e]
      have := ih (icT T (nxE t a b / 2)) (sE t (nxE t a b)) (by omega) n4 n5
      rw [sT_ic (show nxE t a b / 2 < t 49 by omega)] at this
      omega
theorem f5_wayLoop {t : Nat → Nat} {fr to ln kd fg on bk x : Nat → Int32} {cl sz hm : Int32} (hv : vT t) (hc : cR t fr to ln kd fg cl sz hm) (hon : ∀ s, s < t 49 → on s = nI (sC t (2 * s))) (hbk : ∀ s, s < t 49 → bk s = nI (sC t (2 * s + 1))) (hx : RI x (dst t (sC t))) {b : Nat} (hb : b < 6) {N : Nat} (hN : 100 ≤ N) : ∀ k T a m M (lf : Nat → Int32), nrD t b a ≤ k → m + nrD t b a ≤ 5 → k < M → a < 6 → dst t (sC t) (6 * a + b) < 1000000 → RT lf T (t 49) → ∃ lf', lp (fun s_6 : Int32 × Int32 × (Nat → Int32) => f_X5_layWay_b6 N s_6.2.1 s_6.2.2 s_6.1 (nI b) sz fr to on bk x) M (nI a, nI m, lf) = some (.inl lf') ∧ RT lf' (wyF t b k T a) (t 49) := by
  have h8 := hv.1
  have hfr : ∀ s, s < t 49 → fr s = nI (t s) := fun s h => (hc.2.2.2 s h).1
  have hto : ∀ s, s < t 49 → to s = nI (t (8 + s)) := fun s h => (hc.2.2.2 s h).2.1
  intro k
  induction k with
  | zero =>
    intro T a m M lf hk hm hM ha hd hT
    obtain ⟨M, rfl⟩ : ∃ M', M = M' + 1 := ⟨M - 1, by omega⟩
    have e : a = b := by
      apply Classical.byContradiction
      intro e
      have := (nx_step hv ha hb e hd).2.2.2.2.2
      omega
    refine ⟨lf, lp_r ?_, hT⟩
    show f_X5_layWay_b6 N (nI m) lf (nI a) (nI b) sz fr to on bk x = _
    unfold f_X5_layWay_b6
    rw [if_neg (show ¬ (6 : Int32) ≤ nI m from nI_ge (b := 6) (by omega) (by decide)), if_pos (by rw [e])]
  | succ k ih =>
    intro T a m M lf hk hm hM ha hd hT
    obtain ⟨M, rfl⟩ : ∃ M', M = M' + 1 := ⟨M - 1, by omega⟩
    unfold wyF
    by_cases e : a = b
    · rw [if_pos e]
      refine ⟨lf, lp_r ?_, hT⟩
      show f_X5_layWay_b6 N (nI m) lf (nI a) (nI b) sz fr to on bk x = _
      unfold f_X5_layWay_b6
      rw [if_neg (show ¬ (6 : Int32) ≤ nI m from nI_ge (b := 6) (by omega) (by decide)), if_pos (by rw [e])]
    · rw [if_neg e]
      obtain ⟨n1, n2, n3, n4, n5, n6⟩ := nx_step hv ha hb e hd
      have sn : nxE t a b / 2 < t 49 := by omega
      have ce : (if t (nxE t a b / 2) = a then t (8 + nxE t a b / 2) else t (nxE t a b / 2)) = sE t (nxE t a b) := by
        obtain ⟨q1, q2⟩ := st_of hv n1 n3
        unfold sE
        by_cases z : t (nxE t a b / 2) = a
        · rw [if_pos z, if_pos (q2.mp z)]
        · rw [if_neg z, if_neg (fun w => z (q2.mpr w))]
      have hT' : RT (upd lf (nxE t a b / 2) (nI (T (nxE t a b / 2) + 1))) (icT T (nxE t a b / 2)) (t 49) := RT_set hT
      obtain ⟨lf', i1, i2⟩ := ih (icT T (nxE t a b / 2)) (sE t (nxE t a b)) (m + 1) M _ (by omega) (by omega) (by omega) n4 n5 hT'
      refine ⟨lf', (lp_l (b := fun s_6 : Int32 × Int32 × (Nat → Int32) => f_X5_layWay_b6 N s_6.2.1 s_6.2.2 s_6.1 (nI b) sz fr to on bk x) ?_).trans i1, i2⟩
      show f_X5_layWay_b6 N (nI m) lf (nI a) (nI b) sz fr to on bk x = _
      unfold f_X5_layWay_b6
      rw [if_neg (show ¬ (6 : Int32) ≤ nI m from nI_ge (b := 6) (by omega) (by decide)), if_neg (fun w => e ((nI_eq (by omega) (by omega)).mp w)), f8_firstOf hv hc.1 hfr hto hon hbk (fun e he => by have := sC_small hv he; omega) hx ha hb e hd (nxE_ok hv ha hb e hd) hN, Option.bind_some, if_pos (nI_pos' (by omega)), ga_ok (by omega) (by decide), ga_ok (by omega) (by decide), f7_otherEnd hv hfr hto sn ha, Option.bind_some, ce, nI_clamp (by omega), hT _ sn, nI_1, nI_1]
theorem f10_wayLoop {t : Nat → Nat} {w x pa : Nat → Int32} (hv : vT t) (h : mR t w) (hx : RI x (dst t (sC t))) {a0 b : Nat} (ha0 : a0 < 6) (hb : b < 6) (hpa : pa a0 = nI b) (hab : a0 < b) {N : Nat} (hN : 100 ≤ N) : ∀ k T a M (lf : Nat → Int32), nrD t b a ≤ k → k < M → a < 6 → dst t (sC t) (6 * a + b) < 1000000 → RT lf T (t 49) → ∃ lf', lp (fun s_74 : Int32 × (Nat → Int32) => f_X10_splices_b74 N s_74.1 s_74.2 (nI a0) pa x w) M (nI a, lf) = some lf' ∧ RT lf' (wyF t b k T a) (t 49) := by
  have h8 := hv.1
  intro k
  induction k with
  | zero =>
    intro T a M lf hk hM ha hd hT
    obtain ⟨M, rfl⟩ : ∃ M', M = M' + 1 := ⟨M - 1, by omega⟩
    have e : a = b := by
      apply Classical.byContradiction
      intro e
      have := (nx_step hv ha hb e hd).2.2.2.2.2
      omega
    refine ⟨lf, lp_r ?_, hT⟩
    show f_X10_splices_b74 N (nI a) lf (nI a0) pa x w = _
    unfold f_X10_splices_b74
    rw [if_neg (nI_pos (by omega)), ga_ok ha0 (by decide), nI_clamp (by omega), hpa, if_neg (nI_ge hab (by omega)), ga_ok ha0 (by decide), if_pos (by rw [e])]
  | succ k ih =>
    intro T a M lf hk hM ha hd hT
    obtain ⟨M, rfl⟩ : ∃ M', M = M' + 1 := ⟨M - 1, by omega⟩
    unfold wyF
    by_cases e : a = b
    · rw [if_pos e]
      refine ⟨lf, lp_r ?_, hT⟩
      show f_X10_splices_b74 N (nI a) lf (nI a0) pa x w = _
      unfold f_X10_splices_b74
      rw [if_neg (nI_pos (by omega)), ga_ok ha0 (by decide), nI_clamp (by omega), hpa, if_neg (nI_ge hab (by omega)), ga_ok ha0 (by decide), if_pos (by rw [e])]
    · rw [if_neg e]
      obtain ⟨n1, n2, n3, n4, n5, n6⟩ := nx_step hv ha hb e hd
      have sn : nxE t a b / 2 < t 49 := by omega
      have hd2 : nI (nxE t a b) / (2 : Int32) = nI (nxE t a b / 2) := pk_div (d := 2) (by omega) (by decide) (by decide)
      have hT' : RT (upd lf (nxE t a b / 2) (nI (T (nxE t a b / 2) + 1))) (icT T (nxE t a b / 2)) (t 49) := RT_set hT
      obtain ⟨lf', i1, i2⟩ := ih (icT T (nxE t a b / 2)) (sE t (nxE t a b)) M _ (by omega) (by omega) n4 n5 hT'
      refine ⟨lf', (lp_l (b := fun s_74 : Int32 × (Nat → Int32) => f_X10_splices_b74 N s_74.1 s_74.2 (nI a0) pa x w) ?_).trans i1, i2⟩
      show f_X10_splices_b74 N (nI a) lf (nI a0) pa x w = _
      unfold f_X10_splices_b74
      rw [if_neg (nI_pos (by omega)), ga_ok ha0 (by decide), nI_clamp (show a0 < 2 ^ 31 by omega), hpa, if_neg (nI_ge hab (by omega)), ga_ok ha0 (by decide), if_neg (fun w => e ((nI_eq (by omega) (by omega)).mp w)), ga_ok ha0 (by decide), f10_nextStep hv h hx ha hb e hd (nxE_ok hv ha hb e hd) hN, Option.bind_some, hd2, ga_ok (by omega) (by decide), ga_ok (by omega) (by decide), f10_ends hv h n1, Option.bind_some, nI_clamp (by omega), hT _ sn, nI_1]
/-- partners by which ways are laid -/
def PM (D : Nat → Nat) (f : Nat → Int32) : Prop := ∀ q, q < 6 → f q = -9 ∨ ∃ b, b < 6 ∧ f q = nI b ∧ (q < b → D (6 * q + b) < 1000000)
def gtB (f : Nat → Int32) (a : Nat) : Bool := decide (nI a < f a)
theorem mt_PM {D : Nat → Nat} : ∀ n S f, S < n → S < 64 → B2 D S < 1000000 → PM D f → PM D (mt D S f) ∧ cnt (gtB (mt D S f)) 6 ≤ cnt (gtB f) 6 + pcS S / 2
  | 0, S, f, hn, _, _, _ => absurd hn (by omega)
  | n + 1, S, f, hn, hS, hB, hf => by
    by_cases e : S = 0
    · subst e
      rw [mt_0]
      exact ⟨hf, by omega⟩
    · obtain ⟨j1, j2, j3, j4, _⟩ := jB_ok hS e hB
      obtain ⟨⟨l1, l2, l3⟩, _⟩ := low_ok S hS (by omega)
      obtain ⟨r1, r2, r3, r4⟩ := rm_ok S hS (low S) l1 (jB D S) j2 l2 j3 (by omega)
      have rl := rm_lt (i := low S) (j := jB D S) e
      unfold Fj at j4
      have hf' : PM D (upd (upd f (low S) (nI (jB D S))) (jB D S) (nI (low S))) := fun q hq => by
        by_cases a : q = jB D S
        · rw [a, pk_us]
          exact Or.inr ⟨low S, l1, rfl, fun w => by omega⟩
        · rw [pk_un a]
          by_cases b : q = low S
          · rw [b, pk_us]
            exact Or.inr ⟨jB D S, j2, rfl, fun _ => by omega⟩
          · rw [pk_un b]; exact hf q hq
      obtain ⟨i1, i2⟩ := mt_PM n (rm S (low S) (jB D S)) _ (by omega) (by omega) (by omega) hf'
      rw [mt_S D e]
      refine ⟨i1, ?_⟩
      have c1 : cnt (gtB (upd (upd f (low S) (nI (jB D S))) (jB D S) (nI (low S)))) 6 ≤ cnt (gtB f) 6 + 1 := by
        have k1 : ∀ n, cnt (gtB (upd (upd f (low S) (nI (jB D S))) (jB D S) (nI (low S)))) n ≤ cnt (gtB f) n + if low S < n then 1 else 0 := fun n => by
          induction n with
          | zero => exact Nat.zero_le _
          | succ n ihn =>
            unfold cnt
            by_cases a : n = jB D S
            · have g : ¬ gtB (upd (upd f (low S) (nI (jB D S))) (jB D S) (nI (low S))) n = true := fun w => by
                have := of_decide_eq_true w
                rw [a, pk_us] at this
                exact absurd this (nI_nlt (by omega) (by omega))
              rw [if_neg g]
              split at ihn <;> split <;> split <;> omega
            · by_cases b : n = low S
              · rw [if_neg (by omega)] at ihn
                rw [if_pos (show low S < n + 1 by omega)]
                split <;> split <;> omega
              · have g : gtB (upd (upd f (low S) (nI (jB D S))) (jB D S) (nI (low S))) n = gtB f n := by
                  unfold gtB
                  rw [pk_un a, pk_un b]
                rw [g]
                split at ihn
                · rw [if_pos (show low S < n + 1 by omega)]; split <;> omega
                · rw [if_neg (show ¬ low S < n + 1 by omega)]; split <;> omega
        have := k1 6
        rw [if_pos l1] at this
        exact this
      omega
/-- how often each street is to be walked, with the ways of the corners below a -/
def duT (t : Nat → Nat) : Nat → Nat := fun s => if isD t s then 1 else 0
noncomputable def lyT (t : Nat → Nat) (f : Nat → Int32) : Nat → Nat → Nat
  | 0 => duT t
  | a + 1 => if gtB f a then wyF t (f a).toNatClampNeg 5 (lyT t f a) a else lyT t f a
theorem duT_sum (t : Nat → Nat) : ∀ n, sT (duT t) n ≤ n
  | 0 => Nat.le_refl _
  | n + 1 => by
    have := duT_sum t n
    unfold sT
    have h1 : duT t n ≤ 1 := by unfold duT; split <;> omega
    omega
theorem PM_gt {D : Nat → Nat} {f : Nat → Int32} (hf : PM D f) {a : Nat} (ha : a < 6) (h : gtB f a = true) : (f a).toNatClampNeg < 6 ∧ f a = nI (f a).toNatClampNeg ∧ a < (f a).toNatClampNeg ∧ D (6 * a + (f a).toNatClampNeg) < 1000000 := by
  have h' := of_decide_eq_true h
  rcases hf a ha with e | ⟨b, b1, b2, b3⟩
  · rw [e] at h'
    rw [i32_lt, nI_toInt (by omega), show (-9 : Int32).toInt = -9 from rfl] at h'
    omega
  · rw [b2] at h'
    have : a < b := (nI_ltI (by omega) (by omega)).mp h'
    rw [b2, nI_clamp (by omega)]
    exact ⟨b1, rfl, this, b3 this⟩
theorem lyT_sum {t : Nat → Nat} (hv : vT t) {f : Nat → Int32} (hf : PM (dst t (sC t)) f) : ∀ a, a ≤ 6 → sT (lyT t f a) (t 49) ≤ 8 + 5 * cnt (gtB f) a
  | 0, _ => by
    have := duT_sum t (t 49)
    have := hv.1
    show sT (duT t) (t 49) ≤ _
    omega
  | a + 1, h => by
    have ih := lyT_sum hv hf a (by omega)
    unfold lyT cnt
    by_cases z : gtB f a = true
    · obtain ⟨p1, p2, p3, p4⟩ := PM_gt hf (show a < 6 by omega) z
      have n5 := nrD_5 t (f a).toNatClampNeg (show a < 6 by omega)
      have := wyF_sum hv p1 5 (lyT t f a) a n5 (by omega) p4
      rw [if_pos z, if_pos z]
      omega
    · rw [if_neg z, if_neg z]; omega
theorem f5_lay {t : Nat → Nat} {fr to ln kd fg on bk x pa lf f : Nat → Int32} {cl sz hm : Int32} (hv : vT t) (hc : cR t fr to ln kd fg cl sz hm) (hon : ∀ s, s < t 49 → on s = nI (sC t (2 * s))) (hbk : ∀ s, s < t 49 → bk s = nI (sC t (2 * s + 1))) (hx : RI x (dst t (sC t))) (hf : PM (dst t (sC t)) f) (hpa : ∀ q, q < 6 → pa q = f q) {N : Nat} (hN : 100 ≤ N) : ∃ lf', f_X5_lay N lf cl sz fr to kd on bk x pa = some lf' ∧ RT lf' (lyT t f 6) (t 49) := by
  have h8 := hv.1
  obtain ⟨l1, e1, e2⟩ := lp_cnt (b := fun s_2 : Int32 × (Nat → Int32) => f_X5_lay_b2 s_2.1 s_2.2 sz cl kd) (fun i z => (nI i, z)) (fun i z => ∀ s, s < i → s < t 49 → z s = nI (duT t s)) (fun z => RT z (duT t) (t 49)) 8 (fun i z hi hp => by
    show ∃ x', f_X5_lay_b2 (nI i) z sz cl kd = some (Sum.inl (nI (i + 1), x')) ∧ _
    unfold f_X5_lay_b2
    rw [if_neg (show ¬ (8 : Int32) ≤ nI i from nI_ge (b := 8) hi (by decide)), nI_1, hc.1]
    by_cases y : t 49 ≤ i
    · rw [if_pos (nI_le y (by omega)), ga_ok (by omega) (by decide), nI_clamp (by omega)]
      exact ⟨_, rfl, fun s hs hs' => by rw [pk_un (by omega)]; exact hp s (by omega) hs'⟩
    · rw [if_neg (nI_ge (by omega) (by omega)), f7_isDue hv hc (by omega), Option.bind_some, ga_ok (by omega) (by decide), nI_clamp (by omega)]
      refine ⟨_, rfl, fun s hs hs' => ?_⟩
      by_cases e : s = i
      · subst e
        rw [pk_us]
        unfold duT
        by_cases w : isD t s = true
        · rw [if_neg (fun q => b2_0.mp q w), if_pos w]; rfl
        · rw [if_pos (b2_0.mpr w), if_neg w]; rfl
      · rw [pk_un e]; exact hp s (by omega) hs') (fun z hp => by
    refine ⟨z, ?_, fun s hs => hp s (by omega) hs⟩
    show f_X5_lay_b2 (nI 8) z sz cl kd = _
    unfold f_X5_lay_b2
    rw [if_pos (show (8 : Int32) ≤ nI 8 by decide)]) 8 0 N lf (by omega) (by omega) (fun s hs => absurd hs (by omega))
  obtain ⟨l2, e3, e4⟩ := lp_cnt (b := fun s_49 : Int32 × (Nat → Int32) => f_X5_lay_b49 N s_49.1 s_49.2 pa sz fr to on bk x) (fun i z => (nI i, z)) (fun i z => RT z (lyT t f i) (t 49)) (fun z => RT z (lyT t f 6) (t 49)) 6 (fun i z hi hp => by
    show ∃ x', f_X5_lay_b49 N (nI i) z pa sz fr to on bk x = some (Sum.inl (nI (i + 1), x')) ∧ RT x' (if gtB f i then wyF t (f i).toNatClampNeg 5 (lyT t f i) i else lyT t f i) (t 49)
    unfold f_X5_lay_b49 f_X3_partnerOf
    rw [if_neg (show ¬ (6 : Int32) ≤ nI i from nI_ge (b := 6) hi (by decide)), ga_ok hi (by decide), nI_clamp (by omega), Option.bind_some, hpa i hi, nI_1]
    by_cases y : gtB f i = true
    · obtain ⟨p1, p2, p3, p4⟩ := PM_gt hf hi y
      rw [if_pos y, if_neg (by rw [p2]; exact nI_ge p3 (by omega)), Option.bind_some]
      have n5 := nrD_5 t (f i).toNatClampNeg hi
      obtain ⟨lf', w1, w2⟩ := f5_wayLoop hv hc hon hbk hx p1 hN 5 (lyT t f i) i 0 N z n5 (by omega) (by omega) hi p4 hp
      refine ⟨lf', ?_, w2⟩
      have w1' : lp (fun s_6 : Int32 × Int32 × (Nat → Int32) => f_X5_layWay_b6 N s_6.2.1 s_6.2.2 s_6.1 (f i) sz fr to on bk x) N (nI i, (0 : Int32), z) = some (.inl lf') := by
        rw [p2]; exact w1
      unfold f_X5_layWay
      rw [w1', Option.bind_some, Option.bind_some]
    · refine ⟨z, ?_, by rw [if_neg y]; exact hp⟩
      rw [if_pos (by
        have : ¬ nI i < f i := fun q => y (decide_eq_true q)
        rw [i32_lt] at this
        rw [i32_le]
        omega)]) (fun z hp => by
    refine ⟨z, ?_, hp⟩
    show f_X5_lay_b49 N (nI 6) z pa sz fr to on bk x = _
    unfold f_X5_lay_b49
    rw [if_pos (show (6 : Int32) ≤ nI 6 by decide)]) 6 0 N l1 (by omega) (by omega) e2
  refine ⟨l2, ?_, e4⟩
  unfold f_X5_lay
  rw [show lp (fun s_2 : Int32 × (Nat → Int32) => f_X5_lay_b2 s_2.1 s_2.2 sz cl kd) N ((0 : Int32), lf) = some l1 from e1, Option.bind_some, show lp (fun s_49 : Int32 × (Nat → Int32) => f_X5_lay_b49 N s_49.1 s_49.2 pa sz fr to on bk x) N ((0 : Int32), l1) = some l2 from e3, Option.bind_some]
theorem f10_lay {t : Nat → Nat} {w x pa tm f : Nat → Int32} (hv : vT t) (h : mR t w) (hx : RI x (dst t (sC t))) (hf : PM (dst t (sC t)) f) (hpa : ∀ q, q < 6 → pa q = f q) {N : Nat} (hN : 100 ≤ N) : ∃ l1 l2, lp (fun s_12 : Int32 × (Nat → Int32) => f_X10_splices_b12 w s_12.1 s_12.2) N ((0 : Int32), tm) = some l1 ∧ lp (fun s_47 : Int32 × (Nat → Int32) => f_X10_splices_b47 N s_47.1 s_47.2 pa x w) N ((0 : Int32), l1) = some l2 ∧ RT l2 (lyT t f 6) (t 49) := by
  have h8 := hv.1
  obtain ⟨l1, e1, e2⟩ := lp_cnt (b := fun s_12 : Int32 × (Nat → Int32) => f_X10_splices_b12 w s_12.1 s_12.2) (fun i z => (nI i, z)) (fun i z => ∀ s, s < i → z s = nI (duT t s)) (fun z => RT z (duT t) (t 49)) (t 49) (fun i z hi hp => by
    show ∃ x', f_X10_splices_b12 w (nI i) z = some (Sum.inl (nI (i + 1), x')) ∧ _
    unfold f_X10_splices_b12
    rw [ga_in (by decide), show w (Int32.toNatClampNeg (49 : Int32)) = nI (t 49) from h.1, if_neg (nI_ge hi (by omega)), f10_isDue hv h hi, Option.bind_some, ga_ok (by omega) (by decide), nI_clamp (by omega), nI_1]
    refine ⟨_, rfl, fun s hs => ?_⟩
    by_cases e : s = i
    · subst e
      rw [pk_us]
      unfold duT
      by_cases w : isD t s = true
      · rw [if_neg (fun q => b2_0.mp q w), if_pos w]; rfl
      · rw [if_pos (b2_0.mpr w), if_neg w]; rfl
    · rw [pk_un e]; exact hp s (by omega)) (fun z hp => by
    refine ⟨z, ?_, hp⟩
    show f_X10_splices_b12 w (nI (t 49)) z = _
    unfold f_X10_splices_b12
    rw [ga_in (by decide), show w (Int32.toNatClampNeg (49 : Int32)) = nI (t 49) from h.1, if_pos (nI_le (Nat.le_refl _) (by omega))]) (t 49) 0 N tm (by omega) (by omega) (fun s hs => absurd hs (by omega))
  obtain ⟨l2, e3, e4⟩ := lp_cnt (b := fun s_47 : Int32 × (Nat → Int32) => f_X10_splices_b47 N s_47.1 s_47.2 pa x w) (fun i z => (nI i, z)) (fun i z => RT z (lyT t f i) (t 49)) (fun z => RT z (lyT t f 6) (t 49)) 6 (fun i z hi hp => by
    show ∃ x', f_X10_splices_b47 N (nI i) z pa x w = some (Sum.inl (nI (i + 1), x')) ∧ RT x' (if gtB f i then wyF t (f i).toNatClampNeg 5 (lyT t f i) i else lyT t f i) (t 49)
    unfold f_X10_splices_b47
    rw [if_neg (show ¬ (6 : Int32) ≤ nI i from nI_ge (b := 6) hi (by decide)), ga_ok hi (by decide), nI_clamp (by omega), hpa i hi, nI_1]
    by_cases y : gtB f i = true
    · obtain ⟨p1, p2, p3, p4⟩ := PM_gt hf hi y
      rw [if_pos y, if_neg (by rw [p2]; exact nI_ge p3 (by omega)), Option.bind_some]
      have n5 := nrD_5 t (f i).toNatClampNeg hi
      obtain ⟨lf', w1, w2⟩ := f10_wayLoop (pa := pa) hv h hx hi p1 ((hpa i hi).trans p2) p3 hN 5 (lyT t f i) i N z n5 (by omega) hi p4 hp
      refine ⟨lf', ?_, w2⟩
      rw [w1, Option.bind_some]
    · refine ⟨z, ?_, by rw [if_neg y]; exact hp⟩
      have le : f i ≤ nI i := by
        have : ¬ nI i < f i := fun q => y (decide_eq_true q)
        rw [i32_lt] at this
        rw [i32_le]
        omega
      obtain ⟨M, rfl⟩ : ∃ M', N = M' + 1 := ⟨N - 1, by omega⟩
      rw [if_pos le, ga_ok hi (by decide), Option.bind_some, lp_r (b := fun s_74 : Int32 × (Nat → Int32) => f_X10_splices_b74 (M + 1) s_74.1 s_74.2 (nI i) pa x w) (e := z) (by
        show f_X10_splices_b74 (M + 1) (f i) z (nI i) pa x w = _
        unfold f_X10_splices_b74
        by_cases q : f i < 0
        · rw [if_pos q]
        · rw [if_neg q, ga_ok hi (by decide), nI_clamp (by omega), hpa i hi, if_pos le]), Option.bind_some]) (fun z hp => by
    refine ⟨z, ?_, hp⟩
    show f_X10_splices_b47 N (nI 6) z pa x w = _
    unfold f_X10_splices_b47
    rw [if_pos (show (6 : Int32) ≤ nI 6 by decide)]) 6 0 N l1 (by omega) (by omega) e2
  exact ⟨l1, l2, e1, e3, e4⟩
