/-! streets dealt to several postmen: the model -/
def MD (t : Nat → Nat) (mo tg : Int32) (dl : Nat → Int32) (o : DL) : Prop :=
  match o with
  | none => mo = -9 ∧ tg = -9 ∧ ∀ i, i < 8 → dl i = -9
  | some q => mo = nI q.1 ∧ tg = nI q.2.1 ∧ (∀ i, i < 8 → dl i = if i < t 49 ∧ isD t i = true then nI (q.2.2 i) else -9) ∧ q.1 < 1000000 ∧ q.2.1 ≤ 3000000
def MP (t P : Nat → Nat) (pr : Nat → Int32) : Prop := ∀ S, S &&& dueB t (t 49) = S → pr S = toldC (P S) ∧ P S ≤ 1000000
theorem MP_le {t P g : Nat → Nat} {pr : Nat → Int32} (hv : vT t) (hP : MP t P pr) {n s : Nat} (hn : n ≤ 3) (hs : s ≤ t 49) : vW P t n g s ≤ 3000000 ∧ vM P t n g s ≤ 1000000 := by
  have h1 : vW P t n g s ≤ n * 1000000 := sT_bd n (fun p _ => (hP _ (hS_sub hv g hs p)).2)
  have h2 : vM P t n g s < 1000001 := mxN_lt (by omega) n (fun p _ => by have := (hP _ (hS_sub hv g hs p)).2; omega)
  have : n * 1000000 ≤ 3 * 1000000 := Nat.mul_le_mul_right _ hn
  omega
theorem f10_copyDl {t g : Nat → Nat} {w hd dl : Nat → Int32} (hv : vT t) (h : mR t w) (hh : ∀ i, i < t 49 → hd i = if isD t i = true then nI (g i) else -9) {N : Nat} (hN : 100 ≤ N) : ∃ dl', lp (fun s_201 : Int32 × (Nat → Int32) => f_X10_deals_b201 s_201.1 s_201.2 w hd) N ((0 : Int32), dl) = some dl' ∧ ∀ i, i < 8 → dl' i = if i < t 49 ∧ isD t i = true then nI (g i) else -9 := by
  have h8 := hv.1
  obtain ⟨dl', e1, e2⟩ := lp_cnt (b := fun s_201 : Int32 × (Nat → Int32) => f_X10_deals_b201 s_201.1 s_201.2 w hd) (fun i z => (nI i, z)) (fun i z => ∀ j, j < i → z j = if j < t 49 ∧ isD t j = true then nI (g j) else -9) (fun z => ∀ j, j < 8 → z j = if j < t 49 ∧ isD t j = true then nI (g j) else -9) 8 (fun i z hi hz => by
    show ∃ x', f_X10_deals_b201 (nI i) z w hd = some (Sum.inl (nI (i + 1), x')) ∧ _
    unfold f_X10_deals_b201
    rw [if_neg (show ¬ (8 : Int32) ≤ nI i from nI_ge (b := 8) hi (by decide)), ga_in (by decide), show w (Int32.toNatClampNeg (49 : Int32)) = nI (t 49) from h.1, nI_1, nI_clamp (by omega)]
    by_cases y : t 49 ≤ i
    · rw [if_pos (nI_le y (by omega)), ga_ok (by omega) (by decide)]
      refine ⟨_, rfl, fun j hj => ?_⟩
      by_cases e : j = i
      · rw [e, pk_us, if_neg (fun q => by omega)]
      · rw [pk_un e]; exact hz j (by omega)
    · rw [if_neg (nI_ge (by omega) (by omega)), ga_ok (by omega) (by decide), ga_ok (by omega) (by decide)]
      refine ⟨_, rfl, fun j hj => ?_⟩
      by_cases e : j = i
      · rw [e, pk_us, hh i (by omega)]
        by_cases d : isD t i = true
        · rw [if_pos d, if_pos ⟨by omega, d⟩]
        · rw [if_neg d, if_neg (fun q => d q.2)]
      · rw [pk_un e]; exact hz j (by omega)) (fun z hz => by
    refine ⟨z, ?_, hz⟩
    show f_X10_deals_b201 (nI 8) z w hd = _
    unfold f_X10_deals_b201
    rw [if_pos (show (8 : Int32) ≤ nI 8 by decide)]) 8 0 N dl (by omega) (by omega) (fun j hj => absurd hj (by omega))
  exact ⟨dl', e1, e2⟩
def GM (t : Nat → Nat) (s : Nat) (ha hd : Nat → Int32) (o : DL) (r : Int32 × Int32 × (Nat → Int32) × (Nat → Int32) × (Nat → Int32)) : Prop := MD t r.1 r.2.1 r.2.2.2.2 o ∧ (∀ p, p < 3 → r.2.2.1 p = ha p) ∧ ∀ i, i < s → r.2.2.2.1 i = hd i
theorem f10_leaf {t P g : Nat → Nat} {w pr ha hd dl : Nat → Int32} {mo tg : Int32} {o : DL} (hv : vT t) (h : mR t w) (hP : MP t P pr) {n : Nat} (hn : n ≤ 3) (hha : ∀ p, p < 3 → ha p = nI (hS t g (t 49) p)) (hhd : ∀ i, i < t 49 → hd i = if isD t i = true then nI (g i) else -9) (hM : MD t mo tg dl o) {N d : Nat} (hN : 100 ≤ N) : ∃ r, f_X10_deals N (d + 1) (nI n) (nI (t 49)) mo tg pr ha hd dl w = some r ∧ GM t (t 49) ha hd (mF P t n 0 (t 49) g o) r := by
  have h8 := hv.1
  obtain ⟨w1, w2⟩ := MP_le (g := g) hv hP hn (Nat.le_refl _)
  have pl : ∀ p, P (hS t g (t 49) p) ≤ 1000000 := fun p => (hP _ (hS_sub hv g (Nat.le_refl _) p)).2
  have pe : ∀ p, pr (hS t g (t 49) p) = toldC (P (hS t g (t 49) p)) := fun p => (hP _ (hS_sub hv g (Nat.le_refl _) p)).1
  have step : ∀ i, i < n → P (hS t g (t 49) i) < 1000000 → f_X10_deals_b104 (nI n) (nI i) (nI (mxN (fun p => P (hS t g (t 49) p)) i)) (nI (sT (fun p => P (hS t g (t 49) p)) i)) ha pr mo tg hd dl = some (.inl (nI (mxN (fun p => P (hS t g (t 49) p)) (i + 1)), nI (sT (fun p => P (hS t g (t 49) p)) (i + 1)), nI (i + 1))) := fun i hi hlt => by
    have m1 : mxN (fun p => P (hS t g (t 49) p)) i < 1000001 := mxN_lt (by omega) i (fun p _ => by have := pl p; omega)
    have hl := hS_lt t g h8 i
    unfold f_X10_deals_b104
    rw [if_neg (nI_ge hi (by omega)), ga_ok (by omega) (by decide), nI_clamp (show i < 2 ^ 31 by omega), hha i (by omega), ga_ok (by omega) (by decide), nI_clamp (show hS t g (t 49) i < 2 ^ 31 by omega), pe i, show toldC (P (hS t g (t 49) i)) = nI (P (hS t g (t 49) i)) from if_pos hlt, if_pos (nI_pos' (by omega)), nI_add, nI_1]
    show some (Sum.inl (if nI (mxN (fun p => P (hS t g (t 49) p)) i) < nI (P (hS t g (t 49) i)) then nI (P (hS t g (t 49) i)) else nI (mxN (fun p => P (hS t g (t 49) p)) i), _, _)) = some (Sum.inl (nI (if mxN (fun p => P (hS t g (t 49) p)) i < P (hS t g (t 49) i) then P (hS t g (t 49) i) else mxN (fun p => P (hS t g (t 49) p)) i), _, _))
    by_cases z : mxN (fun p => P (hS t g (t 49) p)) i < P (hS t g (t 49) i)
    · rw [if_pos (nI_lt z (by omega)), if_pos z]; rfl
    · rw [if_neg (nI_nlt (by omega) (by omega)), if_neg z]; rfl
  unfold f_X10_deals mF
  rw [ga_in (by decide), show w (Int32.toNatClampNeg (49 : Int32)) = nI (t 49) from h.1, if_pos (nI_le (Nat.le_refl _) (by omega))]
  by_cases all : ∀ p, p < n → P (hS t g (t 49) p) < 1000000
  · have vm : vM P t n g (t 49) < 1000000 := mxN_lt (by omega) n all
    have hl := lp_seq (b := fun s_104 : Int32 × Int32 × Int32 => f_X10_deals_b104 (nI n) s_104.2.2 s_104.1 s_104.2.1 ha pr mo tg hd dl) (fun i => (nI (mxN (fun p => P (hS t g (t 49) p)) i), nI (sT (fun p => P (hS t g (t 49) p)) i), nI i)) (.inl (nI (vM P t n g (t 49)), nI (vW P t n g (t 49)))) n (fun i hi => step i hi (all i hi)) (by
      show f_X10_deals_b104 (nI n) (nI n) (nI (mxN (fun p => P (hS t g (t 49) p)) n)) (nI (sT (fun p => P (hS t g (t 49) p)) n)) ha pr mo tg hd dl = _
      unfold f_X10_deals_b104
      rw [if_pos (nI_le (Nat.le_refl _) (by omega))]; rfl) n 0 N (by omega) (by omega)
    have hl' : lp (fun s_104 : Int32 × Int32 × Int32 => f_X10_deals_b104 (nI n) s_104.2.2 s_104.1 s_104.2.1 ha pr mo tg hd dl) N ((0 : Int32), (0 : Int32), (0 : Int32)) = some (.inl (nI (vM P t n g (t 49)), nI (vW P t n g (t 49)))) := hl
    rw [hl', Option.bind_some]
    dsimp only
    obtain ⟨dl', c1, c2⟩ := f10_copyDl (dl := dl) hv h hhd hN
    have j1 : f_X10_deals_j1 N w hd dl (nI (vM P t n g (t 49))) (nI (vW P t n g (t 49))) ha = some (nI (vM P t n g (t 49)), nI (vW P t n g (t 49)), ha, hd, dl') := by
      unfold f_X10_deals_j1
      rw [c1, Option.bind_some]
    have yes : GM t (t 49) ha hd (some (vM P t n g (t 49), vW P t n g (t 49), g)) (nI (vM P t n g (t 49)), nI (vW P t n g (t 49)), ha, hd, dl') := ⟨⟨rfl, rfl, c2, vm, w1⟩, fun _ _ => rfl, fun _ _ => rfl⟩
    rw [j1]
    cases o with
    | none =>
      obtain ⟨m1, m2, m3⟩ := hM
      have : btr none (vM P t n g (t 49)) (vW P t n g (t 49)) = true := by unfold btr; rw [decide_eq_true vm]; rfl
      rw [if_pos (by rw [m1]; decide), if_pos this]
      exact ⟨_, rfl, yes⟩
    | some q =>
      obtain ⟨m1, m2, m3, m4, m5⟩ := id hM
      have bt : btr (some q) (vM P t n g (t 49)) (vW P t n g (t 49)) = (decide (vM P t n g (t 49) < q.1) || (decide (vM P t n g (t 49) = q.1) && decide (vW P t n g (t 49) < q.2.1))) := by
        unfold btr
        rw [decide_eq_true vm, Bool.true_and]
      have m1' : ¬ mo < 0 := by rw [m1]; exact nI_pos (by omega)
      rw [if_neg m1']
      by_cases a : vM P t n g (t 49) < q.1
      · rw [if_pos (by rw [m1]; exact nI_lt a (by omega)), bt, decide_eq_true a, Bool.true_or, if_pos rfl]
        exact ⟨_, rfl, yes⟩
      · rw [if_neg (by rw [m1]; exact nI_nlt (by omega) (by omega)), bt, decide_eq_false a, Bool.false_or]
        by_cases b : vM P t n g (t 49) = q.1
        · rw [if_pos (by rw [m1, b]), decide_eq_true b, Bool.true_and]
          by_cases c : vW P t n g (t 49) < q.2.1
          · rw [if_neg (by rw [m2]; exact nI_ge c (by omega)), decide_eq_true c, if_pos rfl]
            exact ⟨_, rfl, yes⟩
          · rw [if_pos (by rw [m2]; exact nI_le (by omega) (by omega)), decide_eq_false c, if_neg (by decide)]
            exact ⟨_, rfl, hM, fun _ _ => rfl, fun _ _ => rfl⟩
        · rw [if_neg (by rw [m1]; exact fun z => b ((nI_eq (by omega) (by omega)).mp z)), decide_eq_false b, Bool.false_and, if_neg (by decide)]
          exact ⟨_, rfl, hM, fun _ _ => rfl, fun _ _ => rfl⟩
  · have ex : ∃ p, p < n ∧ ¬ P (hS t g (t 49) p) < 1000000 := by
      apply Classical.byContradiction
      intro z
      exact all (fun p hp => Classical.byContradiction (fun y => z ⟨p, hp, y⟩))
    obtain ⟨p0, ⟨q1, q2⟩, q3⟩ := pk_least (fun p => p < n ∧ ¬ P (hS t g (t 49) p) < 1000000) ex
    have hl := lp_seq (b := fun s_104 : Int32 × Int32 × Int32 => f_X10_deals_b104 (nI n) s_104.2.2 s_104.1 s_104.2.1 ha pr mo tg hd dl) (fun i => (nI (mxN (fun p => P (hS t g (t 49) p)) i), nI (sT (fun p => P (hS t g (t 49) p)) i), nI i)) (.inr (mo, tg, ha, hd, dl)) p0 (fun i hi => step i (by omega) (Classical.byContradiction (fun y => q3 i hi ⟨by omega, y⟩))) (by
      show f_X10_deals_b104 (nI n) (nI p0) (nI (mxN (fun p => P (hS t g (t 49) p)) p0)) (nI (sT (fun p => P (hS t g (t 49) p)) p0)) ha pr mo tg hd dl = _
      have hl := hS_lt t g h8 p0
      unfold f_X10_deals_b104
      rw [if_neg (nI_ge q1 (by omega)), ga_ok (by omega) (by decide), nI_clamp (show p0 < 2 ^ 31 by omega), hha p0 (by omega), ga_ok (by omega) (by decide), nI_clamp (show hS t g (t 49) p0 < 2 ^ 31 by omega), pe p0, show toldC (P (hS t g (t 49) p0)) = -9 from if_neg q2, if_neg (by decide)]) p0 0 N (by omega) (by omega)
    have hl' : lp (fun s_104 : Int32 × Int32 × Int32 => f_X10_deals_b104 (nI n) s_104.2.2 s_104.1 s_104.2.1 ha pr mo tg hd dl) N ((0 : Int32), (0 : Int32), (0 : Int32)) = some (.inr (mo, tg, ha, hd, dl)) := hl
    have nb : ¬ btr o (vM P t n g (t 49)) (vW P t n g (t 49)) = true := fun z => by
      have h1 := btr_lt z
      have h2 : P (hS t g (t 49) p0) ≤ vM P t n g (t 49) := mxN_le (f := fun p => P (hS t g (t 49) p)) n p0 q1
      omega
    rw [hl', Option.bind_some, if_neg nb]
    exact ⟨_, rfl, hM, fun _ _ => rfl, fun _ _ => rfl⟩
theorem f10_deals {t P : Nat → Nat} {w pr : Nat → Int32} (hv : vT t) (h : mR t w) (hP : MP t P pr) {n : Nat} (hn : n ≤ 3) {N : Nat} (hN : 100 ≤ N) : ∀ k d s (g : Nat → Nat) (o : DL) (ha hd dl : Nat → Int32) (mo tg : Int32), s + k = t 49 → k < d → (∀ p, p < 3 → ha p = nI (hS t g s p)) → (∀ i, i < s → hd i = if isD t i = true then nI (g i) else -9) → MD t mo tg dl o → ∃ r, f_X10_deals N d (nI n) (nI s) mo tg pr ha hd dl w = some r ∧ GM t s ha hd (mF P t n k s g o) r := by
  have h8 := hv.1
  intro k
  induction k with
  | zero =>
    intro d s g o ha hd dl mo tg hs hdd hha hhd hM
    obtain ⟨d, rfl⟩ : ∃ d', d = d' + 1 := ⟨d - 1, by omega⟩
    have e : s = t 49 := by omega
    subst e
    exact f10_leaf hv h hP hn hha hhd hM hN
  | succ k ih =>
    intro d s g o ha hd dl mo tg hs hdd hha hhd hM
    obtain ⟨d, rfl⟩ : ∃ d', d = d' + 1 := ⟨d - 1, by omega⟩
    have hst : s < t 49 := by omega
    unfold f_X10_deals mF
    rw [ga_in (by decide), show w (Int32.toNatClampNeg (49 : Int32)) = nI (t 49) from h.1, if_neg (nI_ge hst (by omega)), ga_ok (by omega) (by decide), f10_isDue hv h hst, Option.bind_some, nI_clamp (by omega)]
    by_cases y : isD t s = true
    · rw [if_neg (fun z => b2_0.mp z y), if_pos y]
      obtain ⟨e, l1, l2, l3, l4⟩ := lp_cnt (b := fun s_37 : Int32 × Int32 × Int32 × (Nat → Int32) × (Nat → Int32) × (Nat → Int32) => f_X10_deals_b37 (f_X10_deals N d) (nI n) s_37.1 s_37.2.1 s_37.2.2.1 s_37.2.2.2.1 s_37.2.2.2.2.1 s_37.2.2.2.2.2 (nI s) pr w) (fun i q => (nI i, q)) (fun i q => GM t s ha hd (fdF (fun q p => mF P t n k (s + 1) (setT g s p) q) i o) q) (fun e => GM t s ha hd (fdF (fun q p => mF P t n k (s + 1) (setT g s p) q) n o) e) n (fun i q hi hq => by
        obtain ⟨mo1, tg1, ha1, hd1, dl1⟩ := q
        obtain ⟨q1, q2, q3⟩ := hq
        dsimp only at q1 q2 q3
        have hlt := hS_lt t g (show s ≤ 8 by omega) i
        have ss : ∀ p, p < 3 → ha1 p = nI (hS t g s p) := fun p hp => (q2 p hp).trans (hha p hp)
        have s1 : ∀ p, p < 3 → upd ha1 i (nI (hS t g s i ||| 2 ^ s)) p = nI (hS t (setT g s i) (s + 1) p) := fun p hp => by
          by_cases e : p = i
          · rw [e, pk_us, hS_or y]
          · rw [pk_un e, ss p hp, hS_set y, if_neg e]
        have t1 : ∀ j, j < s + 1 → upd hd1 s (nI i) j = if isD t j = true then nI (setT g s i j) else -9 := fun j hj => by
          by_cases e : j = s
          · rw [e, pk_us, setT_s, if_pos y]
          · rw [pk_un e, setT_n e, q3 j (by omega)]
            exact hhd j (by omega)
        obtain ⟨r, r1, r2, r3, r4⟩ := ih d (s + 1) (setT g s i) (fdF (fun q p => mF P t n k (s + 1) (setT g s p) q) i o) (upd ha1 i (nI (hS t g s i ||| 2 ^ s))) (upd hd1 s (nI i)) dl1 mo1 tg1 (by omega) (by omega) s1 t1 q1
        refine ⟨(r.1, r.2.1, upd r.2.2.1 i (nI (hS t g s i)), r.2.2.2.1, r.2.2.2.2), ?_, r2, fun p hp => ?_, fun j hj => ?_⟩
        · show f_X10_deals_b37 (f_X10_deals N d) (nI n) (nI i) mo1 tg1 ha1 hd1 dl1 (nI s) pr w = _
          unfold f_X10_deals_b37
          rw [if_neg (nI_ge hi (by omega)), ga_ok (by omega) (by decide), ga_ok (by omega) (by decide), ga_ok (by omega) (by decide), nI_clamp (show i < 2 ^ 31 by omega), nI_clamp (show s < 2 ^ 31 by omega), ss i (by omega), sh1 (by omega), xI_or, nI_1, r1, Option.bind_some, ga_ok (by omega) (by decide), ga_ok (by omega) (by decide), r3 i (by omega), pk_us, hS_or y, clrI _ (hS_lt t (setT g s i) (show s + 1 ≤ 8 by omega) i) s (by omega), hS_clr y, nI_1]
        · dsimp only
          by_cases e : p = i
          · rw [e, pk_us]; exact (hha i (by omega)).symm
          · rw [pk_un e, r3 p hp, pk_un e]; exact q2 p hp
        · dsimp only
          rw [r4 j (by omega), pk_un (by omega)]
          exact q3 j hj) (fun q hq => by
        refine ⟨q, ?_, hq⟩
        dsimp only
        unfold f_X10_deals_b37
        rw [if_pos (nI_le (Nat.le_refl _) (by omega))]) n 0 N (mo, tg, ha, upd hd s (-9), dl) (by omega) (by omega) ⟨hM, fun _ _ => rfl, fun i hi => pk_un (by omega)⟩
      have l1' : lp (fun s_37 : Int32 × Int32 × Int32 × (Nat → Int32) × (Nat → Int32) × (Nat → Int32) => f_X10_deals_b37 (f_X10_deals N d) (nI n) s_37.1 s_37.2.1 s_37.2.2.1 s_37.2.2.2.1 s_37.2.2.2.2.1 s_37.2.2.2.2.2 (nI s) pr w) N ((0 : Int32), mo, tg, ha, upd hd s (-9), dl) = some e := l1
      rw [l1', Option.bind_some]
      exact ⟨_, rfl, l2, l3, l4⟩
    · obtain ⟨r, r1, r2, r3, r4⟩ := ih d (s + 1) g o ha (upd hd s (-9)) dl mo tg (by omega) (by omega) (fun p hp => by rw [hS_skip y]; exact hha p hp) (fun i hi => by
        by_cases e : i = s
        · rw [e, pk_us, if_neg y]
        · rw [pk_un e]; exact hhd i (by omega)) hM
      rw [if_pos (b2_0.mpr y), nI_1, r1, Option.bind_some, if_neg y]
      exact ⟨_, rfl, r2, r3, fun i hi => by rw [r4 i (by omega), pk_un (by omega)]⟩
theorem f10_prices {t : Nat → Nat} {w lf pr : Nat → Int32} (hv : vT t) (h : mR t w) {V : Nat → Nat → Nat} (hV : IsV t (t 48) (dueB t (t 49)) V) {N : Nat} (hN : 8000000 ≤ N) : ∃ y pr', lp (fun s_8 : Int32 × (Nat → Int32) × (Nat → Int32) => f_X10_shares_b8 N (nI (dueB t (t 49))) s_8.1 s_8.2.1 s_8.2.2 w) N ((0 : Int32), lf, pr) = some (y, pr') ∧ MP t (fun S => V S (t 48)) pr' := by
  have hU := dueB_lt hv
  have h48 := hv.2.1
  obtain ⟨⟨y, pr'⟩, e1, e2⟩ := lp_cnt (b := fun s_8 : Int32 × (Nat → Int32) × (Nat → Int32) => f_X10_shares_b8 N (nI (dueB t (t 49))) s_8.1 s_8.2.1 s_8.2.2 w) (fun i z => (nI i, z)) (fun i z => ∀ S, S < i → S &&& dueB t (t 49) = S → z.2 S = toldC (V S (t 48))) (fun z : (Nat → Int32) × (Nat → Int32) => ∀ S, S &&& dueB t (t 49) = S → z.2 S = toldC (V S (t 48))) (dueB t (t 49) + 1) (fun i z hi hz => by
    obtain ⟨lf, pr⟩ := z
    show ∃ x', f_X10_shares_b8 N (nI (dueB t (t 49))) (nI i) lf pr w = some (Sum.inl (nI (i + 1), x')) ∧ _
    unfold f_X10_shares_b8
    rw [if_neg (nI_nlt (by omega) (by omega)), nI_1]
    by_cases e : i &&& dueB t (t 49) = i
    · obtain ⟨y, s1, s2⟩ := f10_seeks (x := lf) hv h (show i < 256 by omega) h48 hN
      have hW := Dn_IsV hv (show i < 256 by omega) h48 s2
      have one := IsV_one hv (show i < 256 by omega) (IsV_sub e hV) hW (Nat.and_self i) h48
      have one' : V i (t 48) = Lf y (6 * 0 + t 48) := by
        rw [one]
        show Lf y (6 * (i ^^^ i) + t 48) = _
        rw [Nat.xor_self]
      rw [← one'] at s1
      rw [if_pos ((sub_test (by omega)).mpr e), ga_in (by decide), show w (Int32.toNatClampNeg (48 : Int32)) = nI (t 48) from h.2.1, s1, Option.bind_some, ga_ok (by omega) (by decide), nI_clamp (by omega)]
      refine ⟨(y, upd pr i (toldC (V i (t 48)))), rfl, fun S hS hSU => ?_⟩
      by_cases q : S = i
      · rw [q]; exact pk_us
      · show upd pr i _ S = _
        rw [pk_un q]; exact hz S (by omega) hSU
    · rw [if_neg (fun q => e ((sub_test (by omega)).mp q))]
      refine ⟨(lf, pr), rfl, fun S hS hSU => ?_⟩
      by_cases q : S = i
      · rw [q] at hSU; exact absurd hSU e
      · exact hz S (by omega) hSU) (fun z hz => by
    refine ⟨z, ?_, fun S hSU => hz S (by have := Nat.and_le_right (n := S) (m := dueB t (t 49)); omega) hSU⟩
    show f_X10_shares_b8 N (nI (dueB t (t 49))) (nI (dueB t (t 49) + 1)) z.1 z.2 w = _
    unfold f_X10_shares_b8
    rw [if_pos (nI_lt (by omega) (by omega))]) (dueB t (t 49) + 1) 0 N (lf, pr) (by omega) (by omega) (fun S hS => absurd hS (by omega))
  exact ⟨y, pr', e1, fun S hSU => ⟨e2 S hSU, hV.1 S (t 48) hSU h48⟩⟩
theorem f10_clears {dl : Nat → Int32} {N : Nat} (hN : 100 ≤ N) : ∃ dl', lp (fun s_62 : Int32 × (Nat → Int32) => f_X10_shares_b62 s_62.1 s_62.2) N ((0 : Int32), dl) = some dl' ∧ ∀ i, i < 8 → dl' i = -9 := by
  exact lp_cnt (b := fun s_62 : Int32 × (Nat → Int32) => f_X10_shares_b62 s_62.1 s_62.2) (fun i z => (nI i, z)) (fun i z => ∀ j, j < i → z j = -9) (fun z => ∀ j, j < 8 → z j = -9) 8 (fun i z hi hz => by
    refine ⟨upd z i (-9), ?_, fun j hj => ?_⟩
    · show f_X10_shares_b62 (nI i) z = _
      unfold f_X10_shares_b62
      rw [if_neg (show ¬ (8 : Int32) ≤ nI i from nI_ge (b := 8) hi (by decide)), ga_ok hi (by decide), nI_clamp (by omega), nI_1]
    · by_cases e : j = i
      · rw [e, pk_us]
      · rw [pk_un e]; exact hz j (by omega)) (fun z hz => by
    refine ⟨z, ?_, hz⟩
    show f_X10_shares_b62 (nI 8) z = _
    unfold f_X10_shares_b62
    rw [if_pos (show (8 : Int32) ≤ nI 8 by decide)]) 8 0 N dl (by omega) (by omega) (fun j hj => absurd hj (by omega))
theorem hS_0 (t g : Nat → Nat) (p : Nat) : hS t g 0 p = 0 := rfl
theorem f10_shares {t : Nat → Nat} {w lf pr ha hd dl : Nat → Int32} {mo tg : Int32} (hv : vT t) (h : mR t w) {V : Nat → Nat → Nat} (hV : IsV t (t 48) (dueB t (t 49)) V) {n : Nat} (hn : n ≤ 3) (hha : ∀ p, p < 3 → ha p = 0) {N : Nat} (hN : 8000000 ≤ N) : ∃ mo' tg' y pr' ha' hd' dl', f_X10_shares N (nI n) mo tg lf pr ha hd dl w = some (mo', tg', y, pr', ha', hd', dl') ∧ MD t mo' tg' dl' (mF (fun S => V S (t 48)) t n (t 49) 0 (fun _ => 0) none) ∧ ∀ p, p < 3 → ha' p = 0 := by
  have h8 := hv.1
  obtain ⟨y, pr', p1, p2⟩ := f10_prices (lf := lf) (pr := pr) hv h hV hN
  obtain ⟨dl1, d1, d2⟩ := f10_clears (dl := dl) (show 100 ≤ N by omega)
  obtain ⟨r, r1, r2, r3, r4⟩ := f10_deals hv h p2 hn (show 100 ≤ N by omega) (t 49) 12 0 (fun _ => 0) none ha hd dl1 (-9) (-9) (by omega) (by omega) (fun p hp => by rw [hS_0]; exact hha p hp) (fun i hi => absurd hi (by omega)) ⟨rfl, rfl, d2⟩
  refine ⟨r.1, r.2.1, y, pr', r.2.2.1, r.2.2.2.1, r.2.2.2.2, ?_, r2, fun p hp => (r3 p hp).trans (hha p hp)⟩
  unfold f_X10_shares
  rw [f10_due hv h (by omega), Option.bind_some, p1, Option.bind_some]
  dsimp only
  rw [d1, Option.bind_some, show (0 : Int32) = nI 0 from rfl, r1, Option.bind_some]
theorem f0_seek {t : Nat → Nat} {x se tr be : Nat → Int32} {po fd gr tg bu : Int32} (hv : vT t) {P : Nat → Nat} (hP : CP t P x) {n : Nat} (hn1 : 1 ≤ n) (hn : n ≤ 3) {N : Nat} (hN : 100 ≤ N) : ∃ fd' gr' tg' bu' se' tr' be', f_X0_seek N (nI n) po fd gr tg bu se tr be (nI (dueB t (t 49))) (nI (t 48)) x = some (nI n, fd', gr', tg', bu', se', tr', be') ∧ CR t n fd' gr' tg' bu' be' (cF P t n (t 49) 0 (fun _ => 0) none) := by
  have h8 := hv.1
  obtain ⟨se1, e1, e2⟩ := lp_cnt (b := fun s_21 : Int32 × (Nat → Int32) => f_X0_seek_b21 s_21.1 s_21.2) (fun i z => (nI i, z)) (fun i z => ∀ j, j < i → z j = 0) (fun z => ∀ j, j < 3 → z j = 0) 3 (fun i z hi hz => by
    refine ⟨upd z i 0, ?_, fun j hj => ?_⟩
    · show f_X0_seek_b21 (nI i) z = _
      unfold f_X0_seek_b21
      rw [if_neg (show ¬ (3 : Int32) ≤ nI i from nI_ge (b := 3) hi (by decide)), ga_ok hi (by decide), nI_clamp (by omega), nI_1]
    · by_cases e : j = i
      · rw [e, pk_us]
      · rw [pk_un e]; exact hz j (by omega)) (fun z hz => by
    refine ⟨z, ?_, hz⟩
    show f_X0_seek_b21 (nI 3) z = _
    unfold f_X0_seek_b21
    rw [if_pos (show (3 : Int32) ≤ nI 3 by decide)]) 3 0 N se (by omega) (by omega) (fun j hj => absurd hj (by omega))
  obtain ⟨r, r1, r2, r3, r4⟩ := f0_give hv hP hn hN (t 49) 12 0 (fun _ => 0) none se1 tr be 0 gr tg bu (by omega) (by omega) (fun p hp => by rw [hS_0]; exact e2 p hp) (fun i hi => absurd hi (by omega)) rfl
  refine ⟨r.1, r.2.1, r.2.2.1, r.2.2.2.1, r.2.2.2.2.1, r.2.2.2.2.2.1, r.2.2.2.2.2.2, ?_, r2⟩
  have e1' : lp (fun s_21 : Int32 × (Nat → Int32) => f_X0_seek_b21 s_21.1 s_21.2) N ((0 : Int32), se) = some se1 := e1
  have r1' : f_X0_give N 12 (0 : Int32) (nI n) (0 : Int32) gr tg bu se1 tr be (nI (dueB t (t 49))) (nI (t 48)) x = some r := r1
  unfold f_X0_seek
  rw [e1', Option.bind_some, if_pos (show nI n ≤ (3 : Int32) from nI_le (b := 3) hn (by decide)), r1', Option.bind_some]
