/-! what the distances are: closed under steps, and walked -/
theorem edF_le {c a b : Nat} {D : Nat → Nat} (i : Nat) : edF c a b D i ≤ D i := by
  unfold edF
  split
  · unfold setT
    split
    · rename_i h e; subst e; omega
    · exact Nat.le_refl _
  · exact Nat.le_refl _
theorem edF_at {c a b : Nat} {D : Nat → Nat} : edF c a b D (6 * a + b) ≤ c := by
  unfold edF
  split
  · unfold setT; rw [if_pos rfl]; exact Nat.le_refl _
  · omega
theorem edN_mono (t C : Nat → Nat) (i n : Nat) : ∀ m, edN t C (n + m) i ≤ edN t C n i
  | 0 => Nat.le_refl _
  | m + 1 => Nat.le_trans (edF_le i) (edN_mono t C i n m)
theorem edN_at (t C : Nat → Nat) {e n : Nat} (h : e < n) : edN t C n (6 * sA t e + sE t e) ≤ C e := by
  have h1 := edN_mono t C (6 * sA t e + sE t e) (e + 1) (n - (e + 1))
  rw [show e + 1 + (n - (e + 1)) = n by omega] at h1
  exact Nat.le_trans h1 edF_at
theorem edN_diag (t C : Nat → Nat) {i : Nat} (hi : i < 6) (n : Nat) : edN t C n (6 * i + i) = 0 := by
  have h1 := edN_mono t C (6 * i + i) 0 n
  rw [Nat.zero_add] at h1
  have : edN t C 0 (6 * i + i) = 0 := by show d0 (6 * i + i) = 0; unfold d0; rw [if_pos (by omega)]
  omega
def fwM (k : Nat) (D : Nat → Nat) (q : Nat) : Nat := if D (6 * (q / 6) + k) + D (6 * k + q % 6) < D q then D (6 * (q / 6) + k) + D (6 * k + q % 6) else D q
theorem fwI_eq {k : Nat} (hk : k < 6) {D : Nat → Nat} (hz : D (6 * k + k) = 0) : ∀ p, p ≤ 36 → ∀ q, q < 36 → fwI k D p q = if q < p then fwM k D q else D q
  | 0, _, q, _ => by rw [if_neg (by omega)]; rfl
  | p + 1, hp, q, hq => by
    have ih := fwI_eq hk hz p (by omega)
    have col : ∀ i, i < 6 → fwI k D p (6 * i + k) = D (6 * i + k) := fun i hi => by
      rw [ih _ (by omega)]
      split
      · unfold fwM
        rw [show (6 * i + k) / 6 = i by omega, show (6 * i + k) % 6 = k by omega, hz, if_neg (by omega)]
      · rfl
    have row : ∀ j, j < 6 → fwI k D p (6 * k + j) = D (6 * k + j) := fun j hj => by
      rw [ih _ (by omega)]
      split
      · unfold fwM
        rw [show (6 * k + j) / 6 = k by omega, show (6 * k + j) % 6 = j by omega, hz, if_neg (by omega)]
      · rfl
    show fwF k p (fwI k D p) q = _
    unfold fwF edF
    rw [col _ (by omega), row _ (by omega), show 6 * (p / 6) + p % 6 = p by omega, ih p (by omega), if_neg (Nat.lt_irrefl p)]
    by_cases e : q = p
    · subst e
      rw [if_pos (Nat.lt_succ_self q)]
      unfold fwM
      split
      · rw [setT_s]
      · rw [ih q hq, if_neg (Nat.lt_irrefl q)]
    · by_cases g : q < p
      · rw [if_pos (show q < p + 1 by omega)]
        split
        · rw [setT_n e, ih q hq, if_pos g]
        · rw [ih q hq, if_pos g]
      · rw [if_neg (show ¬ q < p + 1 by omega)]
        split
        · rw [setT_n e, ih q hq, if_neg g]
        · rw [ih q hq, if_neg g]
theorem fwI_36 {k : Nat} (hk : k < 6) {D : Nat → Nat} (hz : D (6 * k + k) = 0) {i j : Nat} (hi : i < 6) (hj : j < 6) : fwI k D 36 (6 * i + j) = if D (6 * i + k) + D (6 * k + j) < D (6 * i + j) then D (6 * i + k) + D (6 * k + j) else D (6 * i + j) := by
  rw [fwI_eq hk hz 36 (Nat.le_refl _) _ (by omega), if_pos (by omega)]
  unfold fwM
  rw [show (6 * i + j) / 6 = i by omega, show (6 * i + j) % 6 = j by omega]
theorem fwK_tri {D : Nat → Nat} (hz : ∀ i, i < 6 → D (6 * i + i) = 0) : ∀ m, m ≤ 6 → (∀ i, i < 6 → fwK D m (6 * i + i) = 0) ∧ (∀ i j, i < 6 → j < 6 → fwK D m (6 * i + j) ≤ D (6 * i + j)) ∧ ∀ i k j, i < 6 → k < m → j < 6 → fwK D m (6 * i + j) ≤ fwK D m (6 * i + k) + fwK D m (6 * k + j)
  | 0, _ => ⟨hz, fun _ _ _ _ => Nat.le_refl _, fun _ k _ _ hk _ => absurd hk (by omega)⟩
  | m + 1, hm => by
    obtain ⟨z, l, tr⟩ := fwK_tri hz m (by omega)
    have ev : ∀ i j, i < 6 → j < 6 → fwK D (m + 1) (6 * i + j) = if fwK D m (6 * i + m) + fwK D m (6 * m + j) < fwK D m (6 * i + j) then fwK D m (6 * i + m) + fwK D m (6 * m + j) else fwK D m (6 * i + j) := fun i j hi hj => fwI_36 (show m < 6 by omega) (z m (by omega)) hi hj
    refine ⟨fun i hi => ?_, fun i j hi hj => ?_, fun i k j hi hk hj => ?_⟩
    · rw [ev i i hi hi, z i hi, if_neg (by omega)]
    · rw [ev i j hi hj]
      have := l i j hi hj
      split <;> omega
    · have hk6 : k < 6 := by omega
      have zm := z m (by omega)
      rw [ev i j hi hj, ev i k hi hk6, ev k j hk6 hj]
      by_cases e : k = m
      · subst e
        rw [zm]
        split <;> split <;> split <;> omega
      · have a1 := tr i k j hi (by omega) hj
        have a2 := tr m k j (by omega) (by omega) hj
        have a3 := tr i k m hi (by omega) (by omega)
        split <;> split <;> split <;> omega
theorem dst_tri (t C : Nat → Nat) : (∀ i, i < 6 → dst t C (6 * i + i) = 0) ∧ (∀ i j, i < 6 → j < 6 → dst t C (6 * i + j) ≤ edN t C (2 * t 49) (6 * i + j)) ∧ ∀ i k j, i < 6 → k < 6 → j < 6 → dst t C (6 * i + j) ≤ dst t C (6 * i + k) + dst t C (6 * k + j) :=
  fwK_tri (fun i hi => edN_diag t C hi _) 6 (Nat.le_refl _)
theorem dst_step {t C : Nat → Nat} (hv : vT t) {e j : Nat} (he : e < 2 * t 49) (hj : j < 6) : dst t C (6 * sA t e + j) ≤ C e + dst t C (6 * sE t e + j) := by
  obtain ⟨z, l, tr⟩ := dst_tri t C
  have la := sA_lt hv he
  have le := sE_lt hv he
  have h1 := tr (sA t e) (sE t e) j la le hj
  have h2 := l (sA t e) (sE t e) la le
  have h3 := edN_at t C he
  omega
/-- walks, and what they cost -/
def isW (t C : Nat → Nat) : Nat → List Nat → Nat → Prop
  | i, [], j => i = j
  | i, e :: es, j => (e < 2 * t 49 ∧ C e < 1000000 ∧ sA t e = i) ∧ isW t C (sE t e) es j
def wC (C : Nat → Nat) : List Nat → Nat
  | [] => 0
  | e :: es => C e + wC C es
theorem isW_app {t C : Nat → Nat} : ∀ {i k j : Nat} {es fs : List Nat}, isW t C i es k → isW t C k fs j → isW t C i (es ++ fs) j
  | i, k, j, [], fs, h, g => by
    have : i = k := h
    subst this; exact g
  | i, k, j, e :: es, fs, h, g => ⟨h.1, isW_app h.2 g⟩
theorem wC_app (C : Nat → Nat) : ∀ es fs, wC C (es ++ fs) = wC C es + wC C fs
  | [], fs => by rw [List.nil_append]; unfold wC; omega
  | e :: es, fs => by
    show C e + wC C (es ++ fs) = C e + wC C es + wC C fs
    rw [wC_app C es fs]; omega
def Rz (t C D : Nat → Nat) : Prop := ∀ i j, i < 6 → j < 6 → D (6 * i + j) < 1000000 → ∃ es, isW t C i es j ∧ wC C es = D (6 * i + j)
theorem Rz_edF {t C D : Nat → Nat} (h : Rz t C D) {a b c : Nat} (ha : a < 6) (hb : b < 6) (hw : c < 1000000 → ∃ es, isW t C a es b ∧ wC C es = c) : Rz t C (edF c a b D) := by
  intro i j hi hj hlt
  unfold edF at hlt ⊢
  split at hlt
  · rename_i hc
    rw [if_pos hc]
    by_cases e : 6 * i + j = 6 * a + b
    · have e1 : i = a := by omega
      have e2 : j = b := by omega
      subst e1; subst e2
      rw [setT_s] at hlt ⊢
      exact hw hlt
    · rw [setT_n e] at hlt ⊢
      exact h i j hi hj hlt
  · rename_i hc
    rw [if_neg hc]
    exact h i j hi hj hlt
theorem Rz_edN {t C : Nat → Nat} (hv : vT t) : ∀ n, n ≤ 2 * t 49 → Rz t C (edN t C n)
  | 0, _ => fun i j hi hj hlt => by
    have hlt' : d0 (6 * i + j) < 1000000 := hlt
    unfold d0 at hlt'
    split at hlt'
    · rename_i hz
      have : i = j := by omega
      subst this
      refine ⟨[], rfl, ?_⟩
      show 0 = d0 (6 * i + i)
      unfold d0; rw [if_pos (by omega)]
    · omega
  | n + 1, hn => Rz_edF (Rz_edN hv n (by omega)) (sA_lt hv (by omega)) (sE_lt hv (by omega)) (fun hc => ⟨[n], ⟨⟨by omega, hc, rfl⟩, rfl⟩, by show C n + 0 = C n; omega⟩)
theorem Rz_fwI {t C D : Nat → Nat} (h : Rz t C D) {k : Nat} (hk : k < 6) : ∀ p, p ≤ 36 → Rz t C (fwI k D p)
  | 0, _ => h
  | p + 1, hp => by
    have ih := Rz_fwI h hk p (by omega)
    refine Rz_edF ih (by omega) (by omega) (fun hc => ?_)
    obtain ⟨es, h1, h2⟩ := ih (p / 6) k (by omega) hk (by omega)
    obtain ⟨fs, h3, h4⟩ := ih k (p % 6) hk (by omega) (by omega)
    exact ⟨es ++ fs, isW_app h1 h3, by rw [wC_app, h2, h4]⟩
theorem Rz_fwK {t C D : Nat → Nat} (h : Rz t C D) : ∀ m, m ≤ 6 → Rz t C (fwK D m)
  | 0, _ => h
  | m + 1, hm => Rz_fwI (Rz_fwK h m (by omega)) (by omega) 36 (Nat.le_refl _)
theorem dst_walk {t C : Nat → Nat} (hv : vT t) : Rz t C (dst t C) := Rz_fwK (Rz_edN hv _ (Nat.le_refl _)) 6 (Nat.le_refl _)
theorem dst_least {t C : Nat → Nat} (hv : vT t) {j : Nat} (hj : j < 6) : ∀ es i, isW t C i es j → dst t C (6 * i + j) ≤ wC C es
  | [], i, h => by
    have : i = j := h
    subst this
    rw [(dst_tri t C).1 i hj]; exact Nat.zero_le _
  | e :: es, i, h => by
    have h1 := dst_least hv hj es _ h.2
    have h2 := dst_step (C := C) hv h.1.1 hj
    rw [h.1.2.2] at h2
    show _ ≤ C e + wC C es
    omega
/-- there is a step by which the least way begins -/
theorem dst_next {t C : Nat → Nat} (hv : vT t) {i j : Nat} (hi : i < 6) (hj : j < 6) (hij : i ≠ j) (hd : dst t C (6 * i + j) < 1000000) : ∃ e, e < 2 * t 49 ∧ C e < 1000000 ∧ sA t e = i ∧ C e + dst t C (6 * sE t e + j) = dst t C (6 * i + j) := by
  obtain ⟨es, h1, h2⟩ := dst_walk hv i j hi hj hd
  match es, h1, h2 with
  | [], h1, _ => exact absurd h1 hij
  | e :: es, h1, h2 =>
    refine ⟨e, h1.1.1, h1.1.2.1, h1.1.2.2, ?_⟩
    have h3 := dst_least hv hj es _ h1.2
    have h4 := dst_step (C := C) hv h1.1.1 hj
    rw [h1.1.2.2] at h4
    have h5 : C e + wC C es = dst t C (6 * i + j) := h2
    omega
