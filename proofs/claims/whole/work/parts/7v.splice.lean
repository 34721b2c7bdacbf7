/-! walks spliced together: the pure side -/
def sT (T : Nat → Nat) : Nat → Nat
  | 0 => 0
  | n + 1 => sT T n + T n
theorem sT_cong {T U : Nat → Nat} : ∀ n, (∀ s, s < n → T s = U s) → sT T n = sT U n
  | 0, _ => rfl
  | n + 1, h => by unfold sT; rw [sT_cong n (fun s hs => h s (by omega)), h n (by omega)]
theorem sT_le {T : Nat → Nat} : ∀ n s, s < n → T s ≤ sT T n
  | 0, s, h => absurd h (by omega)
  | n + 1, s, h => by
    unfold sT
    by_cases e : s = n
    · subst e; omega
    · have := sT_le (T := T) n s (by omega); omega
theorem sT_set {T : Nat → Nat} {s v : Nat} : ∀ n, s < n → sT (setT T s v) n + T s = sT T n + v
  | 0, h => absurd h (by omega)
  | n + 1, h => by
    unfold sT
    by_cases e : s = n
    · subst e
      rw [setT_s, sT_cong (U := T) s (fun i hi => setT_n (by omega))]; omega
    · have := sT_set (T := T) (s := s) (v := v) n (by omega)
      rw [setT_n (show n ≠ s by omega)]; omega
def dcT (T : Nat → Nat) (s : Nat) : Nat → Nat := setT T s (T s - 1)
def icT (T : Nat → Nat) (s : Nat) : Nat → Nat := setT T s (T s + 1)
theorem sT_dc {T : Nat → Nat} {s n : Nat} (h : s < n) (h0 : 0 < T s) : sT (dcT T s) n + 1 = sT T n := by
  have := sT_set (T := T) (v := T s - 1) n h
  unfold dcT
  omega
theorem sT_ic {T : Nat → Nat} {s n : Nat} (h : s < n) : sT (icT T s) n = sT T n + 1 := by
  have := sT_set (T := T) (v := T s + 1) n h
  unfold icT
  omega
/-- the least street left at a corner -/
def lfF (t T : Nat → Nat) (c : Nat) : Nat → Nat → Option Nat
  | _, 0 => none
  | i, k + 1 => if 0 < T i ∧ tch t c i = true then some i else lfF t T c (i + 1) k
theorem lfF_ok (t T : Nat → Nat) (c : Nat) : ∀ k i s, lfF t T c i k = some s → s < i + k ∧ 0 < T s ∧ tch t c s = true
  | 0, i, s, h => by cases h
  | k + 1, i, s, h => by
    unfold lfF at h
    split at h
    · rename_i z
      cases h
      exact ⟨by omega, z⟩
    · have := lfF_ok t T c k (i + 1) s h
      exact ⟨by omega, this.2⟩
def lfS (t T : Nat → Nat) (c : Nat) : Option Nat := lfF t T c 0 (t 49)
theorem lfS_ok {t T : Nat → Nat} {c s : Nat} (h : lfS t T c = some s) : s < t 49 ∧ 0 < T s ∧ tch t c s = true := by
  have := lfF_ok t T c _ _ s h
  rw [Nat.zero_add] at this
  exact this
def oI (o : Option Nat) : Int32 := match o with | none => -9 | some s => nI s
def oeT (t : Nat → Nat) (c s : Nat) : Nat := if t s = c then t (8 + s) else t s
theorem oeT_lt {t : Nat → Nat} (hv : vT t) {s : Nat} (hs : s < t 49) (c : Nat) : oeT t c s < 6 := by
  have := hv.2.2.1 s hs
  unfold oeT
  split <;> omega
/-- a walk till none is left: the corners that it comes to, and what is left -/
def wkF (t : Nat → Nat) : Nat → (Nat → Nat) → Nat → List Nat × (Nat → Nat)
  | 0, T, _ => ([], T)
  | k + 1, T, c => match lfS t T c with | none => ([], T) | some s => (oeT t c s :: (wkF t k (dcT T s) (oeT t c s)).1, (wkF t k (dcT T s) (oeT t c s)).2)
theorem wkF_none {t T : Nat → Nat} {k c : Nat} (h : lfS t T c = none) : wkF t k T c = ([], T) := by
  cases k with
  | zero => rfl
  | succ k => unfold wkF; rw [h]
theorem wkF_some {t T : Nat → Nat} {k c s : Nat} (h : lfS t T c = some s) : wkF t (k + 1) T c = (oeT t c s :: (wkF t k (dcT T s) (oeT t c s)).1, (wkF t k (dcT T s) (oeT t c s)).2) := by
  conv => lhs; unfold wkF
  rw [h]
theorem wkF_ok {t : Nat → Nat} (hv : vT t) : ∀ k T c, sT T (t 49) ≤ k → (wkF t k T c).1.length + sT (wkF t k T c).2 (t 49) = sT T (t 49) ∧ ∀ x, x ∈ (wkF t k T c).1 → x < 6
  | 0, T, c, h => ⟨by show 0 + sT T (t 49) = _; omega, fun x hx => absurd hx (by simp [wkF])⟩
  | k + 1, T, c, h => by
    cases q : lfS t T c with
    | none => rw [wkF_none q]; exact ⟨by show 0 + sT T (t 49) = _; omega, fun x hx => absurd hx (by simp)⟩
    | some s =>
      obtain ⟨a1, a2, a3⟩ := lfS_ok q
      have d := sT_dc a1 a2
      obtain ⟨i1, i2⟩ := wkF_ok hv k (dcT T s) (oeT t c s) (by omega)
      rw [wkF_some q]
      refine ⟨by rw [List.length_cons]; dsimp only; omega, fun x hx => ?_⟩
      rcases List.mem_cons.mp hx with rfl | hx
      · exact oeT_lt hv a1 c
      · exact i2 x hx
theorem wkF_pos {t T : Nat → Nat} {k c s : Nat} (h : lfS t T c = some s) : 0 < (wkF t (k + 1) T c).1.length := by
  rw [wkF_some h, List.length_cons]; omega
/-- the first place at whose corner a street is left -/
def fiF (t T : Nat → Nat) (L : List Nat) : Nat → Nat → Option Nat
  | _, 0 => none
  | i, k + 1 => if (lfS t T (L.getD i 0)).isSome then some i else fiF t T L (i + 1) k
theorem fiF_ok (t T : Nat → Nat) (L : List Nat) : ∀ k i p, fiF t T L i k = some p → i ≤ p ∧ p < i + k ∧ (lfS t T (L.getD p 0)).isSome = true
  | 0, i, p, h => by cases h
  | k + 1, i, p, h => by
    unfold fiF at h
    split at h
    · rename_i z
      cases h
      exact ⟨Nat.le_refl _, by omega, z⟩
    · have := fiF_ok t T L k (i + 1) p h
      exact ⟨by omega, by omega, this.2.2⟩
def fiS (t T : Nat → Nat) (L : List Nat) : Option Nat := fiF t T L 0 L.length
theorem fiF_skip (t T : Nat → Nat) (L : List Nat) : ∀ m i k, (∀ j, i ≤ j → j < i + m → (lfS t T (L.getD j 0)).isSome = false) → fiF t T L i (m + k) = fiF t T L (i + m) k
  | 0, i, k, _ => by rw [Nat.zero_add, Nat.add_zero]
  | m + 1, i, k, h => by
    rw [show m + 1 + k = (m + k) + 1 by omega]
    conv => lhs; unfold fiF
    rw [if_neg (by rw [h i (Nat.le_refl _) (by omega)]; decide), fiF_skip t T L m (i + 1) k (fun j h1 h2 => h j (by omega) (by omega)), show i + 1 + m = i + (m + 1) by omega]
def insL (L : List Nat) (i : Nat) (p : List Nat) : List Nat := L.take (i + 1) ++ (p ++ L.drop (i + 1))
theorem insL_len {L p : List Nat} {i : Nat} (h : i < L.length) : (insL L i p).length = L.length + p.length := by
  unfold insL
  rw [List.length_append, List.length_append, List.length_take, List.length_drop]; omega
theorem insL_get {L p : List Nat} {i : Nat} (h : i < L.length) (j : Nat) : (insL L i p).getD j 0 = if j ≤ i then L.getD j 0 else if j ≤ i + p.length then p.getD (j - (i + 1)) 0 else L.getD (j - p.length) 0 := by
  unfold insL
  have tl : (L.take (i + 1)).length = i + 1 := by rw [List.length_take]; omega
  simp only [List.getD_eq_getElem?_getD]
  by_cases a : j ≤ i
  · rw [if_pos a, List.getElem?_append_left (by omega), List.getElem?_take, if_pos (by omega)]
  · rw [if_neg a, List.getElem?_append_right (by omega), tl]
    by_cases b : j ≤ i + p.length
    · rw [if_pos b, List.getElem?_append_left (by omega)]
    · rw [if_neg b, List.getElem?_append_right (by omega), List.getElem?_drop, show i + 1 + (j - (i + 1) - p.length) = j - p.length by omega]
/-- all of it -/
def spF (t : Nat → Nat) : Nat → (Nat → Nat) → List Nat → List Nat
  | 0, _, L => L
  | k + 1, T, L => match fiS t T L with | none => L | some i => spF t k (wkF t 24 T (L.getD i 0)).2 (insL L i (wkF t 24 T (L.getD i 0)).1)
theorem spF_none {t T : Nat → Nat} {k : Nat} {L : List Nat} (h : fiS t T L = none) : spF t k T L = L := by
  cases k with
  | zero => rfl
  | succ k => unfold spF; rw [h]
theorem spF_some {t T : Nat → Nat} {k i : Nat} {L : List Nat} (h : fiS t T L = some i) : spF t (k + 1) T L = spF t k (wkF t 24 T (L.getD i 0)).2 (insL L i (wkF t 24 T (L.getD i 0)).1) := by
  conv => lhs; unfold spF
  rw [h]
theorem fi_walk {t : Nat → Nat} (hv : vT t) {T : Nat → Nat} {L : List Nat} {i : Nat} (h : fiS t T L = some i) (hs : sT T (t 49) ≤ 24) : i < L.length ∧ 0 < (wkF t 24 T (L.getD i 0)).1.length ∧ sT (wkF t 24 T (L.getD i 0)).2 (t 49) + (wkF t 24 T (L.getD i 0)).1.length = sT T (t 49) := by
  obtain ⟨a, b, c⟩ := fiF_ok t T L _ _ i h
  obtain ⟨s, hs'⟩ := Option.isSome_iff_exists.mp c
  have d := (wkF_ok hv 24 T (L.getD i 0) hs).1
  exact ⟨by omega, wkF_pos hs', by omega⟩
theorem spF_len {t : Nat → Nat} (hv : vT t) : ∀ k T L, sT T (t 49) ≤ k → sT T (t 49) ≤ 24 → (spF t k T L).length ≤ L.length + sT T (t 49)
  | 0, T, L, _, _ => by show L.length ≤ _; omega
  | k + 1, T, L, h, h24 => by
    cases q : fiS t T L with
    | none => rw [spF_none q]; omega
    | some i =>
      obtain ⟨a, b, c⟩ := fi_walk hv q h24
      rw [spF_some q]
      have := spF_len hv k (wkF t 24 T (L.getD i 0)).2 (insL L i (wkF t 24 T (L.getD i 0)).1) (by omega) (by omega)
      rw [insL_len a] at this
      omega
theorem spF_mem {t : Nat → Nat} (hv : vT t) : ∀ k T L, sT T (t 49) ≤ k → sT T (t 49) ≤ 24 → (∀ x, x ∈ L → x < 6) → ∀ x, x ∈ spF t k T L → x < 6
  | 0, T, L, _, _, hm => hm
  | k + 1, T, L, h, h24, hm => by
    cases q : fiS t T L with
    | none => rw [spF_none q]; exact hm
    | some i =>
      obtain ⟨a, b, c⟩ := fi_walk hv q h24
      rw [spF_some q]
      refine spF_mem hv k _ _ (by omega) (by omega) (fun x hx => ?_)
      have hx' : x ∈ L.take (i + 1) ++ ((wkF t 24 T (L.getD i 0)).1 ++ L.drop (i + 1)) := hx
      rcases List.mem_append.mp hx' with w | w
      · exact hm x (List.mem_of_mem_take w)
      · rcases List.mem_append.mp w with w | w
        · exact (wkF_ok hv 24 T _ h24).2 x w
        · exact hm x (List.mem_of_mem_drop w)
