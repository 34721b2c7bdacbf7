/-! corners balanced by least ways: what the class finds -/
def bzS (t : Nat → Nat) (c s : Nat) : Int := if t (40 + s) = 1 ∧ (t (24 + s) = 1 ∨ t (24 + s) = 3) then (if t s = c then 1 else if t (8 + s) = c then -1 else 0) else 0
def bz (t : Nat → Nat) (c : Nat) : Nat → Int
  | 0 => 0
  | n + 1 => bz t c n + bzS t c n
theorem bal_zI (t : Nat → Nat) (c : Nat) : ∀ n, bal t c n = zI (bz t c n)
  | 0 => rfl
  | n + 1 => by
    have e : balS t c n = zI (bzS t c n) := by
      unfold balS bzS
      split
      · split
        · rfl
        · split <;> rfl
      · rfl
    show bal t c n + balS t c n = zI (bz t c n + bzS t c n)
    rw [bal_zI t c n, e, zI_add]
def s6 (f : Nat → Int) : Int := f 0 + f 1 + f 2 + f 3 + f 4 + f 5
def p6 (f : Nat → Nat) : Nat := f 0 + f 1 + f 2 + f 3 + f 4 + f 5
theorem l6 {P : Nat → Prop} (h0 : P 0) (h1 : P 1) (h2 : P 2) (h3 : P 3) (h4 : P 4) (h5 : P 5) : ∀ a, a < 6 → P a := fun a ha => by
  have : a = 0 ∨ a = 1 ∨ a = 2 ∨ a = 3 ∨ a = 4 ∨ a = 5 := by omega
  rcases this with rfl | rfl | rfl | rfl | rfl | rfl <;> assumption
theorem s6_step (f : Nat → Int) {a b : Nat} (ha : a < 6) (hb : b < 6) (hab : a ≠ b) {n : Nat} (h1 : s6 f = 0) (h2 : p6 (fun c => (f c).toNat) ≤ n) : s6 (fun c => f c + (if a = c then 1 else if b = c then -1 else 0)) = 0 ∧ p6 (fun c => (f c + (if a = c then 1 else if b = c then -1 else 0)).toNat) ≤ n + 1 := by
  unfold s6 p6 at *
  dsimp only at *
  have ka : a = 0 ∨ a = 1 ∨ a = 2 ∨ a = 3 ∨ a = 4 ∨ a = 5 := by omega
  have kb : b = 0 ∨ b = 1 ∨ b = 2 ∨ b = 3 ∨ b = 4 ∨ b = 5 := by omega
  rcases ka with rfl | rfl | rfl | rfl | rfl | rfl <;> rcases kb with rfl | rfl | rfl | rfl | rfl | rfl <;> first | (exact absurd rfl hab) | (simp only [if_true, reduceIte, Nat.reduceEqDiff, OfNat.ofNat_ne_zero, OfNat.zero_ne_ofNat] ; constructor <;> omega) | (simp ; constructor <;> omega)
theorem bz_ok {t : Nat → Nat} (hv : vT t) : ∀ n, n ≤ t 49 → s6 (fun c => bz t c n) = 0 ∧ p6 (fun c => (bz t c n).toNat) ≤ n
  | 0, _ => ⟨rfl, Nat.le_refl _⟩
  | n + 1, h => by
    obtain ⟨i1, i2⟩ := bz_ok hv n (by omega)
    have o := hv.2.2.1 n (by omega)
    by_cases z : t (40 + n) = 1 ∧ (t (24 + n) = 1 ∨ t (24 + n) = 3)
    · have e : ∀ c, bz t c (n + 1) = bz t c n + (if t n = c then 1 else if t (8 + n) = c then -1 else 0) := fun c => by
        show bz t c n + bzS t c n = _
        unfold bzS
        rw [if_pos z]
      have := s6_step (fun c => bz t c n) o.1 o.2.1 o.2.2.1 i1 i2
      simp only [e]
      exact this
    · have e : ∀ c, bz t c (n + 1) = bz t c n := fun c => by
        show bz t c n + bzS t c n = _
        unfold bzS
        rw [if_neg z]; omega
      simp only [e]
      exact ⟨i1, by omega⟩
theorem s6_neg {f : Nat → Int} {n : Nat} (h1 : s6 f = 0) (h2 : p6 (fun c => (f c).toNat) ≤ n) : p6 (fun c => (-f c).toNat) = p6 (fun c => (f c).toNat) ∧ ∀ c, c < 6 → -(n : Int) ≤ f c ∧ f c ≤ n := by
  unfold s6 p6 at *
  dsimp only at *
  refine ⟨by omega, l6 ?_ ?_ ?_ ?_ ?_ ?_⟩ <;> omega
/-- each corner below n so often -/
def glL (o : Nat → Nat) : Nat → List Nat
  | 0 => []
  | n + 1 => glL o n ++ List.replicate (o n) n
theorem glL_len (o : Nat → Nat) : (glL o 6).length = p6 o := by
  unfold p6
  simp [glL]
  omega
theorem glL_mono (o : Nat → Nat) : ∀ m n, n ≤ m → (glL o n).length ≤ (glL o m).length
  | 0, n, h => by rw [show n = 0 by omega]; exact Nat.le_refl _
  | m + 1, n, h => by
    by_cases e : n = m + 1
    · rw [e]; exact Nat.le_refl _
    · have := glL_mono o m n (by omega)
      show _ ≤ (glL o m ++ List.replicate (o m) m).length
      rw [List.length_append]; omega
theorem glL_mem (o : Nat → Nat) : ∀ n c, c ∈ glL o n → c < n
  | 0, c, h => absurd h (by simp [glL])
  | n + 1, c, h => by
    have h' : c ∈ glL o n ++ List.replicate (o n) n := h
    rcases List.mem_append.mp h' with h | h
    · have := glL_mem o n c h; omega
    · rw [(List.mem_replicate.mp h).2]; omega
theorem glL_count (o : Nat → Nat) : ∀ n c, (glL o n).count c = if c < n then o c else 0
  | 0, c => rfl
  | n + 1, c => by
    show (glL o n ++ List.replicate (o n) n).count c = _
    rw [List.count_append, glL_count o n c, List.count_replicate]
    by_cases e : c = n
    · subst e
      rw [if_neg (show ¬ c < c by omega), if_pos (show c < c + 1 by omega), if_pos (show (c == c) = true by simp)]; omega
    · have ne : ¬ (n == c) = true := by simp; omega
      rw [if_neg ne]
      by_cases g : c < n
      · rw [if_pos g, if_pos (show c < n + 1 by omega)]; rfl
      · rw [if_neg g, if_neg (show ¬ c < n + 1 by omega)]
theorem glL_sorted (o : Nat → Nat) : ∀ n, (glL o n).Pairwise (· ≤ ·)
  | 0 => List.Pairwise.nil
  | n + 1 => by
    show (glL o n ++ List.replicate (o n) n).Pairwise (· ≤ ·)
    rw [List.pairwise_append]
    refine ⟨glL_sorted o n, ?_, fun a ha b hb => ?_⟩
    · rw [List.pairwise_replicate]; exact Or.inr (Nat.le_refl _)
    · rw [(List.mem_replicate.mp hb).2]
      exact Nat.le_of_lt (glL_mem o n a ha)
theorem getD_app1 {l m : List Nat} {j : Nat} (h : j < l.length) : (l ++ m).getD j 0 = l.getD j 0 := by
  rw [List.getD_eq_getElem?_getD, List.getD_eq_getElem?_getD, List.getElem?_append_left h]
theorem getD_rep {l : List Nat} {j c k : Nat} (h : l.length ≤ j) (h2 : j < l.length + k) : (l ++ List.replicate k c).getD j 0 = c := by
  rw [List.getD_eq_getElem?_getD, List.getElem?_append_right h, List.getElem?_replicate, if_pos (by omega)]; rfl
theorem f1_list {t : Nat → Nat} {fr to ln kd fg arr : Nat → Int32} {cl sz hm : Int32} (hv : vT t) (hc : cR t fr to ln kd fg cl sz hm) {x2 : Int32} {w : Nat → Int} (hw : ∀ c, c < 6 → x2 * bal t c (t 49) = zI (w c) ∧ -8 ≤ w c ∧ w c ≤ 8) (h8 : (glL (fun c => (w c).toNat) 6).length ≤ 8) {N : Nat} (hN : 100 ≤ N) : ∃ arr', f_X1_list N x2 cl sz fr to kd arr = some (nI (glL (fun c => (w c).toNat) 6).length, arr') ∧ ∀ j, j < (glL (fun c => (w c).toNat) 6).length → arr' j = nI ((glL (fun c => (w c).toNat) 6).getD j 0) := by
  obtain ⟨⟨a, b⟩, e1, e2, e3⟩ := lp_cnt (b := fun s_5 : Int32 × Int32 × (Nat → Int32) => f_X1_list_b5 N s_5.2.1 s_5.1 s_5.2.2 cl sz fr to kd x2) (fun i y => (nI (glL (fun c => (w c).toNat) i).length, nI i, y)) (fun i y => ∀ j, j < (glL (fun c => (w c).toNat) i).length → y j = nI ((glL (fun c => (w c).toNat) i).getD j 0)) (fun e : Int32 × (Nat → Int32) => e.1 = nI (glL (fun c => (w c).toNat) 6).length ∧ ∀ j, j < (glL (fun c => (w c).toNat) 6).length → e.2 j = nI ((glL (fun c => (w c).toNat) 6).getD j 0)) 6 (fun i y hi hp => by
    obtain ⟨w1, w2, w3⟩ := hw i hi
    have lm := glL_mono (fun c => (w c).toNat) 6 (i + 1) (by omega)
    have ll : (glL (fun c => (w c).toNat) (i + 1)).length = (glL (fun c => (w c).toNat) i).length + (w i).toNat := by
      show (glL (fun c => (w c).toNat) i ++ List.replicate ((w i).toNat) i).length = _
      rw [List.length_append, List.length_replicate]
    obtain ⟨⟨a, b⟩, l1, l2, l3⟩ := lp_cnt (b := fun s_25 : Int32 × Int32 × (Nat → Int32) => f_X1_list_b25 x2 (bal t i (t 49)) s_25.2.1 s_25.1 s_25.2.2 (nI i)) (fun k y => (nI ((glL (fun c => (w c).toNat) i).length + k), nI k, y)) (fun k y => ∀ j, j < (glL (fun c => (w c).toNat) i).length + k → y j = nI ((glL (fun c => (w c).toNat) i ++ List.replicate k i).getD j 0)) (fun e : Int32 × (Nat → Int32) => e.1 = nI ((glL (fun c => (w c).toNat) i).length + (w i).toNat) ∧ ∀ j, j < (glL (fun c => (w c).toNat) i).length + (w i).toNat → e.2 j = nI ((glL (fun c => (w c).toNat) i ++ List.replicate (w i).toNat i).getD j 0)) (w i).toNat (fun k z hk hz => by
      refine ⟨upd z ((glL (fun c => (w c).toNat) i).length + k) (nI i), ?_, fun j hj => ?_⟩
      · show f_X1_list_b25 x2 (bal t i (t 49)) (nI k) (nI ((glL (fun c => (w c).toNat) i).length + k)) z (nI i) = _
        unfold f_X1_list_b25
        rw [w1, if_neg (fun q => by rw [i32_le, zI_toInt (by omega), nI_toInt (by omega)] at q; omega), if_neg (show ¬ (8 : Int32) ≤ nI ((glL (fun c => (w c).toNat) i).length + k) from nI_ge (b := 8) (by omega) (by decide)), ga_ok (by omega) (by decide), nI_clamp (by omega), nI_1, nI_1]; rfl
      · by_cases e : j = (glL (fun c => (w c).toNat) i).length + k
        · rw [e, pk_us, getD_rep (by omega) (by omega)]
        · rw [pk_un e, hz j (by omega)]
          congr 1
          by_cases g : j < (glL (fun c => (w c).toNat) i).length
          · rw [getD_app1 g, getD_app1 g]
          · rw [getD_rep (by omega) (by omega), getD_rep (by omega) (by omega)]) (fun z hz => by
      refine ⟨(nI ((glL (fun c => (w c).toNat) i).length + (w i).toNat), z), ?_, rfl, hz⟩
      show f_X1_list_b25 x2 (bal t i (t 49)) (nI (w i).toNat) (nI ((glL (fun c => (w c).toNat) i).length + (w i).toNat)) z (nI i) = _
      unfold f_X1_list_b25
      rw [w1, if_pos (by rw [i32_le, zI_toInt (by omega), nI_toInt (by omega)]; omega)]) (w i).toNat 0 N y (by omega) (by omega) (fun j hj => by
        rw [List.replicate_zero, List.append_nil]; exact hp j (by omega))
    dsimp only at l2 l3
    refine ⟨b, ?_, fun j hj => by rw [ll] at hj; exact l3 j hj⟩
    show f_X1_list_b5 N (nI i) (nI (glL (fun c => (w c).toNat) i).length) y cl sz fr to kd x2 = some (Sum.inl (nI (glL (fun c => (w c).toNat) (i + 1)).length, nI (i + 1), b))
    unfold f_X1_list_b5
    rw [if_neg (show ¬ (6 : Int32) ≤ nI i from nI_ge (b := 6) hi (by decide)), f7_balanceOf hv hc hi hN, Option.bind_some, nI_1, ll, ← l2]
    exact (congrArg (fun o => Option.bind o _) l1).trans rfl) (fun y hp => by
    refine ⟨(nI (glL (fun c => (w c).toNat) 6).length, y), ?_, rfl, hp⟩
    dsimp only
    unfold f_X1_list_b5
    rw [if_pos (show (6 : Int32) ≤ nI 6 by decide)]) 6 0 N arr (by omega) (by omega) (fun j hj => absurd hj (by simp [glL]))
  dsimp only at e2 e3
  refine ⟨b, ?_, e3⟩
  unfold f_X1_list
  rw [← e2]
  exact (congrArg (fun o => Option.bind o _) e1).trans rfl
/-- the takers of a set -/
def subL (τ : List Nat) (S : Nat) : Nat → List Nat
  | 0 => []
  | n + 1 => if S.testBit n then τ.getD n 0 :: subL τ S n else subL τ S n
theorem subL_cong {τ : List Nat} {S T : Nat} : ∀ n, (∀ i, i < n → S.testBit i = T.testBit i) → subL τ S n = subL τ T n
  | 0, _ => rfl
  | n + 1, h => by
    unfold subL
    rw [h n (by omega), subL_cong n (fun i hi => h i (by omega))]
theorem subL_len (τ : List Nat) (S : Nat) : ∀ n, (subL τ S n).length = cnt (fun i => S.testBit i) n
  | 0 => rfl
  | n + 1 => by
    unfold subL cnt
    by_cases z : S.testBit n = true
    · rw [if_pos z, if_pos z, List.length_cons, subL_len τ S n]
    · rw [if_neg z, if_neg z, subL_len τ S n]; rfl
theorem subL_clr {τ : List Nat} {S : Nat} (hS : S < 256) {i : Nat} (hi8 : i < 8) (hb : S.testBit i = true) : ∀ n, n ≤ 8 → i < n → (subL τ S n).Perm (τ.getD i 0 :: subL τ (clr S i) n)
  | 0, _, h => absurd h (by omega)
  | n + 1, h8, hi => by
    have hcl := (clr_ok hS hi8).2
    by_cases e : i = n
    · subst e
      have z : ¬ (clr S i).testBit i = true := by rw [hcl i hi8]; simp
      unfold subL
      rw [if_pos hb, if_neg z, subL_cong (T := clr S i) i (fun j hj => by rw [hcl j (by omega), decide_eq_true (show j ≠ i by omega), Bool.and_true])]
    · have ih := subL_clr (τ := τ) hS hi8 hb n (by omega) (by omega)
      have q : (clr S i).testBit n = S.testBit n := by rw [hcl n (by omega), decide_eq_true (show n ≠ i by omega), Bool.and_true]
      unfold subL
      rw [q]
      by_cases z : S.testBit n = true
      · rw [if_pos z, if_pos z]
        exact (ih.cons _).trans (List.Perm.swap _ _ _)
      · rw [if_neg z, if_neg z]; exact ih
theorem subL_mem {τ : List Nat} {S : Nat} : ∀ n c, c ∈ subL τ S n → ∃ i, i < n ∧ S.testBit i = true ∧ τ.getD i 0 = c
  | 0, c, h => absurd h (by simp [subL])
  | n + 1, c, h => by
    unfold subL at h
    by_cases z : S.testBit n = true
    · rw [if_pos z] at h
      rcases List.mem_cons.mp h with h | h
      · exact ⟨n, by omega, z, h.symm⟩
      · obtain ⟨i, i1, i2⟩ := subL_mem n c h
        exact ⟨i, by omega, i2⟩
    · rw [if_neg z] at h
      obtain ⟨i, i1, i2⟩ := subL_mem n c h
      exact ⟨i, by omega, i2⟩
theorem subL_full (τ : List Nat) {m : Nat} : ∀ n, n ≤ m → n ≤ τ.length → (subL τ (2 ^ m - 1) n).Perm (τ.take n)
  | 0, _, _ => by rw [List.take_zero]; exact List.Perm.refl _
  | n + 1, hm, hl => by
    unfold subL
    rw [if_pos (by rw [Nat.testBit_two_pow_sub_one]; exact decide_eq_true (by omega))]
    have ih := subL_full τ (m := m) n (by omega) (by omega)
    rw [List.take_succ_eq_append_getElem (by omega)]
    have : τ.getD n 0 = τ[n] := by rw [List.getD_eq_getElem?_getD, List.getElem?_eq_getElem (by omega)]; rfl
    rw [this]
    exact (ih.cons _).trans (List.perm_append_singleton _ _).symm
theorem aC_app (D : Nat → Nat) : ∀ gs ts g c, gs.length = ts.length → aC D (gs ++ [g]) (ts ++ [c]) = aC D gs ts + D (6 * g + c)
  | [], [], g, c, _ => by show D (6 * g + c) + 0 = 0 + _; omega
  | [], _ :: _, g, c, h => by simp at h
  | _ :: _, [], g, c, h => by simp at h
  | a :: gs, b :: ts, g, c, h => by
    rw [List.length_cons, List.length_cons] at h
    show D (6 * a + b) + aC D (gs ++ [g]) (ts ++ [c]) = D (6 * a + b) + aC D gs ts + D (6 * g + c)
    rw [aC_app D gs ts g c (by omega)]; omega
