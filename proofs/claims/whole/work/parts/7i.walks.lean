/-! the model's round and walk, by the same least costs -/
theorem f10_roundOf {t : Nat → Nat} {w x : Nat → Int32} (hv : vT t) (h : mR t w) {V : Nat → Nat → Nat} (hV : IsV t (t 48) (dueB t (t 49)) V) {N : Nat} (hN : 8000000 ≤ N) : ∃ y, f_X10_roundOf N x w = some (toldC (V (dueB t (t 49)) (t 48)), y) ∧ ∀ Y, Y &&& dueB t (t 49) = Y → Dn t (dueB t (t 49)) (t 48) y Y := by
  have hU := dueB_lt hv
  have h48 := hv.2.1
  obtain ⟨y, e1, e2⟩ := f10_seeks (x := x) hv h hU h48 hN
  refine ⟨y, ?_, e2⟩
  have hW := Dn_IsV hv hU h48 e2
  have e := IsV_one hv hU hV hW (Nat.and_self _) h48
  have e' : V (dueB t (t 49)) (t 48) = Lf y (6 * 0 + t 48) := by
    rw [e]
    show Lf y (6 * (dueB t (t 49) ^^^ dueB t (t 49)) + t 48) = _
    rw [Nat.xor_self]
  unfold f_X10_roundOf
  rw [f10_due hv h (by omega), Option.bind_some, ga_in (by decide), show w (Int32.toNatClampNeg (48 : Int32)) = nI (t 48) from h.2.1, e1, Option.bind_some, e']
theorem f10_walksNo {t : Nat → Nat} {w x st : Nat → Int32} {sm : Int32} (hv : vT t) (h : mR t w) {V : Nat → Nat → Nat} (hV : IsV t (t 48) (dueB t (t 49)) V) (hz : V (dueB t (t 49)) (t 48) = 1000000) {N : Nat} (hN : 8000000 ≤ N) : ∃ y, f_X10_walks N sm x st w = some (-9, nI 0, y, st) := by
  obtain ⟨y, e1, _⟩ := f10_roundOf (x := x) hv h hV hN
  rw [hz] at e1
  refine ⟨y, ?_⟩
  obtain ⟨M, rfl⟩ : ∃ M, N = M + 1 := ⟨N - 1, by omega⟩
  have e1' : f_X10_roundOf (M + 1) x w = some ((-9 : Int32), y) := e1
  unfold f_X10_walks
  rw [e1', Option.bind_some, f10_due hv h (by omega), Option.bind_some, ga_in (by decide), lp_r (e := ((0 : Int32), st)) (by
    show f_X10_walks_b28 (M + 1) (-9 : Int32) (0 : Int32) st _ w _ (0 : Int32) y = _
    unfold f_X10_walks_b28
    rw [if_pos (by decide)])]
  rfl
theorem f10_walksYes {t : Nat → Nat} {w x st : Nat → Int32} {sm : Int32} (hv : vT t) (h : mR t w) {V : Nat → Nat → Nat} (hV : IsV t (t 48) (dueB t (t 49)) V) (hz : V (dueB t (t 49)) (t 48) < 1000000) {es : List Nat} (hR : IsR t V (dueB t (t 49)) (t 48) es) (h53 : es.length ≤ 53) {N : Nat} (hN : 8000000 ≤ N) : ∃ y st', f_X10_walks N sm x st w = some (nI (V (dueB t (t 49)) (t 48)), nI es.length, y, st') ∧ ∀ i, i < es.length → st' i = nI (es.getD i 0) := by
  have hU := dueB_lt hv
  have h48 := hv.2.1
  have hUU : dueB t (t 49) &&& dueB t (t 49) = dueB t (t 49) := Nat.and_self _
  obtain ⟨y, e1, e2⟩ := f10_roundOf (x := x) hv h hV hN
  have hW := Dn_IsV hv hU h48 e2
  have one : ∀ S c, S &&& dueB t (t 49) = S → c < 6 → V S c = Lf y (6 * (dueB t (t 49) ^^^ S) + c) := fun S c hS hc => IsV_one hv hU hV hW hS hc
  obtain ⟨st', s1, s2, s3⟩ := f10_walkAll hv h hU h48 e2 (show 100 ≤ N by omega) es (dueB t (t 49)) (t 48) 0 N st hUU h48 (IsR_cong hv hU one es _ _ hUU h48 hR) (by omega) (by omega)
  have tl : toldC (V (dueB t (t 49)) (t 48)) = nI (V (dueB t (t 49)) (t 48)) := if_pos hz
  rw [tl] at e1
  rw [← one _ _ hUU h48, Nat.xor_self, Nat.zero_add] at s1
  refine ⟨y, st', ?_, fun i hi => by have := s3 i hi; rw [Nat.zero_add] at this; exact this⟩
  unfold f_X10_walks
  rw [e1, Option.bind_some, f10_due hv h (by omega), Option.bind_some, ga_in (by decide), show w (Int32.toNatClampNeg (48 : Int32)) = nI (t 48) from h.2.1]
  have s1' : lp (fun s_28 => f_X10_walks_b28 N s_28.2.2.1 s_28.2.2.2.1 s_28.2.2.2.2 s_28.1 w (nI (dueB t (t 49))) s_28.2.1 y) N (nI (t 48), (0 : Int32), nI (V (dueB t (t 49)) (t 48)), (0 : Int32), st) = some (nI es.length, st') := s1
  rw [s1', Option.bind_some]
/-- whether a step walks nothing new, looked at up to k -/
def agK (t : Nat → Nat) (es : List Nat) (i : Nat) : Nat → Bool
  | 0 => !isD t (es.getD i 0 / 2)
  | k + 1 => agK t es i k || decide (es.getD k 0 / 2 = es.getD i 0 / 2)
def agB (t : Nat → Nat) (es : List Nat) (i : Nat) : Bool := agK t es i i
theorem agK_iff (t : Nat → Nat) (es : List Nat) (i : Nat) : ∀ k, agK t es i k = true ↔ (isD t (es.getD i 0 / 2) = false ∨ ∃ j, j < k ∧ es.getD j 0 / 2 = es.getD i 0 / 2)
  | 0 => by
    unfold agK
    rw [Bool.not_eq_true']
    exact ⟨Or.inl, fun h => h.elim id (fun ⟨j, hj, _⟩ => absurd hj (by omega))⟩
  | k + 1 => by
    unfold agK
    rw [Bool.or_eq_true, agK_iff t es i k, decide_eq_true_iff]
    constructor
    · rintro ((h | ⟨j, hj, h⟩) | h)
      · exact Or.inl h
      · exact Or.inr ⟨j, by omega, h⟩
      · exact Or.inr ⟨k, by omega, h⟩
    · rintro (h | ⟨j, hj, h⟩)
      · exact Or.inl (Or.inl h)
      · by_cases e : j = k
        · subst e; exact Or.inr h
        · exact Or.inl (Or.inr ⟨j, by omega, h⟩)
theorem agB_iff (t : Nat → Nat) (es : List Nat) (i : Nat) : agB t es i = true ↔ agn t es i := agK_iff t es i i
theorem f10_isAgain {t : Nat → Nat} {w st : Nat → Int32} (hv : vT t) (h : mR t w) {es : List Nat} (hm : ∀ i, i < es.length → es.getD i 0 < 2 * t 49) (h53 : es.length ≤ 53) (hst : ∀ i, i < es.length → st i = nI (es.getD i 0)) {i : Nat} (hi : i < es.length) {N : Nat} (hN : 100 ≤ N) : f_X10_isAgain N (nI i) st w = some (b2 (agB t es i = true)) := by
  have h8 := hv.1
  have hd2 : ∀ k, k < es.length → nI (es.getD k 0) / (2 : Int32) = nI (es.getD k 0 / 2) := fun k hk => pk_div (d := 2) (by have := hm k hk; omega) (by decide) (by decide)
  have hlt := hm i hi
  have hl := lp_seq (b := fun s_27 : Int32 × Int32 => f_X10_isAgain_b27 (nI i) s_27.2 s_27.1 st) (fun k => (b2 (agK t es i k = true), nI k)) (b2 (agK t es i i = true)) i (fun k hk => by
    show f_X10_isAgain_b27 (nI i) (nI k) (b2 (agK t es i k = true)) st = some (.inl (b2 ((agK t es i k || decide (es.getD k 0 / 2 = es.getD i 0 / 2)) = true), nI (k + 1)))
    have hk2 := hm k (by omega)
    unfold f_X10_isAgain_b27
    rw [if_neg (nI_ge hk (by omega)), nI_1]
    by_cases z : agK t es i k = true
    · rw [if_neg (fun q => b2_0.mp q z)]
      congr 3
      unfold b2
      rw [if_pos (by rw [z]; rfl)]
    · rw [if_pos (b2_0.mpr z), ga_ok (by omega) (by decide), nI_clamp (by omega), nI_clamp (by omega), hst k (by omega), hst i hi, hd2 k (by omega), hd2 i hi]
      congr 3
      unfold b2
      by_cases y : es.getD k 0 / 2 = es.getD i 0 / 2
      · rw [if_pos (by rw [y]), if_pos (by rw [decide_eq_true y, Bool.or_true])]
      · rw [if_neg (fun q => y ((nI_eq (by omega) (by omega)).mp q)), if_neg (by rw [decide_eq_false y, Bool.or_false]; exact z)]) (by
    show f_X10_isAgain_b27 (nI i) (nI i) (b2 (agK t es i i = true)) st = _
    unfold f_X10_isAgain_b27
    rw [if_pos (nI_le (Nat.le_refl _) (by omega))]) i 0 N (by omega) (by omega)
  unfold f_X10_isAgain
  rw [ga_ok (by omega) (by decide), nI_clamp (by omega), hst i hi, hd2 i hi, f10_isDue hv h (by omega), Option.bind_some]
  have e0 : (if b2 (isD t (es.getD i 0 / 2) = true) = 0 then (1 : Int32) else (0 : Int32)) = b2 (agK t es i 0 = true) := by
    by_cases z : isD t (es.getD i 0 / 2) = true
    · rw [if_neg (fun q => b2_0.mp q z)]
      unfold b2 agK
      rw [if_neg (by rw [z]; decide)]
    · rw [if_pos (b2_0.mpr z)]
      unfold b2 agK
      rw [if_pos (by rw [Bool.not_eq_true] at z; rw [z]; rfl)]
  rw [e0]
  have hl' : lp (fun s_27 : Int32 × Int32 => f_X10_isAgain_b27 (nI i) s_27.2 s_27.1 st) N (b2 (agK t es i 0 = true), (0 : Int32)) = some (b2 (agK t es i i = true)) := hl
  rw [hl', Option.bind_some, gb_b2]
  rfl
/-- what is walked again costs, of the first n steps -/
def agC (t : Nat → Nat) (es : List Nat) : Nat → Nat
  | 0 => 0
  | n + 1 => agC t es n + if agB t es n then sC t (es.getD n 0) else 0
theorem f10_roundSum {t : Nat → Nat} {w st : Nat → Int32} (hv : vT t) (h : mR t w) {es : List Nat} (hm : ∀ i, i < es.length → es.getD i 0 < 2 * t 49 ∧ sC t (es.getD i 0) < 1000000) (h53 : es.length ≤ 53) (hst : ∀ i, i < es.length → st i = nI (es.getD i 0)) {N : Nat} (hN : 100 ≤ N) : lp (fun s_46 => f_X10_round_b46 N (nI es.length) s_46.2.2 s_46.1 s_46.2.1 st w) N ((0 : Int32), (0 : Int32), (0 : Int32)) = some (nI (cnt (agB t es) es.length), nI (agC t es es.length)) := by
  have hl := lp_seq (b := fun s_46 : Int32 × Int32 × Int32 => f_X10_round_b46 N (nI es.length) s_46.2.2 s_46.1 s_46.2.1 st w) (fun k => (nI (cnt (agB t es) k), nI (agC t es k), nI k)) (nI (cnt (agB t es) es.length), nI (agC t es es.length)) es.length (fun k hk => by
    show f_X10_round_b46 N (nI es.length) (nI k) (nI (cnt (agB t es) k)) (nI (agC t es k)) st w = some (.inl (nI (cnt (agB t es) k + if agB t es k then 1 else 0), nI (agC t es k + if agB t es k then sC t (es.getD k 0) else 0), nI (k + 1)))
    unfold f_X10_round_b46
    rw [if_neg (nI_ge hk (by omega)), f10_isAgain hv h (fun i hi => (hm i hi).1) h53 hst hk hN, Option.bind_some, nI_1, nI_1]
    by_cases z : agB t es k = true
    · rw [if_neg (fun q => b2_0.mp q z), ga_ok (by omega) (by decide), nI_clamp (by omega), hst k hk, f10_cost hv h (hm k hk).1, Option.bind_some, show toldC (sC t (es.getD k 0)) = nI (sC t (es.getD k 0)) from if_pos (hm k hk).2, nI_add, if_pos z, if_pos z]
    · rw [if_pos (b2_0.mpr z), if_neg z, if_neg z]; rfl) (by
    show f_X10_round_b46 N (nI es.length) (nI es.length) (nI (cnt (agB t es) es.length)) (nI (agC t es es.length)) st w = _
    unfold f_X10_round_b46
    rw [if_pos (nI_le (Nat.le_refl _) (by omega))]) es.length 0 N (by omega) (by omega)
  exact hl
theorem f6_stepsAgain {t : Nat → Nat} {ag : Nat → Int32} {es : List Nat} (h53 : es.length ≤ 53) (hag : ∀ i, i < es.length → (ag i = 0 ∨ ag i = 1) ∧ (ag i = 1 ↔ agn t es i)) {N : Nat} (hN : 100 ≤ N) : f_X6_stepsAgain N (nI es.length) ag = some (nI (cnt (agB t es) es.length)) := by
  have hl := lp_seq (b := fun s_4 : Int32 × Int32 => f_X6_stepsAgain_b4 (nI es.length) s_4.2 s_4.1 ag) (fun k => (nI (cnt (agB t es) k), nI k)) (nI (cnt (agB t es) es.length)) es.length (fun k hk => by
    show f_X6_stepsAgain_b4 (nI es.length) (nI k) (nI (cnt (agB t es) k)) ag = some (.inl (nI (cnt (agB t es) k + if agB t es k then 1 else 0), nI (k + 1)))
    unfold f_X6_stepsAgain_b4
    rw [if_neg (nI_ge hk (by omega)), ga_ok (by omega) (by decide), nI_clamp (by omega), nI_1]
    obtain ⟨a1, a2⟩ := hag k hk
    by_cases z : agB t es k = true
    · have a3 := a2.mpr ((agB_iff t es k).mp z)
      rw [a3, if_neg (by decide), if_pos z, nI_1]
    · have a3 : ag k = 0 := a1.resolve_right (fun q => z ((agB_iff t es k).mpr (a2.mp q)))
      rw [a3, if_pos rfl, if_neg z, iadd0]; rfl) (by
    show f_X6_stepsAgain_b4 (nI es.length) (nI es.length) (nI (cnt (agB t es) es.length)) ag = _
    unfold f_X6_stepsAgain_b4
    rw [if_pos (nI_le (Nat.le_refl _) (by omega))]) es.length 0 N (by omega) (by omega)
  have hl' : lp (fun s_4 : Int32 × Int32 => f_X6_stepsAgain_b4 (nI es.length) s_4.2 s_4.1 ag) N ((0 : Int32), (0 : Int32)) = some (nI (cnt (agB t es) es.length)) := hl
  unfold f_X6_stepsAgain
  rw [hl', Option.bind_some]
theorem f6_costAgain {t : Nat → Nat} {ag cs : Nat → Int32} {es : List Nat} (h53 : es.length ≤ 53) (hag : ∀ i, i < es.length → (ag i = 0 ∨ ag i = 1) ∧ (ag i = 1 ↔ agn t es i)) (hcs : ∀ i, i < es.length → cs i = nI (sC t (es.getD i 0))) {N : Nat} (hN : 100 ≤ N) : f_X6_costAgain N (nI es.length) cs ag = some (nI (agC t es es.length)) := by
  have hl := lp_seq (b := fun s_4 : Int32 × Int32 => f_X6_costAgain_b4 (nI es.length) s_4.2 s_4.1 ag cs) (fun k => (nI (agC t es k), nI k)) (nI (agC t es es.length)) es.length (fun k hk => by
    show f_X6_costAgain_b4 (nI es.length) (nI k) (nI (agC t es k)) ag cs = some (.inl (nI (agC t es k + if agB t es k then sC t (es.getD k 0) else 0), nI (k + 1)))
    unfold f_X6_costAgain_b4
    rw [if_neg (nI_ge hk (by omega)), ga_ok (by omega) (by decide), nI_clamp (by omega), nI_1]
    obtain ⟨a1, a2⟩ := hag k hk
    by_cases z : agB t es k = true
    · have a3 := a2.mpr ((agB_iff t es k).mp z)
      rw [a3, if_neg (by decide), ga_ok (by omega) (by decide), hcs k hk, nI_add, if_pos z]
    · have a3 : ag k = 0 := a1.resolve_right (fun q => z ((agB_iff t es k).mpr (a2.mp q)))
      rw [a3, if_pos rfl, if_neg z, iadd0]; rfl) (by
    show f_X6_costAgain_b4 (nI es.length) (nI es.length) (nI (agC t es es.length)) ag cs = _
    unfold f_X6_costAgain_b4
    rw [if_pos (nI_le (Nat.le_refl _) (by omega))]) es.length 0 N (by omega) (by omega)
  have hl' : lp (fun s_4 : Int32 × Int32 => f_X6_costAgain_b4 (nI es.length) s_4.2 s_4.1 ag cs) N ((0 : Int32), (0 : Int32)) = some (nI (agC t es es.length)) := hl
  unfold f_X6_costAgain
  rw [hl', Option.bind_some]
