/-! walks that need not come home -/
/-- what is left of a set behind a walk -/
def clrL : Nat → List Nat → Nat
  | S, [] => S
  | S, e :: es => clrL (clr S (e / 2)) es
theorem VC_le {t C : Nat → Nat} (hv : vT t) {h U : Nat} (hU : U < 256) {V : Nat → Nat → Nat} (hV : IsVC t C h U V) : ∀ es S c, S &&& U = S → isW t C c es h → clrL S es = 0 → V S c ≤ wC C es
  | [], S, c, hS, hw, hc => by
    have e1 : c = h := hw
    have e2 : S = 0 := hc
    rw [e1, e2, hV.2.1]; exact Nat.zero_le _
  | e :: es, S, c, hS, hw, hc => by
    have h8 := hv.1
    obtain ⟨⟨w1, w2, w3⟩, w4⟩ := hw
    have h1 := hV.2.2.1 S e hS w1 w2
    have h2 := VC_le hv hU hV es (clr S (e / 2)) (sE t e) (clr_sub hS hU (by omega)) w4 hc
    rw [w3] at h1
    show V S c ≤ C e + wC C es
    omega
theorem VC_ex {t C : Nat → Nat} (hv : vT t) (hC : ∀ e, e < 2 * t 49 → C e = 1000000 ∨ (1 ≤ C e ∧ C e ≤ 216)) {h U : Nat} (hU : U < 256) {V : Nat → Nat → Nat} (hV : IsVC t C h U V) : ∀ n S c, V S c < n → S &&& U = S → c < 6 → V S c < 1000000 → ∃ es, isW t C c es h ∧ clrL S es = 0 ∧ wC C es = V S c
  | 0, S, c, hn, _, _, _ => absurd hn (by omega)
  | n + 1, S, c, hn, hS, hc, hlt => by
    have h8 := hv.1
    rcases hV.2.2.2 S c hS hc hlt with ⟨e1, e2⟩ | ⟨e, e1, e2, e3, e4⟩
    · exact ⟨[], e2, e1, by rw [e1, e2, hV.2.1]; rfl⟩
    · have := hC e e1
      obtain ⟨es, a1, a2, a3⟩ := VC_ex hv hC hU hV n (clr S (e / 2)) (sE t e) (by omega) (clr_sub hS hU (by omega)) (sE_lt hv e1) (by omega)
      exact ⟨e :: es, ⟨⟨e1, e2, e3⟩, a1⟩, a2, by show C e + wC C es = _; rw [a3, e4]⟩
theorem clrL_bit {U : Nat} (hU : U < 256) : ∀ es S, S &&& U = S → (∀ e, e ∈ es → e / 2 < 8) → clrL S es < 256 ∧ ∀ i, i < 8 → ((clrL S es).testBit i = true ↔ (S.testBit i = true ∧ ∀ e, e ∈ es → e / 2 ≠ i))
  | [], S, hS, _ => ⟨sub_lt hS hU, fun i _ => ⟨fun h => ⟨h, fun e he => absurd he (by simp)⟩, fun h => h.1⟩⟩
  | e :: es, S, hS, hm => by
    have he := hm e (by simp)
    obtain ⟨a, b⟩ := clr_ok (sub_lt hS hU) he
    obtain ⟨c, d⟩ := clrL_bit hU es (clr S (e / 2)) (clr_sub hS hU he) (fun x hx => hm x (by simp [hx]))
    refine ⟨c, fun i hi => ?_⟩
    show (clrL (clr S (e / 2)) es).testBit i = true ↔ _
    rw [d i hi, b i hi, Bool.and_eq_true, decide_eq_true_iff]
    constructor
    · rintro ⟨⟨q1, q2⟩, q3⟩
      refine ⟨q1, fun x hx => ?_⟩
      rcases List.mem_cons.mp hx with rfl | hx
      · exact fun w => q2 w.symm
      · exact q3 x hx
    · rintro ⟨q1, q2⟩
      exact ⟨⟨q1, fun w => q2 e (by simp) w.symm⟩, fun x hx => q2 x (by simp [hx])⟩
theorem clrL_0 {U : Nat} (hU : U < 256) {es : List Nat} {S : Nat} (hS : S &&& U = S) (hm : ∀ e, e ∈ es → e / 2 < 8) : clrL S es = 0 ↔ ∀ i, i < 8 → S.testBit i = true → ∃ e, e ∈ es ∧ e / 2 = i := by
  obtain ⟨a, b⟩ := clrL_bit hU es S hS hm
  constructor
  · intro h i hi hb
    have := b i hi
    rw [h, Nat.zero_testBit] at this
    apply Classical.byContradiction
    intro w
    exact absurd (this.mpr ⟨hb, fun e he hei => w ⟨e, he, hei⟩⟩) (by decide)
  · intro h
    apply Nat.eq_of_testBit_eq
    intro i
    rw [Nat.zero_testBit]
    by_cases hi : i < 8
    · apply Classical.byContradiction
      intro w
      rw [Bool.not_eq_false] at w
      obtain ⟨q1, q2⟩ := (b i hi).mp w
      obtain ⟨e, he, hei⟩ := h i hi q1
      exact q2 e he hei
    · exact tb8 a hi
theorem isW_mem {t C : Nat → Nat} : ∀ es c d, isW t C c es d → ∀ e, e ∈ es → e < 2 * t 49
  | [], _, _, _, e, he => absurd he (by simp)
  | f :: es, c, d, h, e, he => by
    rcases List.mem_cons.mp he with rfl | he
    · exact h.1.1
    · exact isW_mem es _ _ h.2 e he
def rvW : List Nat → List Nat
  | [] => []
  | e :: es => rvW es ++ [flp e]
theorem flp_A (t : Nat → Nat) (e : Nat) : sA t (flp e) = sE t e ∧ sE t (flp e) = sA t e := by
  unfold sA sE
  rw [flp_2]
  by_cases z : e % 2 = 0
  · rw [if_pos z, if_pos z, show flp e % 2 = 1 by unfold flp; rw [if_pos z]; omega]
    exact ⟨rfl, rfl⟩
  · rw [if_neg z, if_neg z, show flp e % 2 = 0 by unfold flp; rw [if_neg z]; omega]
    exact ⟨rfl, rfl⟩
theorem flp_flp (e : Nat) : flp (flp e) = e := by
  unfold flp
  by_cases z : e % 2 = 0
  · rw [if_pos z, if_neg (by omega)]; omega
  · rw [if_neg z, if_pos (by omega)]; omega
/-- costs that are each other's, turned -/
def TC (C D : Nat → Nat) : Prop := ∀ e, D (flp e) = C e
theorem TC_a (t : Nat → Nat) : TC (sC t) (cW t 1) := fun e => by rw [cW_1, flp_flp]
theorem TC_b (t : Nat → Nat) : TC (cW t 1) (sC t) := fun e => by rw [cW_1]
theorem rvW_ok {t C D : Nat → Nat} (hT : TC C D) : ∀ es c d, isW t C c es d → isW t D d (rvW es) c ∧ wC D (rvW es) = wC C es
  | [], c, d, h => ⟨(show c = d from h).symm, rfl⟩
  | e :: es, c, d, h => by
    obtain ⟨⟨w1, w2, w3⟩, w4⟩ := h
    obtain ⟨a, b⟩ := rvW_ok hT es _ _ w4
    refine ⟨isW_app a ⟨⟨flp_lt w1, by rw [hT e]; exact w2, (flp_A t e).1⟩, by rw [(flp_A t e).2]; exact w3⟩, ?_⟩
    show wC D (rvW es ++ [flp e]) = C e + wC C es
    rw [wC_app, b]
    show wC C es + (D (flp e) + 0) = _
    rw [hT e]; omega
theorem rvW_mem : ∀ es f, f ∈ es → flp f ∈ rvW es
  | [], f, h => absurd h (by simp)
  | e :: es, f, h => by
    show flp f ∈ rvW es ++ [flp e]
    rw [List.mem_append]
    rcases List.mem_cons.mp h with rfl | h
    · exact Or.inr (by simp)
    · exact Or.inl (rvW_mem es f h)
theorem turn_le {t C D : Nat → Nat} (hv : vT t) (hT : TC C D) (hC : ∀ e, e < 2 * t 49 → C e = 1000000 ∨ (1 ≤ C e ∧ C e ≤ 216)) {h a U : Nat} (hU : U < 256) (hh : h < 6) (ha : a < 6) {V W : Nat → Nat → Nat} (hV : IsVC t C a U V) (hW : IsVC t D h U W) : W U a ≤ V U h := by
  have h8 := hv.1
  have hUU : U &&& U = U := Nat.and_self _
  by_cases z : V U h < 1000000
  · obtain ⟨es, e1, e2, e3⟩ := VC_ex hv hC hU hV _ U h (Nat.lt_succ_self _) hUU hh z
    obtain ⟨f1, f2⟩ := rvW_ok hT es _ _ e1
    rw [← e3, ← f2]
    refine VC_le hv hU hW _ U a hUU f1 ?_
    have m1 : ∀ e, e ∈ es → e / 2 < 8 := fun e he => by have := isW_mem es _ _ e1 e he; omega
    have m2 : ∀ e, e ∈ rvW es → e / 2 < 8 := fun e he => by have := isW_mem _ _ _ f1 e he; omega
    rw [clrL_0 hU hUU m2]
    intro i hi hb
    obtain ⟨e, he, hei⟩ := (clrL_0 hU hUU m1).mp e2 i hi hb
    exact ⟨flp e, rvW_mem es e he, by rw [flp_2]; exact hei⟩
  · have := hW.1 U a hUU ha
    have := hV.1 U h hUU hh
    omega
theorem turn_eq {t : Nat → Nat} (hv : vT t) {h a U : Nat} (hU : U < 256) (hh : h < 6) (ha : a < 6) {V W : Nat → Nat → Nat} (hV : IsV t a U V) (hW : IsVC t (cW t 1) h U W) : W U a = V U h :=
  Nat.le_antisymm (turn_le hv (TC_a t) (fun e he => sC_small hv he) hU hh ha hV hW) (turn_le hv (TC_b t) (fun e he => cW_small hv he) hU ha hh hW hV)
/-- the least end so far, and its cost -/
def lsE (d : Nat → Nat) : Nat → Option (Nat × Nat)
  | 0 => none
  | c + 1 => if d c < 1000000 then (match lsE d c with | none => some (c, d c) | some p => if p.2 ≤ d c then some p else some (c, d c)) else lsE d c
theorem lsE_ok (d : Nat → Nat) : ∀ n p, lsE d n = some p → p.1 < n ∧ p.2 < 1000000 ∧ d p.1 = p.2
  | 0, p, h => by cases h
  | n + 1, p, h => by
    unfold lsE at h
    split at h
    · rename_i z
      split at h
      · cases h; exact ⟨Nat.lt_succ_self _, z, rfl⟩
      · rename_i q hq
        split at h
        · cases h; have := lsE_ok d n _ hq; exact ⟨by omega, this.2⟩
        · cases h; exact ⟨Nat.lt_succ_self _, z, rfl⟩
    · have := lsE_ok d n p h
      exact ⟨by omega, this.2⟩
theorem lsE_1 {d : Nat → Nat} {c : Nat} (h : d c < 1000000) : lsE d (c + 1) = (match lsE d c with | none => some (c, d c) | some p => if p.2 ≤ d c then some p else some (c, d c)) := by
  conv => lhs; unfold lsE
  rw [if_pos h]
theorem lsE_0 {d : Nat → Nat} {c : Nat} (h : ¬ d c < 1000000) : lsE d (c + 1) = lsE d c := by
  conv => lhs; unfold lsE
  rw [if_neg h]
theorem f6_looseCost {U c v : Nat} {x : Nat → Int32} (hU : U < 256) (hc : c < 6) (hx : x (6 * U + c) = nI v) : f_X6_looseCost (nI c) (nI U) x = some (nI v) := by
  unfold f_X6_looseCost
  rw [six, ga_ok (by omega) (by decide), nI_clamp (by omega), hx]
theorem f6_looseLoop {U : Nat} {x : Nat → Int32} {d : Nat → Nat} (hU : U < 256) (hd : ∀ c, c < 6 → x (6 * U + c) = nI (d c) ∧ d c ≤ 1000000) {N : Nat} (hN : 100 ≤ N) : lp (fun s_27 : Int32 × Int32 × Int32 => f_X6_looseEnd_b27 s_27.2.2 s_27.1 (nI U) x s_27.2.1) N ((-9 : Int32), (1000000 : Int32), (0 : Int32)) = some (wI (lsE d 6)) := by
  exact lp_seq (b := fun s_27 : Int32 × Int32 × Int32 => f_X6_looseEnd_b27 s_27.2.2 s_27.1 (nI U) x s_27.2.1) (fun i => (wI (lsE d i), wJ 1000000 (lsE d i), nI i)) (wI (lsE d 6)) 6 (fun i hi => by
    show f_X6_looseEnd_b27 (nI i) (wI (lsE d i)) (nI U) x (wJ 1000000 (lsE d i)) = _
    obtain ⟨x1, x2⟩ := hd i hi
    unfold f_X6_looseEnd_b27
    rw [if_neg (show ¬ (6 : Int32) ≤ nI i from nI_ge (b := 6) hi (by decide)), f6_looseCost hU hi x1, Option.bind_some, Option.bind_some, nI_1]
    by_cases z : d i < 1000000
    · rw [lsE_1 z]
      cases q : lsE d i with
      | none =>
        show (if (1000000 : Int32) ≤ nI (d i) then _ else _) = some (Sum.inl (nI i, nI (d i), nI (i + 1)))
        rw [if_neg (show ¬ (1000000 : Int32) ≤ nI (d i) from nI_ge (b := 1000000) z (by decide))]
      | some p =>
        have hp := lsE_ok d i p q
        dsimp only
        show (if nI p.2 ≤ nI (d i) then some (Sum.inl (nI p.1, nI p.2, nI (i + 1))) else _) = some (.inl (wI (if p.2 ≤ d i then some p else some (i, d i)), wJ 1000000 (if p.2 ≤ d i then some p else some (i, d i)), nI (i + 1)))
        by_cases w : p.2 ≤ d i
        · rw [if_pos (nI_le w (by omega)), if_pos w]; rfl
        · rw [if_neg (nI_ge (by omega) (by omega)), if_neg w]; rfl
    · rw [lsE_0 z]
      cases q : lsE d i with
      | none =>
        show (if (1000000 : Int32) ≤ nI (d i) then _ else _) = _
        rw [if_pos (show (1000000 : Int32) ≤ nI (d i) from nI_le (a := 1000000) (by omega) (by omega))]
      | some p =>
        have hp := lsE_ok d i p q
        show (if nI p.2 ≤ nI (d i) then _ else _) = _
        rw [if_pos (nI_le (by omega) (by omega))]) (by
    show f_X6_looseEnd_b27 (nI 6) (wI (lsE d 6)) (nI U) x (wJ 1000000 (lsE d 6)) = _
    unfold f_X6_looseEnd_b27
    rw [if_pos (show (6 : Int32) ≤ nI 6 by decide)]) 6 0 N (by omega) (by omega)
theorem f10_looseLoop {t : Nat → Nat} {w lf : Nat → Int32} (hv : vT t) (h : mR t w) {W : Nat → Nat → Nat} (hW : IsVC t (cW t 1) (t 48) (dueB t (t 49)) W) {N : Nat} (hN : 8000000 ≤ N) : ∃ y, lp (fun s_26 : Int32 × Int32 × Int32 × (Nat → Int32) => f_X10_loose_b26 N s_26.2.2.1 s_26.1 s_26.2.1 s_26.2.2.2 w) N ((-9 : Int32), (-9 : Int32), (0 : Int32), lf) = some (wJ (-9) (lsE (fun c => W (dueB t (t 49)) c) 6), wI (lsE (fun c => W (dueB t (t 49)) c) 6), y) := by
  have hU := dueB_lt hv
  have h48 := hv.2.1
  have hUU : dueB t (t 49) &&& dueB t (t 49) = dueB t (t 49) := Nat.and_self _
  obtain ⟨⟨a, b, c⟩, e1, e2, e3⟩ := lp_cnt (b := fun s_26 : Int32 × Int32 × Int32 × (Nat → Int32) => f_X10_loose_b26 N s_26.2.2.1 s_26.1 s_26.2.1 s_26.2.2.2 w) (fun i x => (wJ (-9) (lsE (fun c => W (dueB t (t 49)) c) i), wI (lsE (fun c => W (dueB t (t 49)) c) i), nI i, x)) (fun _ _ => True) (fun e : Int32 × Int32 × (Nat → Int32) => e.1 = wJ (-9) (lsE (fun c => W (dueB t (t 49)) c) 6) ∧ e.2.1 = wI (lsE (fun c => W (dueB t (t 49)) c) 6)) 6 (fun i x hi _ => by
    obtain ⟨y, s1, s2⟩ := f10_seeks (x := x) hv h hU hi hN
    have hV := Dn_IsV hv hU hi s2
    have te := turn_eq hv hU h48 hi hV hW
    have te' : W (dueB t (t 49)) i = Lf y (6 * 0 + t 48) := by
      rw [te]
      show Lf y (6 * (dueB t (t 49) ^^^ dueB t (t 49)) + t 48) = _
      rw [Nat.xor_self]
    have hle : W (dueB t (t 49)) i ≤ 1000000 := hW.1 _ _ hUU hi
    rw [← te'] at s1
    refine ⟨y, ?_, trivial⟩
    dsimp only
    unfold f_X10_loose_b26
    rw [if_neg (show ¬ (6 : Int32) ≤ nI i from nI_ge (b := 6) hi (by decide)), f10_due hv h (by omega), Option.bind_some, s1, Option.bind_some, nI_1]
    dsimp only
    by_cases z : W (dueB t (t 49)) i < 1000000
    · rw [lsE_1 (d := fun c => W (dueB t (t 49)) c) z, show toldC (W (dueB t (t 49)) i) = nI (W (dueB t (t 49)) i) from if_pos z, if_neg (nI_pos (by omega)), if_neg (nI_pos (by omega))]
      cases q : lsE (fun c => W (dueB t (t 49)) c) i with
      | none =>
        show some (Sum.inl ((if (-9 : Int32) < 0 then nI (W (dueB t (t 49)) i) else _), (if (-9 : Int32) < 0 then nI i else _), nI (i + 1), y)) = _
        rw [if_pos (by decide), if_pos (by decide)]; rfl
      | some p =>
        have hp := lsE_ok _ i p q
        show some (Sum.inl ((if nI p.2 < 0 then _ else (if nI p.2 ≤ nI (W (dueB t (t 49)) i) then nI p.2 else nI (W (dueB t (t 49)) i))), (if nI p.2 < 0 then _ else (if nI p.2 ≤ nI (W (dueB t (t 49)) i) then nI p.1 else nI i)), nI (i + 1), y)) = some (Sum.inl (wJ (-9) (if p.2 ≤ W (dueB t (t 49)) i then some p else some (i, W (dueB t (t 49)) i)), wI (if p.2 ≤ W (dueB t (t 49)) i then some p else some (i, W (dueB t (t 49)) i)), nI (i + 1), y))
        rw [if_neg (nI_pos (by omega)), if_neg (nI_pos (by omega))]
        by_cases w : p.2 ≤ W (dueB t (t 49)) i
        · rw [if_pos (nI_le w (by omega)), if_pos (nI_le w (by omega)), if_pos w]; rfl
        · rw [if_neg (nI_ge (by omega) (by omega)), if_neg (nI_ge (by omega) (by omega)), if_neg w]; rfl
    · rw [lsE_0 (d := fun c => W (dueB t (t 49)) c) z, show toldC (W (dueB t (t 49)) i) = -9 from if_neg z, if_pos (by decide), if_pos (by decide)]) (fun x _ => by
    refine ⟨(wJ (-9) (lsE (fun c => W (dueB t (t 49)) c) 6), wI (lsE (fun c => W (dueB t (t 49)) c) 6), x), ?_, rfl, rfl⟩
    dsimp only
    unfold f_X10_loose_b26
    rw [if_pos (show (6 : Int32) ≤ nI 6 by decide)]) 6 0 N lf (by omega) (by omega) trivial
  dsimp only at e2 e3
  refine ⟨c, ?_⟩
  rw [← e2, ← e3]
  exact e1
theorem pm_loose {A I : Nat → Nat → Int32} (hI : Inv A I) {N : Nat} (hN : 8000000 ≤ N) (x1 : Int32) : ∃ oc, f_X9_loose N x1 (I 1 5) (I 1 6) (I 1 7) (A 2) (A 3) (A 4) (A 5) (A 6) (I 29 3) (I 29 4) (I 31 5) (I 31 6) (I 31 7) (A 32) (A 33) (A 34) (A 35) (A 36) (A 37) (A 38) (A 39) (A 40) (A 41) (A 64) = some oc ∧ ∃ om, f_X10_loose N x1 ((uA_X9_loose A I oc) 66) ((uA_X9_loose A I oc) 69) ((uA_X9_loose A I oc) 73) = some om ∧ oc.1 = om.1 ∧ Inv (uA_X10_loose (uA_X9_loose A I oc) (uI_X9_loose A I oc) om) (uI_X10_loose (uA_X9_loose A I oc) (uI_X9_loose A I oc) om) := by
  obtain ⟨t, k, h1, h2, h3, h4, h5, h6, h7, h8⟩ := hI
  obtain ⟨hv, hc, hm⟩ := id h1
  have hU := dueB_lt hv
  have h48 := hv.2.1
  have hUU : dueB t (t 49) &&& dueB t (t 49) = dueB t (t 49) := Nat.and_self _
  have hin : f_X10_in (Int32.toInt64 x1) (0 : Int64) (1 : Int64) = some (b2 (0 ≤ x1.toInt ∧ x1.toInt ≤ 1)) := in_neg (by rw [t64]; exact Iff.rfl)
  by_cases hy : 0 ≤ x1.toInt ∧ x1.toInt ≤ 1
  · obtain ⟨f3, t3, l3, k3, g3, on3, bk3, le3, e1, e2, e3, e4⟩ := f8_learn (f2 := A 32) (t2 := A 33) (l2 := A 34) (k2 := A 35) (g2 := A 36) (on := A 37) (bk := A 38) (least := A 39) (c2 := I 31 5) (s2 := I 31 6) (h2 := I 31 7) hv hc (b := 1) (by decide) (show 100 ≤ N by omega)
    have e1' : f_X8_learn N (1 : Int32) (I 31 5) (I 31 6) (I 31 7) (A 32) (A 33) (A 34) (A 35) (A 36) (A 37) (A 38) (A 39) (I 1 5) (I 1 6) (I 1 7) (A 2) (A 3) (A 4) (A 5) (A 6) = some (I 1 5, I 1 6, I 1 7, f3, t3, l3, k3, g3, on3, bk3, le3) := e1
    obtain ⟨y, g, m1, m2, m3⟩ := f6_measure_r (x := A 40) (cf := A 41) (du := I 29 4) hv e2 (fun s hs => (e3 s hs).1) (fun s hs => (e3 s hs).2) e4 (show 1000 ≤ N by omega)
    have hW := CS_IsV_r hv m2 m3
    have hx : ∀ c, c < 6 → y (6 * dueB t (t 49) + c) = nI (Lf y (6 * dueB t (t 49) + c)) ∧ Lf y (6 * dueB t (t 49) + c) ≤ 1000000 := fun c hc6 => by
      have hk : okc y (6 * dueB t (t 49) + c) := by
        by_cases w : dueB t (t 49) = 0
        · rw [w]; exact (m2 c hc6).1
        · exact (m3 _ hUU w).1 c hc6
      exact ⟨hk.2, hk.1⟩
    have l9 := f6_looseLoop (d := fun c => Lf y (6 * dueB t (t 49) + c)) hU hx (show 100 ≤ N by omega)
    obtain ⟨y2, l10⟩ := f10_looseLoop (lf := A 73) hv hm hW hN
    have l10' : lp (fun s_26 : Int32 × Int32 × Int32 × (Nat → Int32) => f_X10_loose_b26 N s_26.2.2.1 s_26.1 s_26.2.1 s_26.2.2.2 (A 66)) N ((-9 : Int32), (-9 : Int32), (0 : Int32), A 73) = some (wJ (-9) (lsE (fun c => Lf y (6 * dueB t (t 49) + c)) 6), wI (lsE (fun c => Lf y (6 * dueB t (t 49) + c)) 6), y2) := l10
    have n01 : x1 = 0 ∨ x1 = 1 := by
      obtain ⟨j, hj, rfl⟩ := cin_nI (n := 2) (x := x1) ⟨hy.1, by omega⟩ (by decide)
      have : j = 0 ∨ j = 1 := by omega
      rcases this with rfl | rfl
      · exact Or.inl rfl
      · exact Or.inr rfl
    have le9 : f_X6_looseEnd N (I 29 3) (I 29 4) (I 31 5) (I 31 6) (I 31 7) (A 32) (A 33) (A 34) (A 35) (A 36) (A 37) (A 38) (A 39) (A 40) (A 41) (I 1 5) (I 1 6) (I 1 7) (A 2) (A 3) (A 4) (A 5) (A 6) = some (wI (lsE (fun c => Lf y (6 * dueB t (t 49) + c)) 6), 0, nI (dueB t (t 49)), I 1 5, I 1 6, I 1 7, f3, t3, l3, k3, g3, on3, bk3, le3, y, g) := by
      unfold f_X6_looseEnd
      rw [e1', Option.bind_some]
      dsimp only
      rw [m1, Option.bind_some]
      dsimp only
      rw [l9, Option.bind_some]
    have core : f_X9_loose_j1 N (A 64) (I 29 3) (I 29 4) (I 31 5) (I 31 6) (I 31 7) (A 32) (A 33) (A 34) (A 35) (A 36) (A 37) (A 38) (A 39) (A 40) (A 41) (I 1 5) (I 1 6) (I 1 7) (A 2) (A 3) (A 4) (A 5) (A 6) x1 = some (if x1 = 0 then wJ (-9) (lsE (fun c => Lf y (6 * dueB t (t 49) + c)) 6) else wI (lsE (fun c => Lf y (6 * dueB t (t 49) + c)) 6), 0, nI (dueB t (t 49)), I 1 5, I 1 6, I 1 7, f3, t3, l3, k3, g3, on3, bk3, le3, y, g, A 64) := by
      unfold f_X9_loose_j1
      rw [le9, Option.bind_some]
      dsimp only
      cases q : lsE (fun c => Lf y (6 * dueB t (t 49) + c)) 6 with
      | none =>
        show (if (0 : Int32) ≤ -9 then _ else _) = _
        rw [if_neg (by decide)]
        rcases n01 with w | w
        · rw [if_pos w]; rfl
        · rw [if_neg (by rw [w]; decide)]; rfl
      | some p =>
        have hp := lsE_ok _ 6 p q
        show (if (0 : Int32) ≤ nI p.1 then _ else _) = _
        rw [if_pos (nI_pos' (by omega))]
        rcases n01 with w | w
        · rw [if_pos w, if_pos w]
          show (f_X6_looseCost (nI p.1) (nI (dueB t (t 49))) y).bind _ = _
          rw [f6_looseCost hU hp.1 (hx p.1 hp.1).1, Option.bind_some]
          rw [show Lf y (6 * dueB t (t 49) + p.1) = p.2 from hp.2.2]; rfl
        · rw [if_neg (by rw [w]; decide), if_neg (by rw [w]; decide)]
    have f9 : f_X9_loose N x1 (I 1 5) (I 1 6) (I 1 7) (A 2) (A 3) (A 4) (A 5) (A 6) (I 29 3) (I 29 4) (I 31 5) (I 31 6) (I 31 7) (A 32) (A 33) (A 34) (A 35) (A 36) (A 37) (A 38) (A 39) (A 40) (A 41) (A 64) = some (if x1 = 0 then wJ (-9) (lsE (fun c => Lf y (6 * dueB t (t 49) + c)) 6) else wI (lsE (fun c => Lf y (6 * dueB t (t 49) + c)) 6), 0, nI (dueB t (t 49)), I 1 5, I 1 6, I 1 7, f3, t3, l3, k3, g3, on3, bk3, le3, y, g, A 64) := by
      unfold f_X9_loose
      rw [core]
      rcases n01 with w | w
      · rw [if_pos w, if_pos w]
      · rw [if_neg (by rw [w]; decide), if_pos w]
    refine ⟨_, f9, ?_⟩
    have f10 : ∀ r : Nat → Int32, f_X10_loose N x1 (A 66) r (A 73) = some (if x1 = 0 then wJ (-9) (lsE (fun c => Lf y (6 * dueB t (t 49) + c)) 6) else wI (lsE (fun c => Lf y (6 * dueB t (t 49) + c)) 6), r, y2) := fun r => by
      unfold f_X10_loose
      rw [hin, Option.bind_some, if_neg (fun q => b2_0.mp q hy), l10', Option.bind_some]
    exact ⟨_, f10 _, rfl, t, k, h1, h2, h3, h4, h5, h6, h7, Or.inl rfl, fun q => absurd (show (0 : Int32) = 1 from q) (by decide)⟩
  · have n0 : ¬ x1 = 0 := fun q => hy (by rw [q]; decide)
    have n1 : ¬ x1 = 1 := fun q => hy (by rw [q]; decide)
    have f9 : f_X9_loose N x1 (I 1 5) (I 1 6) (I 1 7) (A 2) (A 3) (A 4) (A 5) (A 6) (I 29 3) (I 29 4) (I 31 5) (I 31 6) (I 31 7) (A 32) (A 33) (A 34) (A 35) (A 36) (A 37) (A 38) (A 39) (A 40) (A 41) (A 64) = some (-2, I 29 3, I 29 4, I 31 5, I 31 6, I 31 7, A 32, A 33, A 34, A 35, A 36, A 37, A 38, A 39, A 40, A 41, upd (A 64) 2 (A 64 2 + 1)) := by
      unfold f_X9_loose
      rw [if_neg n0, if_neg n1, rf9_2, Option.bind_some]
    refine ⟨_, f9, ?_⟩
    have f10 : ∀ r : Nat → Int32, f_X10_loose N x1 (A 66) r (A 73) = some (-2, upd r 2 (r 2 + 1), A 73) := fun r => by
      unfold f_X10_loose
      rw [hin, Option.bind_some, if_pos (b2_0.mpr hy), rf10_2, Option.bind_some]
    exact ⟨_, f10 _, rfl, t, k, h1, h2, h3, h4.up (by decide), h5, h6, h7, h8⟩
