/-! the model's table, set by set -/
def sm6 (x : Nat → Int32) (X : Nat) : Nat := Lf x (6 * X + 0) + Lf x (6 * X + 1) + Lf x (6 * X + 2) + Lf x (6 * X + 3) + Lf x (6 * X + 4) + Lf x (6 * X + 5)
def Dn (t : Nat → Nat) (U h : Nat) (x : Nat → Int32) (X : Nat) : Prop := (∀ c, c < 6 → okc x (6 * X + c)) ∧ (X = U → Lf x (6 * X + h) = 0) ∧ (∀ e, e < 2 * t 49 → cls t U x X e) ∧ ∀ c, c < 6 → rlz t U h x X c
theorem f10_fillsSet {t : Nat → Nat} {w x : Nat → Int32} (hv : vT t) (h : mR t w) {U X hm : Nat} (hU : U < 256) (hX : X &&& U = X) (hh : hm < 6) (hok : ∀ Y, Y &&& U = Y → X < Y → ∀ c, c < 6 → okc x (6 * Y + c)) {N : Nat} (hN : 8000000 ≤ N) : ∃ x', f_X10_fillsSet N (nI U) (nI X) (nI hm) x w = some x' ∧ (∀ i, ¬ (6 * X ≤ i ∧ i < 6 * X + 6) → x' i = x i) ∧ Dn t U hm x' X := by
  have h8 := hv.1
  have hX8 := sub_lt hX hU
  obtain ⟨x1, e1, q1, q2⟩ := lp_cnt (b := fun s : Int32 × (Nat → Int32) => f_X10_fillsSet_b3 s.1 s.2 (nI X) (nI U) (nI hm)) (fun i y => (nI i, y)) (fun i y => (∀ j, ¬ (6 * X ≤ j ∧ j < 6 * X + 6) → y j = x j) ∧ ∀ c, c < i → y (6 * X + c) = nI (if X = U ∧ c = hm then 0 else 1000000)) (fun y => (∀ j, ¬ (6 * X ≤ j ∧ j < 6 * X + 6) → y j = x j) ∧ ∀ c, c < 6 → y (6 * X + c) = nI (if X = U ∧ c = hm then 0 else 1000000)) 6 (fun i y hi hp => by
    have jU : nI X = nI U ↔ X = U := nI_eq (by omega) (by omega)
    have jh : nI i = nI hm ↔ i = hm := nI_eq (by omega) (by omega)
    refine ⟨upd y (6 * X + i) (nI (if X = U ∧ i = hm then 0 else 1000000)), ?_, fun j hj => ?_, fun c hc => ?_⟩
    · show f_X10_fillsSet_b3 (nI i) y (nI X) (nI U) (nI hm) = _
      unfold f_X10_fillsSet_b3
      rw [if_neg (show ¬ (6 : Int32) ≤ nI i from nI_ge (b := 6) hi (by decide)), six', ga_ok (by omega) (by decide), nI_clamp (by omega), nI_1]
      simp only [jU, jh]
      by_cases a : X = U
      · by_cases b : i = hm
        · rw [if_pos a, if_pos b, if_pos ⟨a, b⟩]; rfl
        · rw [if_pos a, if_neg b, if_neg (fun z => b z.2)]; rfl
      · rw [if_neg a, if_neg (fun z => a z.1)]; rfl
    · rw [pk_un (by omega)]; exact hp.1 j hj
    · by_cases e : c = i
      · subst e; rw [pk_us]
      · rw [pk_un (by omega)]; exact hp.2 c (by omega)) (fun y hp => by
    refine ⟨y, ?_, hp⟩
    show f_X10_fillsSet_b3 (nI 6) y (nI X) (nI U) (nI hm) = _
    unfold f_X10_fillsSet_b3
    rw [if_pos (show (6 : Int32) ≤ nI 6 from nI_le (a := 6) (Nat.le_refl _) (by decide))]) 6 0 N x (by omega) (by omega) ⟨fun _ _ => rfl, fun c hc => absurd hc (by omega)⟩
  have l1 : ∀ c, c < 6 → Lf x1 (6 * X + c) = if X = U ∧ c = hm then 0 else 1000000 := fun c hc => by
    unfold Lf
    rw [q2 c hc, nI_clamp (by split <;> omega)]
  have ok1 : ∀ c, c < 6 → okc x1 (6 * X + c) := fun c hc => by
    unfold okc
    rw [l1 c hc]
    exact ⟨by split <;> omega, q2 c hc⟩
  obtain ⟨x2, e2, r1, r2⟩ := lp_inv (b := fun s : Int32 × (Nat → Int32) => f_X10_fillsSet_b49 N s.1 s.2 w (nI U) (nI X)) (fun s => (∀ j, ¬ (6 * X ≤ j ∧ j < 6 * X + 6) → s.2 j = x1 j) ∧ (∀ c, c < 6 → okc s.2 (6 * X + c)) ∧ (X = U → Lf s.2 (6 * X + hm) = 0) ∧ (∀ c, c < 6 → rlz t U hm s.2 X c) ∧ ((s.1 = 0 ∧ ∀ e, e < 2 * t 49 → cls t U s.2 X e) ∨ s.1 = 1)) (fun s => if s.1 = 0 then 0 else 1 + sm6 s.2 X) (fun y => (∀ j, ¬ (6 * X ≤ j ∧ j < 6 * X + 6) → y j = x1 j) ∧ Dn t U hm y X) (fun s hs => by
    obtain ⟨fl, y⟩ := s
    obtain ⟨a1, a2, a3, a4, a5⟩ := hs
    dsimp only at a1 a2 a3 a4 a5
    rcases a5 with ⟨b1, b2⟩ | b1
    · refine Or.inr ⟨y, ?_, a1, a2, a3, b2, a4⟩
      show f_X10_fillsSet_b49 N fl y w (nI U) (nI X) = _
      unfold f_X10_fillsSet_b49
      rw [if_pos b1]
    · obtain ⟨o, o1, p1, p2, p3, p4, p5⟩ := f10_pass (x0 := y) hv h hU hX hh (fun Y hY hle c hc => by
        by_cases e : Y = X
        · rw [e]; exact a2 c hc
        · have g1 := a1 (6 * Y + c) (by omega)
          have g2 := q1 (6 * Y + c) (by omega)
          have g3 := hok Y hY (by omega) c hc
          unfold okc Lf at g3 ⊢
          rw [g1, g2]; exact g3) a3 a4 (show 100 ≤ N by omega)
      refine Or.inl ⟨(o.1, o.2), ?_, ⟨fun j hj => (p1 j hj).trans (a1 j hj), fun c hc => (p2 c hc).1, p4, p3, ?_⟩, ?_⟩
      · show f_X10_fillsSet_b49 N fl y w (nI U) (nI X) = _
        unfold f_X10_fillsSet_b49
        rw [b1, if_neg (by decide), o1, Option.bind_some]
      · rcases p5 with ⟨c1, _, c3⟩ | ⟨c1, _⟩
        · exact Or.inl ⟨c1, c3⟩
        · exact Or.inr c1
      · show (if o.1 = 0 then 0 else 1 + sm6 o.2 X) < if fl = 0 then 0 else 1 + sm6 y X
        rw [b1, if_neg (show ¬ (1 : Int32) = 0 by decide)]
        rcases p5 with ⟨c1, _, _⟩ | ⟨c1, c, c2, c3⟩
        · rw [if_pos c1]; omega
        · rw [c1, if_neg (by decide)]
          have d0 := (p2 0 (by decide)).2
          have d1 := (p2 1 (by decide)).2
          have d2 := (p2 2 (by decide)).2
          have d3 := (p2 3 (by decide)).2
          have d4 := (p2 4 (by decide)).2
          have d5 := (p2 5 (by decide)).2
          unfold sm6
          have e : c = 0 ∨ c = 1 ∨ c = 2 ∨ c = 3 ∨ c = 4 ∨ c = 5 := by omega
          rcases e with rfl | rfl | rfl | rfl | rfl | rfl <;> omega) N ((1 : Int32), x1) ⟨fun _ _ => rfl, ok1, fun a => by rw [l1 hm hh, if_pos ⟨a, rfl⟩], fun c hc hlt => by
        rw [l1 c hc] at hlt
        split at hlt
        · rename_i z; exact Or.inl z
        · omega, Or.inr rfl⟩ (by
      show (if (1 : Int32) = 0 then 0 else 1 + sm6 x1 X) < N
      rw [if_neg (by decide)]
      have d0 := (ok1 0 (by decide)).1
      have d1 := (ok1 1 (by decide)).1
      have d2 := (ok1 2 (by decide)).1
      have d3 := (ok1 3 (by decide)).1
      have d4 := (ok1 4 (by decide)).1
      have d5 := (ok1 5 (by decide)).1
      unfold sm6
      omega)
  refine ⟨x2, ?_, fun i hi => (r1 i hi).trans (q1 i hi), r2⟩
  have e1' : lp (fun s_3 => f_X10_fillsSet_b3 s_3.1 s_3.2 (nI X) (nI U) (nI hm)) N ((0 : Int32), x) = some x1 := e1
  unfold f_X10_fillsSet
  rw [e1', Option.bind_some, e2, Option.bind_some]
/-- what has been done stays done, when smaller sets are written -/
theorem Dn_keep {t : Nat → Nat} (hv : vT t) {U h X Y : Nat} {x y : Nat → Int32} (hU : U < 256) (hY : Y &&& U = Y) (hXY : X < Y) (hxy : ∀ i, ¬ (6 * X ≤ i ∧ i < 6 * X + 6) → y i = x i) (hh : h < 6) (hd : Dn t U h x Y) : Dn t U h y Y := by
  have e1 : ∀ Z c, X < Z → c < 6 → Lf y (6 * Z + c) = Lf x (6 * Z + c) := fun Z c hZ hc => by unfold Lf; rw [hxy _ (by omega)]
  have e2 : ∀ Z c, X < Z → c < 6 → y (6 * Z + c) = x (6 * Z + c) := fun Z c hZ hc => hxy _ (by omega)
  obtain ⟨a1, a2, a3, a4⟩ := hd
  refine ⟨fun c hc => ?_, fun z => ?_, fun e he hc => ?_, fun c hc hlt => ?_⟩
  · unfold okc; rw [e1 Y c hXY hc, e2 Y c hXY hc]; exact a1 c hc
  · rw [e1 Y h hXY hh]; exact a2 z
  · have u := (upX_ok (s := e / 2) hU hY).2.1
    rw [e1 Y _ hXY (sA_lt hv he), e1 _ _ (by omega) (sE_lt hv he)]
    exact a3 e he hc
  · rw [e1 Y c hXY hc] at hlt ⊢
    rcases a4 c hc hlt with a | ⟨e, f1, f2, f3, f4⟩
    · exact Or.inl a
    · have u := (upX_ok (s := e / 2) hU hY).2.1
      refine Or.inr ⟨e, f1, f2, f3, ?_⟩
      rw [e1 _ _ (by omega) (sE_lt hv f1)]
      exact f4
