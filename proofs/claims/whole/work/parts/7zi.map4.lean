/-! map -/
theorem f10_digit {f : Nat → Int32} {n q : Nat} (h : LT f n) (hq : q < n) (hd : dgt (lT1 f q)) : f_X10_digit (nI q) f = some (nI (lT1 f q - 48)) := by
  have := h.1
  unfold f_X10_digit
  rw [ga_ok (by omega) (by decide), nI_clamp (by omega), (h.2 q hq).1, show nI (lT1 f q) - (48 : Int32) = nI (lT1 f q - 48) from pk_sub (b := 48) hd.1]
def TM (t : Nat → Nat) (f : Nat → Int32) (p : Nat) (r : Int32 × (Nat → Int32)) : Prop :=
  match tkT t f p with
  | none => r.1 = 0
  | some u => r.1 = 1 ∧ vT u ∧ mR u r.2
theorem f10_takes {t : Nat → Nat} {f w : Nat → Int32} {n p : Nat} (hv : vT t) (h : mR t w) (hl : LT f n) (hp : PV f n p) : ∃ r, f_X10_takes (nI p) f w = some r ∧ TM t f p r := by
  have t8 := hv.1
  have h96 := hl.1
  have hp1 := hp.1
  have hl0 := (hl.2 p hp.1).2
  have lit : ∀ {b : Nat} {x : Int32}, b < 256 → x = nI b → (nI (lT1 f p) = x ↔ lT1 f p = b) := fun hb hx => nIlit hl0 hb hx
  unfold f_X10_takes
  rw [ga_ok (show p < 96 by omega) (by decide), nI_clamp (show p < 2 ^ 31 by omega), (hl.2 p hp.1).1]
  rcases PV_c hp with c | c | c | c | c
  · obtain ⟨q0, q1, q2, q3, q4⟩ := PV_s hp c
    have L := l2N_le q3 q4
    have q12 := q1.2
    have q22 := q2.2
    rw [if_pos ((lit (b := 115) (x := 115) (by decide) rfl).mpr c), nI_1, show nI p + (2 : Int32) = nI (p + 2) from nI_add p 2, show nI p + (3 : Int32) = nI (p + 3) from nI_add p 3, show nI p + (4 : Int32) = nI (p + 4) from nI_add p 4, ga_ok (by omega) (by decide), ga_ok (by omega) (by decide), f10_digit hl (by omega) q3, Option.bind_some, f10_digit hl (by omega) q4, Option.bind_some, ten, nI_clamp (show p + 1 < 2 ^ 31 by omega), nI_clamp (show p + 2 < 2 ^ 31 by omega), (hl.2 (p + 1) (by omega)).1, (hl.2 (p + 2) (by omega)).1, show nI (lT1 f (p + 1)) - (97 : Int32) = nI (lT1 f (p + 1) - 97) from pk_sub (b := 97) q1.1, show nI (lT1 f (p + 2)) - (97 : Int32) = nI (lT1 f (p + 2) - 97) from pk_sub (b := 97) q2.1]
    unfold TM tkT
    rw [if_pos c]
    show ∃ r, (f_X10_comes (nI (lT1 f (p + 1) - 97)) (nI (lT1 f (p + 2) - 97)) (nI (l2N f (p + 3))) w).bind _ = some r ∧ _
    by_cases z : lT1 f (p + 1) - 97 < 6 ∧ lT1 f (p + 2) - 97 < 6 ∧ lT1 f (p + 1) - 97 ≠ lT1 f (p + 2) - 97 ∧ 1 ≤ l2N f (p + 3) ∧ t 49 < 8
    · obtain ⟨w2, a1, a2⟩ := f10_comes hv h z.2.2.2.2 z.1 z.2.1 z.2.2.1 ⟨z.2.2.2.1, L⟩
      rw [a1, Option.bind_some, gb_1, if_pos z]
      exact ⟨_, rfl, rfl, hv.add z.2.2.2.2 z.1 z.2.1 z.2.2.1 ⟨z.2.2.2.1, L⟩, a2⟩
    · have no : ¬ ((0 ≤ (nI (lT1 f (p + 1) - 97)).toInt ∧ (nI (lT1 f (p + 1) - 97)).toInt < 6) ∧ (0 ≤ (nI (lT1 f (p + 2) - 97)).toInt ∧ (nI (lT1 f (p + 2) - 97)).toInt < 6) ∧ nI (lT1 f (p + 1) - 97) ≠ nI (lT1 f (p + 2) - 97) ∧ (1 ≤ (nI (l2N f (p + 3))).toInt ∧ (nI (l2N f (p + 3))).toInt ≤ 99) ∧ t 49 < 8) := fun q => z (by
        obtain ⟨b1, b2, b3, b4, b5⟩ := q
        rw [nI_toInt (by omega)] at b1 b2 b4
        exact ⟨by omega, by omega, fun e => b3 (by rw [e]), by omega, b5⟩)
      rw [f10_comesNot h.1 t8 no, Option.bind_some, gb_0, if_neg z]
      exact ⟨_, rfl, rfl⟩
  · obtain ⟨q0, q1⟩ := PV_h hp c
    rw [if_neg (fun w => by have := (lit (b := 115) (x := 115) (by decide) rfl).mp w; omega), if_pos ((lit (b := 104) (x := 104) (by decide) rfl).mpr c), nI_1, ga_ok (by omega) (by decide), nI_clamp (by omega), (hl.2 (p + 1) (by omega)).1, icr10 _ q1, Option.bind_some]
    unfold TM tkT
    rw [if_neg (show ¬ lT1 f p = 115 by omega), if_pos c]
    by_cases z : lT1 f (p + 1) - 97 < 6
    · rw [if_neg (fun w => b2_0.mp w z), Option.bind_some, ga_in (by decide), Option.bind_some, gb_b2, if_pos z, show nI (lT1 f (p + 1)) - (97 : Int32) = nI (lT1 f (p + 1) - 97) from pk_sub (b := 97) q1.1]
      exact ⟨_, rfl, if_pos z, hv.home z, h.home hv _⟩
    · rw [if_pos (b2_0.mpr z), ga_in (by decide), Option.bind_some, ga_in (by decide), Option.bind_some, gb_b2, if_neg z]
      exact ⟨_, rfl, if_neg z⟩
  all_goals
    have q01 : p + 2 < n ∧ dgt (lT1 f (p + 1)) := by
      first
      | exact PV_x hp c
      | exact ⟨by have := (PV_k hp (Or.inl c)).1; omega, (PV_k hp (Or.inl c)).2.1⟩
      | exact ⟨by have := (PV_k hp (Or.inr c)).1; omega, (PV_k hp (Or.inr c)).2.1⟩
    obtain ⟨q0, q1⟩ := q01
    have q12 := q1.2
    rw [if_neg (fun w => by have := (lit (b := 115) (x := 115) (by decide) rfl).mp w; omega), if_neg (fun w => by have := (lit (b := 104) (x := 104) (by decide) rfl).mp w; omega), nI_1, f10_digit hl (by omega) q1, Option.bind_some, f10_isStreet _ t8 h.1, Option.bind_some]
    unfold TM tkT
    rw [if_neg (show ¬ lT1 f p = 115 by omega), if_neg (show ¬ lT1 f p = 104 by omega)]
    by_cases z : lT1 f (p + 1) - 48 < t 49
    rotate_left
    · rw [if_pos (b2_0.mpr (fun w => z (by rw [nI_toInt (by omega)] at w; omega))), if_neg z]
      exact ⟨_, rfl, rfl⟩
    rw [if_neg (fun w => b2_0.mp w (by rw [nI_toInt (by omega)]; omega)), if_pos z]
  · have ho := (hv.2.2.1 _ z).2.2.2.2.2.2.2
    have w5 : w (8 * 5 + (lT1 f (p + 1) - 48)) = nI (t (40 + (lT1 f (p + 1) - 48))) := h.2.2 5 (by decide) _ z
    rw [if_pos ((lit (b := 120) (x := 120) (by decide) rfl).mpr c), if_pos c, show (40 : Int32) + nI (lT1 f (p + 1) - 48) = nI (8 * 5 + (lT1 f (p + 1) - 48)) from nI_add 40 _, ga_ok (by omega) (by decide), ga_ok (by omega) (by decide), nI_clamp (by omega), w5, show (1 : Int32) - nI (t (40 + (lT1 f (p + 1) - 48))) = nI (1 - t (40 + (lT1 f (p + 1) - 48))) from pk_sub (a := 1) (by omega)]
    exact ⟨_, rfl, rfl, hv.set z (by decide) (by decide) ⟨fun q => absurd q (by decide), fun q => absurd q (by decide), fun q => absurd q (by decide), fun _ => by omega⟩, h.set hv z (by decide)⟩
  · obtain ⟨k0, k1, k2, k3⟩ := PV_k hp (Or.inl c)
    have k22 := k2.2
    have k32 := k3.2
    rw [if_neg (fun w => by have := (lit (b := 120) (x := 120) (by decide) rfl).mp w; omega), if_neg (fun w => by have := (lit (b := 108) (x := 108) (by decide) rfl).mp w; omega), if_neg (show ¬ lT1 f p = 120 by omega), if_neg (show ¬ lT1 f p = 108 by omega), show nI p + (2 : Int32) = nI (p + 2) from nI_add p 2, show nI p + (3 : Int32) = nI (p + 3) from nI_add p 3, f10_digit hl (by omega) k2, Option.bind_some, show (24 : Int32) + nI (lT1 f (p + 1) - 48) = nI (8 * 3 + (lT1 f (p + 1) - 48)) from nI_add 24 _, show (32 : Int32) + nI (lT1 f (p + 1) - 48) = nI (8 * 4 + (lT1 f (p + 1) - 48)) from nI_add 32 _, ga_ok (by omega) (by decide), f10_digit hl (by omega) k3, Option.bind_some, ga_ok (by omega) (by decide), ga_ok (by omega) (by decide), nI_clamp (show 8 * 3 + (lT1 f (p + 1) - 48) < 2 ^ 31 by omega), nI_clamp (show 8 * 4 + (lT1 f (p + 1) - 48) < 2 ^ 31 by omega), pk_un (show 8 * 3 + (lT1 f (p + 1) - 48) ≠ 8 * 4 + (lT1 f (p + 1) - 48) by omega), pk_us]
    have e : (if (5 : Int32) < nI (lT1 f (p + 2) - 48) then (0 : Int32) else (1 : Int32)) = b2 (lT1 f (p + 2) - 48 ≤ 5) := by
      unfold b2
      by_cases y : lT1 f (p + 2) - 48 ≤ 5
      · rw [if_neg (show ¬ (5 : Int32) < nI (lT1 f (p + 2) - 48) from nI_nlt (a := 5) y (by decide)), if_pos y]
      · rw [if_pos (show (5 : Int32) < nI (lT1 f (p + 2) - 48) from nI_lt (a := 5) (by omega) (by omega)), if_neg y]
    rw [e, gb_b2]
    by_cases y : lT1 f (p + 2) - 48 ≤ 5
    · rw [if_pos y]
      have v1 : vT (setT t (8 * 3 + (lT1 f (p + 1) - 48)) (lT1 f (p + 2) - 48)) := hv.set z (by decide) (by decide) ⟨fun q => absurd q (by decide), fun _ => y, fun q => absurd q (by decide), fun q => absurd q (by decide)⟩
      have z' : lT1 f (p + 1) - 48 < setT t (8 * 3 + (lT1 f (p + 1) - 48)) (lT1 f (p + 2) - 48) 49 := by rw [setT_n (by omega)]; exact z
      exact ⟨_, rfl, if_pos y, v1.set z' (by decide) (by decide) ⟨fun q => absurd q (by decide), fun q => absurd q (by decide), fun _ => by omega, fun q => absurd q (by decide)⟩, (h.set hv z (by decide)).set v1 z' (by decide)⟩
    · rw [if_neg y]
      exact ⟨_, rfl, if_neg y⟩
  · obtain ⟨k0, k1, k2, k3⟩ := PV_k hp (Or.inr c)
    have L := l2N_le k2 k3
    rw [if_neg (fun w => by have := (lit (b := 120) (x := 120) (by decide) rfl).mp w; omega), if_pos ((lit (b := 108) (x := 108) (by decide) rfl).mpr c), if_neg (show ¬ lT1 f p = 120 by omega), if_pos c, show nI p + (2 : Int32) = nI (p + 2) from nI_add p 2, show nI p + (3 : Int32) = nI (p + 3) from nI_add p 3, f10_digit hl (by omega) k2, Option.bind_some, f10_digit hl (by omega) k3, Option.bind_some, ten, show (16 : Int32) + nI (lT1 f (p + 1) - 48) = nI (8 * 2 + (lT1 f (p + 1) - 48)) from nI_add 16 _, ga_ok (by omega) (by decide), ga_ok (by omega) (by decide), nI_clamp (by omega), pk_us]
    show ∃ r, gb (if nI (l2N f (p + 2)) ≤ 0 then (0 : Int32) else (1 : Int32)) (some (if nI (l2N f (p + 2)) ≤ 0 then (0 : Int32) else (1 : Int32), upd w (8 * 2 + (lT1 f (p + 1) - 48)) (nI (l2N f (p + 2))))) = some r ∧ _
    have e : (if nI (l2N f (p + 2)) ≤ 0 then (0 : Int32) else (1 : Int32)) = b2 (1 ≤ l2N f (p + 2)) := by
      unfold b2
      by_cases y : 1 ≤ l2N f (p + 2)
      · rw [if_neg (nI_nle y (by omega)), if_pos y]
      · rw [show l2N f (p + 2) = 0 by omega, if_pos (by decide), if_neg (by omega)]
    rw [e, gb_b2]
    by_cases y : 1 ≤ l2N f (p + 2)
    · rw [if_pos y]
      exact ⟨_, rfl, if_pos y, hv.set z (by decide) (by decide) ⟨fun _ => ⟨y, L⟩, fun q => absurd q (by decide), fun q => absurd q (by decide), fun q => absurd q (by decide)⟩, h.set hv z (by decide)⟩
    · rw [if_neg y]
      exact ⟨_, rfl, if_neg y⟩
/-- all statements, one after another -/
def bF (f : Nat → Int32) : Nat → (Nat → Nat) → Nat → Nat ⊕ (Nat → Nat)
  | 0, t, _ => .inr t
  | k + 1, t, p => match tkT t f p with | none => .inl p | some u => bF f k u (p + 1 + szL (lT1 f p))
abbrev TW := Int32 × Int32 × Int32 × (Nat → Int32) × (Nat → Int32) × (Nat → Int32) × (Nat → Int32) × (Nat → Int32)
def cW8 (t : Nat → Nat) (z : TW) : Prop := cR t z.2.2.2.1 z.2.2.2.2.1 z.2.2.2.2.2.1 z.2.2.2.2.2.2.1 z.2.2.2.2.2.2.2 z.1 z.2.1 z.2.2.1
theorem f4_build {f : Nat → Int32} {n : Nat} (hl : LT f n) : ∀ k i p t (z : TW) M, vF f n k p → k < M → i + k ≤ 1000 → vT t → cW8 t z → ∃ o : TW ⊕ (Int32 × TW), lp (fun s_4 : Int32 × Int32 × TW => f_X4_build_b4 (nI (i + k)) s_4.2.1 s_4.2.2.1 s_4.2.2.2.1 s_4.2.2.2.2.1 s_4.2.2.2.2.2.1 s_4.2.2.2.2.2.2.1 s_4.2.2.2.2.2.2.2.1 s_4.2.2.2.2.2.2.2.2.1 s_4.2.2.2.2.2.2.2.2.2 s_4.1 (nI n) f) M (nI p, nI i, z) = some o ∧ (match bF f k t p with | .inl q => ∃ z', o = .inr (nI q, z') | .inr u => ∃ z', o = .inl z' ∧ vT u ∧ cW8 u z') := by
  have h96 := hl.1
  intro k
  induction k with
  | zero =>
    intro i p t z M hvf hM hb hv hz
    obtain ⟨M, rfl⟩ : ∃ M', M = M' + 1 := ⟨M - 1, by omega⟩
    refine ⟨.inl z, lp_r (b := fun s_4 : Int32 × Int32 × TW => f_X4_build_b4 (nI (i + 0)) s_4.2.1 s_4.2.2.1 s_4.2.2.2.1 s_4.2.2.2.2.1 s_4.2.2.2.2.2.1 s_4.2.2.2.2.2.2.1 s_4.2.2.2.2.2.2.2.1 s_4.2.2.2.2.2.2.2.2.1 s_4.2.2.2.2.2.2.2.2.2 s_4.1 (nI n) f) ?_, z, rfl, hv, hz⟩
    dsimp only
    unfold f_X4_build_b4
    rw [if_pos (nI_le (by omega) (by omega))]
  | succ k ih =>
    intro i p t z M hvf hM hb hv hz
    obtain ⟨M, rfl⟩ : ∃ M', M = M' + 1 := ⟨M - 1, by omega⟩
    obtain ⟨pv, pr⟩ := hvf
    obtain ⟨r, r1, r2⟩ := f4_tell hv hz hl pv
    unfold TL at r2
    unfold bF
    cases q : tkT t f p with
    | none =>
      rw [q] at r2
      have r2' : r.1 = 0 := r2
      refine ⟨.inr (nI p, r.2), lp_r (b := fun s_4 : Int32 × Int32 × TW => f_X4_build_b4 (nI (i + (k + 1))) s_4.2.1 s_4.2.2.1 s_4.2.2.2.1 s_4.2.2.2.2.1 s_4.2.2.2.2.2.1 s_4.2.2.2.2.2.2.1 s_4.2.2.2.2.2.2.2.1 s_4.2.2.2.2.2.2.2.2.1 s_4.2.2.2.2.2.2.2.2.2 s_4.1 (nI n) f) ?_, r.2, rfl⟩
      dsimp only
      unfold f_X4_build_b4
      rw [if_neg (nI_ge (by omega) (by omega)), r1, Option.bind_some, if_pos r2']
    | some u =>
      rw [q] at r2
      obtain ⟨r3, r4, r5⟩ := r2
      obtain ⟨o, o1, o2⟩ := ih (i + 1) (p + 1 + szL (lT1 f p)) u r.2 M pr (by omega) (by omega) r4 r5
      rw [show i + 1 + k = i + (k + 1) by omega] at o1
      refine ⟨o, (lp_l (b := fun s_4 : Int32 × Int32 × TW => f_X4_build_b4 (nI (i + (k + 1))) s_4.2.1 s_4.2.2.1 s_4.2.2.2.1 s_4.2.2.2.2.1 s_4.2.2.2.2.2.1 s_4.2.2.2.2.2.2.1 s_4.2.2.2.2.2.2.2.1 s_4.2.2.2.2.2.2.2.2.1 s_4.2.2.2.2.2.2.2.2.2 s_4.1 (nI n) f) ?_).trans o1, o2⟩
      dsimp only
      unfold f_X4_build_b4
      rw [if_neg (nI_ge (by omega) (by omega)), r1, Option.bind_some, if_neg (by rw [r3]; decide), f4_atI hl pv.1, Option.bind_some, f4_formOf (hl.2 p pv.1).2, Option.bind_some, gs_ok (fmS_lt _), slI, show (1 : Int32) + nI (slen (fmS (lT1 f p))) = nI (1 + slen (fmS (lT1 f p))) from nI_add 1 _, nI_add, nI_1, show p + (1 + slen (fmS (lT1 f p))) = p + 1 + szL (lT1 f p) by unfold szL; omega]
theorem f10_build {f now : Nat → Int32} {n : Nat} (hl : LT f n) : ∀ k i p t (w : Nat → Int32) M, vF f n k p → k < M → vT t → mR t w → ∃ o : (Int32 × (Nat → Int32)) ⊕ (Int32 × Int32 × (Nat → Int32) × (Nat → Int32)), lp (fun s_37 : Int32 × Int32 × (Nat → Int32) => f_X10_map_b37 (nI n) s_37.2.1 s_37.1 s_37.2.2 f now) M (nI i, nI p, w) = some o ∧ (match bF f k t p with | .inl q => ∃ w', o = .inr ((-2000 : Int32) - nI q, (0 : Int32), now, w') | .inr u => ∃ w', o = .inl (nI (i + k), w') ∧ vT u ∧ mR u w') := by
  have h96 := hl.1
  intro k
  induction k with
  | zero =>
    intro i p t w M hvf hM hv hw
    obtain ⟨M, rfl⟩ : ∃ M', M = M' + 1 := ⟨M - 1, by omega⟩
    have e : p = n := hvf
    refine ⟨.inl (nI i, w), lp_r (b := fun s_37 : Int32 × Int32 × (Nat → Int32) => f_X10_map_b37 (nI n) s_37.2.1 s_37.1 s_37.2.2 f now) ?_, w, rfl, hv, hw⟩
    dsimp only
    unfold f_X10_map_b37
    rw [if_pos (nI_le (by omega) (by omega))]
  | succ k ih =>
    intro i p t w M hvf hM hv hw
    obtain ⟨M, rfl⟩ : ∃ M', M = M' + 1 := ⟨M - 1, by omega⟩
    obtain ⟨pv, pr⟩ := hvf
    have p1 := pv.1
    obtain ⟨r, r1, r2⟩ := f10_takes hv hw hl pv
    unfold TM at r2
    unfold bF
    cases q : tkT t f p with
    | none =>
      rw [q] at r2
      have r2' : r.1 = 0 := r2
      refine ⟨.inr ((-2000 : Int32) - nI p, (0 : Int32), now, r.2), lp_r (b := fun s_37 : Int32 × Int32 × (Nat → Int32) => f_X10_map_b37 (nI n) s_37.2.1 s_37.1 s_37.2.2 f now) ?_, r.2, rfl⟩
      dsimp only
      unfold f_X10_map_b37
      rw [if_neg (nI_ge pv.1 (by omega)), r1, Option.bind_some, if_pos r2']
    | some u =>
      rw [q] at r2
      obtain ⟨r3, r4, r5⟩ := r2
      obtain ⟨o, o1, o2⟩ := ih (i + 1) (p + 1 + szL (lT1 f p)) u r.2 M pr (by omega) r4 r5
      rw [show i + 1 + k = i + (k + 1) by omega] at o2
      refine ⟨o, (lp_l (b := fun s_37 : Int32 × Int32 × (Nat → Int32) => f_X10_map_b37 (nI n) s_37.2.1 s_37.1 s_37.2.2 f now) ?_).trans o1, o2⟩
      dsimp only
      unfold f_X10_map_b37
      rw [if_neg (nI_ge pv.1 (by omega)), r1, Option.bind_some, if_neg (by rw [r3]; decide), ga_ok (by omega) (by decide), nI_clamp (by omega), (hl.2 p pv.1).1, f10_sizeOf (hl.2 p pv.1).2, Option.bind_some, nI_1, nI_1, nI_add, show p + (szL (lT1 f p) + 1) = p + 1 + szL (lT1 f p) by omega]
/-- letters that are the same tell the same -/
theorem lT1_cong {f g : Nat → Int32} {n : Nat} (h : ∀ j, j < n → f j = g j) {j : Nat} (hj : j < n) : lT1 f j = lT1 g j := by unfold lT1; rw [h j hj]
theorem gdB_cong {f g : Nat → Int32} {n : Nat} (h : ∀ j, j < n → f j = g j) {p : Nat} (hp : p < n) (k : Nat) : gdB f n p k = gdB g n p k := by
  unfold gdB
  rw [lT1_cong h hp]
  by_cases z : p + 1 + k < n
  · rw [lT1_cong h z]
  · rw [decide_eq_false z, Bool.false_and, Bool.false_and]
theorem ldT_cong {p q : Nat → Bool} (h : ∀ k, p k = q k) : ∀ r i, ldT p i r = ldT q i r
  | 0, _ => rfl
  | r + 1, i => by unfold ldT; rw [h i, ldT_cong h r (i + 1)]
theorem paF_cong {f g : Nat → Int32} {n : Nat} (h : ∀ j, j < n → f j = g j) : ∀ u p, paF f n u p = paF g n u p
  | 0, _ => rfl
  | u + 1, p => by
    unfold paF
    by_cases z : p < n
    · rw [lT1_cong h z, ldT_cong (gdB_cong h z), paF_cong h u]
    · rw [if_neg (fun q => z q.1), if_neg (fun q => z q.1)]
theorem tkT_cong {f g : Nat → Int32} {n : Nat} (h : ∀ j, j < n → f j = g j) {p : Nat} (hp : PV f n p) (t : Nat → Nat) : tkT t f p = tkT t g p := by
  have e0 := lT1_cong h hp.1
  unfold tkT l2N
  rcases PV_c hp with c | c | c | c | c
  · obtain ⟨q0, _⟩ := PV_s hp c
    rw [← e0, if_pos c, if_pos c, lT1_cong h (show p + 1 < n by omega), lT1_cong h (show p + 2 < n by omega), lT1_cong h (show p + 3 < n by omega), lT1_cong h (show p + 3 + 1 < n by omega)]
  · obtain ⟨q0, _⟩ := PV_h hp c
    rw [← e0, if_neg (show ¬ lT1 f p = 115 by omega), if_neg (show ¬ lT1 f p = 115 by omega), if_pos c, if_pos c, lT1_cong h (show p + 1 < n by omega)]
  · obtain ⟨q0, _⟩ := PV_x hp c
    rw [← e0, if_neg (show ¬ lT1 f p = 115 by omega), if_neg (show ¬ lT1 f p = 115 by omega), if_neg (show ¬ lT1 f p = 104 by omega), if_neg (show ¬ lT1 f p = 104 by omega), if_pos c, if_pos c, lT1_cong h (show p + 1 < n by omega)]
  · obtain ⟨q0, _⟩ := PV_k hp (Or.inl c)
    rw [← e0, lT1_cong h (show p + 1 < n by omega), lT1_cong h (show p + 2 < n by omega), lT1_cong h (show p + 2 + 1 < n by omega), if_neg (show ¬ lT1 f p = 115 by omega), if_neg (show ¬ lT1 f p = 115 by omega)]
  · obtain ⟨q0, _⟩ := PV_k hp (Or.inr c)
    rw [← e0, lT1_cong h (show p + 1 < n by omega), lT1_cong h (show p + 2 < n by omega), lT1_cong h (show p + 2 + 1 < n by omega), if_neg (show ¬ lT1 f p = 115 by omega), if_neg (show ¬ lT1 f p = 115 by omega)]
theorem bF_cong {f g : Nat → Int32} {n : Nat} (h : ∀ j, j < n → f j = g j) : ∀ k t p, vF f n k p → bF f k t p = bF g k t p
  | 0, _, _, _ => rfl
  | k + 1, t, p, hv => by
    unfold bF
    rw [tkT_cong h hv.1]
    cases tkT t g p with
    | none => rfl
    | some u =>
      dsimp only
      rw [← lT1_cong h hv.1.1]
      exact bF_cong h k u _ hv.2
theorem pm_map {A I : Nat → Nat → Int32} (hI : Inv A I) {N : Nat} (hN : 8000000 ≤ N) : ∃ oc, f_X9_map N (I 1 5) (I 1 6) (I 1 7) (A 2) (A 3) (A 4) (A 5) (A 6) (I 7 5) (I 7 6) (I 7 7) (A 8) (A 9) (A 10) (A 11) (A 12) (I 61 1) (I 61 2) (A 62) = some oc ∧ ∃ om, f_X10_map N ((uI_X9_map A I oc) 65 8) ((uA_X9_map A I oc) 66) ((uA_X9_map A I oc) 68) ((uA_X9_map A I oc) 71) = some om ∧ oc.1 = om.1 ∧ Inv (uA_X10_map (uA_X9_map A I oc) (uI_X9_map A I oc) om) (uI_X10_map (uA_X9_map A I oc) (uI_X9_map A I oc) om) := by
  obtain ⟨t, k, h1, h2, h3, h4, h5, h6, h7, h8⟩ := hI
  obtain ⟨hv, hc, hm⟩ := id h1
  obtain ⟨n, hn, e1, e2, hr⟩ := id h6
  have hlf : LT (A 62) n := ⟨hn, fun j hj => by
    obtain ⟨_, v, v1, v2⟩ := hr j hj
    have : lT1 (A 62) j = v := by unfold lT1; rw [v2, nI_clamp (by omega)]
    rw [this]; exact ⟨v2, v1⟩⟩
  have heq : ∀ j, j < n → A 62 j = A 71 j := fun j hj => (hr j hj).1
  have hlg : LT (A 71) n := ⟨hn, fun j hj => by rw [← lT1_cong heq hj, ← heq j hj]; exact hlf.2 j hj⟩
  have iL : InvL 96 256 (0 : Int32) (0 : Int32) (A 62) (A 71) := ⟨0, by decide, rfl, rfl, fun j hj => absurd hj (by omega)⟩
  obtain ⟨sf, a1⟩ := f4_fault hlf (show 100 ≤ N by omega) 100 0 0 N (Or.inl rfl) (by omega) (by omega) (by omega) (by omega)
  have b1 := f10_fault hlg (show 100 ≤ N by omega) 100 0 N (Or.inl rfl) (by omega) (by omega) (by omega)
  rw [← paF_cong heq] at b1
  have a1' : ∀ st : Int32, f_X4_faultOfForm N (I 61 1) st (A 62) = some (match paF (A 62) n 100 0 with | .inl q => (nI q, sf) | .inr c => ((-9 : Int32), nI (0 + c))) := fun st => by
    unfold f_X4_faultOfForm
    rw [e1]
    exact (congrArg (fun o => Option.bind o _) a1).trans rfl
  have b1' : f_X10_faultOf N (I 65 8) (A 71) = some (match paF (A 62) n 100 0 with | .inl q => nI q | .inr _ => (-9 : Int32)) := by
    unfold f_X10_faultOf
    rw [e2]
    refine (congrArg (fun o => Option.bind o _) b1).trans ?_
    cases paF (A 62) n 100 0 <;> rfl
  cases q : paF (A 62) n 100 0 with
  | inl p =>
    rw [q] at a1' b1'
    have pb : p < 2 ^ 31 := by
      have : ∀ u s p, paF (A 62) n u s = .inl p → s ≤ n → p ≤ n + 10 := fun u => by
        induction u with
        | zero => intro s p hq hs; cases hq; omega
        | succ u ih =>
          intro s p hq hs
          unfold paF at hq
          have hz := szL_le (lT1 (A 62) s)
          split at hq
          · split at hq
            · cases hq; omega
            · split at hq
              · split at hq
                · rename_i r hr'; cases hq; exact ih _ _ hr' (by omega)
                · cases hq
              · cases hq
          · cases hq; omega
      have := this 100 0 p q (by omega)
      omega
    have f9 : f_X9_map N (I 1 5) (I 1 6) (I 1 7) (A 2) (A 3) (A 4) (A 5) (A 6) (I 7 5) (I 7 6) (I 7 7) (A 8) (A 9) (A 10) (A 11) (A 12) (I 61 1) (I 61 2) (A 62) = some ((-1000 : Int32) - nI p, I 1 5, I 1 6, I 1 7, A 2, A 3, A 4, A 5, A 6, I 7 5, I 7 6, I 7 7, A 8, A 9, A 10, A 11, A 12, 0, sf) := by
      unfold f_X9_map f_X9_readMap
      rw [a1', Option.bind_some]
      dsimp only
      rw [if_neg (nI_pos pb), Option.bind_some]; rfl
    refine ⟨_, f9, ?_⟩
    have f10 : f_X10_map N (I 65 8) (A 66) (A 68) (A 71) = some ((-1000 : Int32) - nI p, 0, A 66, A 68) := by
      unfold f_X10_map
      rw [b1', Option.bind_some]
      dsimp only
      rw [if_neg (nI_pos pb)]
    exact ⟨_, f10, rfl, t, k, h1, h2, h3, h4, h5, iL, h7, h8⟩
  | inr c =>
    rw [q] at a1' b1'
    have vf := paF_v 100 0 c q
    have vg : vF (A 71) n c 0 := paF_v 100 0 c (by rw [← paF_cong heq]; exact q)
    have cb : ∀ k p, vF (A 62) n k p → p + k ≤ n := fun k => by
      induction k with
      | zero => intro p hp; have : p = n := hp; omega
      | succ k ih => intro p hp; have := ih _ hp.2; have := hp.1.2.1; omega
    have cn := cb c 0 vf
    obtain ⟨f4, t4, l4, k4, g4, w1, w2⟩ := f7_takeOver (f2 := A 8) (t2 := A 9) (l2 := A 10) (k2 := A 11) (g2 := A 12) (c2 := I 7 5) (s2 := I 7 6) (h2 := I 7 7) hv hc
    obtain ⟨o, o1, o2⟩ := f4_build hlf c 0 0 t (I 1 5, I 1 6, I 1 7, f4, t4, l4, k4, g4) N vf (by omega) (by omega) hv w2
    obtain ⟨w', x1, x2⟩ := f10_thought (x := A 68) hv hm (show 100 ≤ N by omega)
    obtain ⟨o', y1, y2⟩ := f10_build (now := A 66) hlg c 0 0 t w' N vg (by omega) hv x2
    rw [← bF_cong heq c t 0 vf] at y2
    have bld : ∀ so : (TW ⊕ (Int32 × TW)), lp (fun s_4 : Int32 × Int32 × TW => f_X4_build_b4 (nI (0 + c)) s_4.2.1 s_4.2.2.1 s_4.2.2.2.1 s_4.2.2.2.2.1 s_4.2.2.2.2.2.1 s_4.2.2.2.2.2.2.1 s_4.2.2.2.2.2.2.2.1 s_4.2.2.2.2.2.2.2.2.1 s_4.2.2.2.2.2.2.2.2.2 s_4.1 (nI n) (A 62)) N (nI 0, nI 0, I 1 5, I 1 6, I 1 7, f4, t4, l4, k4, g4) = some so → f_X4_build N (I 61 1) (nI (0 + c)) (A 62) (I 1 5) (I 1 6) (I 1 7) f4 t4 l4 k4 g4 = (match so with | .inl x => some ((-9 : Int32), x) | .inr o => some o) := fun so hso => by
      unfold f_X4_build
      rw [e1]
      refine (congrArg (fun o => Option.bind o _) hso).trans ?_
      cases so <;> rfl
    have bd := bld o o1
    cases qb : bF (A 62) c t 0 with
    | inl p =>
      rw [qb] at o2 y2
      obtain ⟨z', o3⟩ := o2
      obtain ⟨w2', y3⟩ := y2
      subst o3 y3
      have pb : p < 2 ^ 31 := by
        have : ∀ k t s p, bF (A 62) k t s = .inl p → vF (A 62) n k s → p ≤ n := fun k => by
          induction k with
          | zero => intro t s p hq _; cases hq
          | succ k ih =>
            intro t s p hq hvf
            unfold bF at hq
            cases hk : tkT t (A 62) s with
            | none => rw [hk] at hq; cases hq; have := hvf.1.1; omega
            | some u => rw [hk] at hq; exact ih _ _ _ hq hvf.2
        have := this c t 0 p qb vf
        omega
      have f9 : f_X9_map N (I 1 5) (I 1 6) (I 1 7) (A 2) (A 3) (A 4) (A 5) (A 6) (I 7 5) (I 7 6) (I 7 7) (A 8) (A 9) (A 10) (A 11) (A 12) (I 61 1) (I 61 2) (A 62) = some ((-2000 : Int32) - nI p, I 1 5, I 1 6, I 1 7, A 2, A 3, A 4, A 5, A 6, z'.1, z'.2.1, z'.2.2.1, z'.2.2.2.1, z'.2.2.2.2.1, z'.2.2.2.2.2.1, z'.2.2.2.2.2.2.1, z'.2.2.2.2.2.2.2, 0, nI (0 + c)) := by
        unfold f_X9_map f_X9_readMap
        rw [a1', Option.bind_some]
        dsimp only
        rw [if_pos (show (-9 : Int32) < 0 by decide), w1, Option.bind_some]
        dsimp only
        rw [bd]
        dsimp only
        rw [Option.bind_some]
        dsimp only
        rw [if_neg (nI_pos pb), Option.bind_some]; rfl
      refine ⟨_, f9, ?_⟩
      have f10 : f_X10_map N (I 65 8) (A 66) (A 68) (A 71) = some ((-2000 : Int32) - nI p, 0, A 66, w2') := by
        unfold f_X10_map
        rw [b1', Option.bind_some]
        dsimp only
        rw [if_pos (show (-9 : Int32) < 0 by decide), x1, Option.bind_some, e2]
        exact (congrArg (fun o => Option.bind o _) y1).trans rfl
      exact ⟨_, f10, rfl, t, k, h1, h2, h3, h4, h5, iL, h7, h8⟩
    | inr u =>
      rw [qb] at o2 y2
      obtain ⟨z', o3, o4, o5⟩ := o2
      obtain ⟨w2', y3, y4, y5⟩ := y2
      subst o3 y3
      obtain ⟨f5, t5, l5, k5, g5, u1, u2⟩ := f7_takeOver (f2 := A 2) (t2 := A 3) (l2 := A 4) (k2 := A 5) (g2 := A 6) (c2 := I 1 5) (s2 := I 1 6) (h2 := I 1 7) o4 o5
      have f9 : f_X9_map N (I 1 5) (I 1 6) (I 1 7) (A 2) (A 3) (A 4) (A 5) (A 6) (I 7 5) (I 7 6) (I 7 7) (A 8) (A 9) (A 10) (A 11) (A 12) (I 61 1) (I 61 2) (A 62) = some (nI (0 + c), z'.1, z'.2.1, z'.2.2.1, f5, t5, l5, k5, g5, z'.1, z'.2.1, z'.2.2.1, z'.2.2.2.1, z'.2.2.2.2.1, z'.2.2.2.2.2.1, z'.2.2.2.2.2.2.1, z'.2.2.2.2.2.2.2, 0, nI (0 + c)) := by
        unfold f_X9_map f_X9_readMap
        rw [a1', Option.bind_some]
        dsimp only
        rw [if_pos (show (-9 : Int32) < 0 by decide), w1, Option.bind_some]
        dsimp only
        rw [bd]
        dsimp only
        rw [Option.bind_some]
        dsimp only
        rw [if_pos (show (-9 : Int32) < 0 by decide), u1, Option.bind_some, Option.bind_some]; rfl
      refine ⟨_, f9, ?_⟩
      have f10 : f_X10_map N (I 65 8) (A 66) (A 68) (A 71) = some (nI (0 + c), 0, cpN (A 66) w2' 50, w2') := by
        unfold f_X10_map
        rw [b1', Option.bind_some]
        dsimp only
        rw [if_pos (show (-9 : Int32) < 0 by decide), x1, Option.bind_some, e2]
        refine (congrArg (fun o => Option.bind o _) y1).trans ?_
        show (f_X10_copies N w2' (A 66)).bind _ = _
        rw [f10_copies w2' (A 66) (by omega), Option.bind_some]
      exact ⟨_, f10, rfl, u, k, ⟨o4, u2, y5.cpy o4 cpN_50⟩, h2, h3, h4, h5, iL, h7, h8⟩
