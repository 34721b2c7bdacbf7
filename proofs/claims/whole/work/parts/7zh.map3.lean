/-! letters that tell a map: what a statement does -/
def l2N (f : Nat → Int32) (q : Nat) : Nat := 10 * (lT1 f q - 48) + (lT1 f (q + 1) - 48)
def tkT (t : Nat → Nat) (f : Nat → Int32) (p : Nat) : Option (Nat → Nat) :=
  if lT1 f p = 115 then (if lT1 f (p + 1) - 97 < 6 ∧ lT1 f (p + 2) - 97 < 6 ∧ lT1 f (p + 1) - 97 ≠ lT1 f (p + 2) - 97 ∧ 1 ≤ l2N f (p + 3) ∧ t 49 < 8 then some (addT t (lT1 f (p + 1) - 97) (lT1 f (p + 2) - 97) (l2N f (p + 3))) else none)
  else if lT1 f p = 104 then (if lT1 f (p + 1) - 97 < 6 then some (setT t 48 (lT1 f (p + 1) - 97)) else none)
  else if lT1 f (p + 1) - 48 < t 49 then (if lT1 f p = 120 then some (setT t (8 * 5 + (lT1 f (p + 1) - 48)) (1 - t (40 + (lT1 f (p + 1) - 48)))) else if lT1 f p = 108 then (if 1 ≤ l2N f (p + 2) then some (setT t (8 * 2 + (lT1 f (p + 1) - 48)) (l2N f (p + 2))) else none) else (if lT1 f (p + 2) - 48 ≤ 5 then some (setT (setT t (8 * 3 + (lT1 f (p + 1) - 48)) (lT1 f (p + 2) - 48)) (8 * 4 + (lT1 f (p + 1) - 48)) (lT1 f (p + 3) - 48)) else none))
  else none
def dgt (v : Nat) : Prop := 48 ≤ v ∧ v ≤ 57
def crn (v : Nat) : Prop := 97 ≤ v ∧ v ≤ 122
theorem fit_c {i k v : Nat} (hk : kch i k = 99) (h : fitB i k v = true) : crn v := by
  unfold fitB at h
  rw [if_pos hk] at h
  exact of_decide_eq_true (p := 97 ≤ v ∧ v ≤ 122) h
theorem fit_d {i k v : Nat} (hk : kch i k = 100) (h : fitB i k v = true) : dgt v := by
  unfold fitB at h
  rw [if_neg (by rw [hk]; decide), if_pos hk] at h
  exact of_decide_eq_true (p := 48 ≤ v ∧ v ≤ 57) h
theorem PV_s {f : Nat → Int32} {n p : Nat} (h : PV f n p) (hc : lT1 f p = 115) : p + 5 < n ∧ crn (lT1 f (p + 1)) ∧ crn (lT1 f (p + 2)) ∧ dgt (lT1 f (p + 3)) ∧ dgt (lT1 f (p + 4)) := by
  obtain ⟨h1, h2, h3, h4⟩ := h
  rw [hc] at h2 h3 h4
  exact ⟨h3, fit_c (by decide) (h4 0 (by decide)), fit_c (by decide) (h4 1 (by decide)), fit_d (by decide) (h4 2 (by decide)), fit_d (by decide) (h4 3 (by decide))⟩
theorem PV_h {f : Nat → Int32} {n p : Nat} (h : PV f n p) (hc : lT1 f p = 104) : p + 2 < n ∧ crn (lT1 f (p + 1)) := by
  obtain ⟨h1, h2, h3, h4⟩ := h
  rw [hc] at h2 h3 h4
  exact ⟨h3, fit_c (by decide) (h4 0 (by decide))⟩
theorem PV_x {f : Nat → Int32} {n p : Nat} (h : PV f n p) (hc : lT1 f p = 120) : p + 2 < n ∧ dgt (lT1 f (p + 1)) := by
  obtain ⟨h1, h2, h3, h4⟩ := h
  rw [hc] at h2 h3 h4
  exact ⟨h3, fit_d (by decide) (h4 0 (by decide))⟩
theorem PV_k {f : Nat → Int32} {n p : Nat} (h : PV f n p) (hc : lT1 f p = 107 ∨ lT1 f p = 108) : p + 4 < n ∧ dgt (lT1 f (p + 1)) ∧ dgt (lT1 f (p + 2)) ∧ dgt (lT1 f (p + 3)) := by
  obtain ⟨h1, h2, h3, h4⟩ := h
  rcases hc with hc | hc
  · rw [hc] at h2 h3 h4
    exact ⟨h3, fit_d (by decide) (h4 0 (by decide)), fit_d (by decide) (h4 1 (by decide)), fit_d (by decide) (h4 2 (by decide))⟩
  · rw [hc] at h2 h3 h4
    exact ⟨h3, fit_d (by decide) (h4 0 (by decide)), fit_d (by decide) (h4 1 (by decide)), fit_d (by decide) (h4 2 (by decide))⟩
theorem PV_c {f : Nat → Int32} {n p : Nat} (h : PV f n p) : lT1 f p = 115 ∨ lT1 f p = 104 ∨ lT1 f p = 120 ∨ lT1 f p = 107 ∨ lT1 f p = 108 := by
  have := h.2.1
  rw [sz_of] at this
  apply Classical.byContradiction
  intro w
  apply this
  rw [if_neg (by omega), if_neg (by omega), if_neg (by omega)]
theorem f4_atI {f : Nat → Int32} {n q : Nat} (h : LT f n) (hq : q < n) : f_X4_at (nI q) (nI n) f = some (nI (lT1 f q)) := by
  have := h.1
  rw [f4_at h (by omega), if_pos hq]
theorem f4_digit {f : Nat → Int32} {n q : Nat} (h : LT f n) (hq : q < n) (hd : dgt (lT1 f q)) : f_X4_digit (nI q) (nI n) f = some (nI (lT1 f q - 48)) := by
  unfold f_X4_digit
  rw [f4_atI h hq, Option.bind_some, show nI (lT1 f q) - (48 : Int32) = nI (lT1 f q - 48) from pk_sub (b := 48) hd.1]
theorem ten (a b : Nat) : (10 : Int32) * nI a + nI b = nI (10 * a + b) := by rw [show (10 : Int32) * nI a = nI (10 * a) from pk_mul 10 a, nI_add]
theorem f4_number {f : Nat → Int32} {n q : Nat} (h : LT f n) (hq : q + 1 < n) (hd : dgt (lT1 f q)) (hd2 : dgt (lT1 f (q + 1))) : f_X4_number (nI q) (nI n) f = some (nI (l2N f q)) := by
  unfold f_X4_number
  rw [f4_digit h (by omega) hd, Option.bind_some, nI_1, f4_digit h hq hd2, Option.bind_some, ten]; rfl
theorem vT.home {t : Nat → Nat} (hv : vT t) {a : Nat} (ha : a < 6) : vT (setT t 48 a) := by
  have h8 := hv.1
  have e49 : setT t 48 a 49 = t 49 := setT_n (by omega)
  refine ⟨by rw [e49]; exact h8, by rw [setT_s]; exact ha, fun s hs => ?_, fun j j1 j2 j3 => ?_⟩
  · rw [e49] at hs
    rw [setT_n (show s ≠ 48 by omega), setT_n (show 8 + s ≠ 48 by omega), setT_n (show 16 + s ≠ 48 by omega), setT_n (show 24 + s ≠ 48 by omega), setT_n (show 32 + s ≠ 48 by omega), setT_n (show 40 + s ≠ 48 by omega)]
    exact hv.2.2.1 s hs
  · rw [e49] at j3
    rw [setT_n j1]
    exact hv.2.2.2 j j1 j2 j3
theorem cR.home {t : Nat → Nat} {fr to ln kd fg : Nat → Int32} {cl sz hm : Int32} (hv : vT t) (h : cR t fr to ln kd fg cl sz hm) (a : Nat) : cR (setT t 48 a) fr to ln kd fg cl sz (nI a) := by
  have h8 := hv.1
  have e49 : setT t 48 a 49 = t 49 := setT_n (by omega)
  obtain ⟨a1, a2, a3, a4⟩ := h
  refine ⟨by rw [e49]; exact a1, by rw [setT_s], ?_, fun s hs => ?_⟩
  · rw [e49, a3]
    congr 1
    exact clB_cong _ (fun i hi => (setT_n (by omega)).symm)
  · rw [e49] at hs
    rw [setT_n (show s ≠ 48 by omega), setT_n (show 8 + s ≠ 48 by omega), setT_n (show 16 + s ≠ 48 by omega), setT_n (show 24 + s ≠ 48 by omega), setT_n (show 32 + s ≠ 48 by omega)]
    exact a4 s hs
theorem mR.home {t : Nat → Nat} {w : Nat → Int32} (hv : vT t) (h : mR t w) (a : Nat) : mR (setT t 48 a) (upd w 48 (nI a)) := by
  have h8 := hv.1
  have e49 : setT t 48 a 49 = t 49 := setT_n (by omega)
  refine ⟨by rw [e49, pk_un (by omega)]; exact h.1, by rw [setT_s, pk_us], fun r hr s hs => ?_⟩
  rw [e49] at hs
  rw [setT_n (by omega), pk_un (by omega)]
  exact h.2.2 r hr s hs
/-- the class tells a statement -/
def TL (t : Nat → Nat) (f : Nat → Int32) (p : Nat) (r : Int32 × Int32 × Int32 × Int32 × (Nat → Int32) × (Nat → Int32) × (Nat → Int32) × (Nat → Int32) × (Nat → Int32)) : Prop :=
  match tkT t f p with
  | none => r.1 = 0
  | some u => r.1 = 1 ∧ vT u ∧ cR u r.2.2.2.2.1 r.2.2.2.2.2.1 r.2.2.2.2.2.2.1 r.2.2.2.2.2.2.2.1 r.2.2.2.2.2.2.2.2 r.2.1 r.2.2.1 r.2.2.2.1
theorem icr (v : Nat) (hv : crn v) : f_X9_isCorner (nI v - 97) = some (b2 (v - 97 < 6)) := by
  rw [show nI v - (97 : Int32) = nI (v - 97) from pk_sub (b := 97) hv.1, f9_isCorner]
  have hv2 := hv.2
  congr 1
  unfold b2
  by_cases z : v - 97 < 6
  · rw [if_pos z, if_pos (by rw [nI_toInt (by omega)]; omega)]
  · rw [if_neg z, if_neg (by rw [nI_toInt (by omega)]; omega)]
theorem icr10 (v : Nat) (hv : crn v) : f_X10_isCorner (nI v - 97) = some (b2 (v - 97 < 6)) := by
  rw [show nI v - (97 : Int32) = nI (v - 97) from pk_sub (b := 97) hv.1, f10_isCorner]
  have hv2 := hv.2
  congr 1
  unfold b2
  by_cases z : v - 97 < 6
  · rw [if_pos z, if_pos (by rw [nI_toInt (by omega)]; omega)]
  · rw [if_neg z, if_neg (by rw [nI_toInt (by omega)]; omega)]
theorem l2N_le {f : Nat → Int32} {q : Nat} (h1 : dgt (lT1 f q)) (h2 : dgt (lT1 f (q + 1))) : l2N f q ≤ 99 := by
  have := h1.2
  have := h2.2
  unfold l2N
  omega
theorem f4_tell {t : Nat → Nat} {f fr to ln kd fg : Nat → Int32} {cl sz hm : Int32} {n p : Nat} (hv : vT t) (hc : cR t fr to ln kd fg cl sz hm) (hl : LT f n) (hp : PV f n p) : ∃ r, f_X4_tell (nI p) (nI n) f cl sz hm fr to ln kd fg = some r ∧ TL t f p r := by
  have t8 := hv.1
  have hl0 := (hl.2 p hp.1).2
  have lit : ∀ {b : Nat} {x : Int32}, b < 256 → x = nI b → (nI (lT1 f p) = x ↔ lT1 f p = b) := fun hb hx => nIlit hl0 hb hx
  unfold f_X4_tell
  rw [f4_atI hl hp.1, Option.bind_some]
  rcases PV_c hp with c | c | c | c | c
  · obtain ⟨q0, q1, q2, q3, q4⟩ := PV_s hp c
    have L := l2N_le q3 q4
    rw [if_neg (fun w => by have := (lit (b := 107) (x := 107) (by decide) rfl).mp w; omega), if_neg (fun w => by have := (lit (b := 108) (x := 108) (by decide) rfl).mp w; omega), if_pos ((lit (b := 115) (x := 115) (by decide) rfl).mpr c)]
    unfold f_X4_tellStreet TL tkT
    rw [nI_1, f4_atI hl (by omega), Option.bind_some, show nI p + (2 : Int32) = nI (p + 2) from nI_add p 2, f4_atI hl (by omega), Option.bind_some, show nI p + (3 : Int32) = nI (p + 3) from nI_add p 3, f4_number hl (by omega) q3 q4, Option.bind_some, icr _ q1, icr _ q2, Option.bind_some, if_pos c]
    by_cases z1 : lT1 f (p + 1) - 97 < 6
    · rw [if_neg (fun w => b2_0.mp w z1), Option.bind_some]
      by_cases z2 : lT1 f (p + 2) - 97 < 6
      · have s1 : nI (lT1 f (p + 1)) - (97 : Int32) = nI (lT1 f (p + 1) - 97) := pk_sub (b := 97) q1.1
        have s2 : nI (lT1 f (p + 2)) - (97 : Int32) = nI (lT1 f (p + 2) - 97) := pk_sub (b := 97) q2.1
        rw [if_neg (fun w => b2_0.mp w z2), s1, s2]
        by_cases z3 : lT1 f (p + 1) - 97 = lT1 f (p + 2) - 97
        · rw [if_pos (by rw [z3]), Option.bind_some, gb_0, if_neg (fun w => w.2.2.1 z3)]
          exact ⟨_, rfl, rfl⟩
        · rw [if_neg (fun w => z3 ((nI_eq (by omega) (by omega)).mp w))]
          by_cases z4 : 1 ≤ l2N f (p + 3)
          · rw [if_neg (show ¬ nI (l2N f (p + 3)) < (1 : Int32) from nI_nlt (b := 1) z4 (by omega))]
            have hr : f_X7_hasRoom sz = some (b2 (t 49 < 8)) := by
              unfold f_X7_hasRoom
              have e : (if (8 : Int32) ≤ sz then (0 : Int32) else (1 : Int32)) = b2 (t 49 < 8) := by
                unfold b2
                rw [hc.1]
                by_cases y : t 49 < 8
                · rw [if_neg (show ¬ (8 : Int32) ≤ nI (t 49) from nI_ge (b := 8) y (by decide)), if_pos y]
                · rw [if_pos (show (8 : Int32) ≤ nI (t 49) from nI_le (a := 8) (by omega) (by omega)), if_neg y]
              rw [e, gb_b2]
            rw [hr, Option.bind_some]
            by_cases z5 : t 49 < 8
            · obtain ⟨f2, t2, l2, k2, g2, a1, a2⟩ := f7_add hv hc z5 (lT1 f (p + 1) - 97) (lT1 f (p + 2) - 97) (l2N f (p + 3))
              rw [if_neg (fun w => b2_0.mp w z5), a1, Option.bind_some, Option.bind_some, gb_1, if_pos ⟨z1, z2, z3, z4, z5⟩]
              exact ⟨_, rfl, rfl, hv.add z5 z1 z2 z3 ⟨z4, L⟩, a2⟩
            · rw [if_pos (b2_0.mpr z5), Option.bind_some, gb_0, if_neg (fun w => z5 w.2.2.2.2)]
              exact ⟨_, rfl, rfl⟩
          · rw [if_pos (show nI (l2N f (p + 3)) < (1 : Int32) from nI_lt (b := 1) (by omega) (by decide)), Option.bind_some, gb_0, if_neg (fun w => z4 w.2.2.2.1)]
            exact ⟨_, rfl, rfl⟩
      · rw [if_pos (b2_0.mpr z2), Option.bind_some, gb_0, if_neg (fun w => z2 w.2.1)]
        exact ⟨_, rfl, rfl⟩
    · rw [if_pos (b2_0.mpr z1), Option.bind_some, gb_0, if_neg (fun w => z1 w.1)]
      exact ⟨_, rfl, rfl⟩
  · obtain ⟨q0, q1⟩ := PV_h hp c
    rw [if_neg (fun w => by have := (lit (b := 107) (x := 107) (by decide) rfl).mp w; omega), if_neg (fun w => by have := (lit (b := 108) (x := 108) (by decide) rfl).mp w; omega), if_neg (fun w => by have := (lit (b := 115) (x := 115) (by decide) rfl).mp w; omega), if_neg (fun w => by have := (lit (b := 120) (x := 120) (by decide) rfl).mp w; omega)]
    unfold f_X4_tellHome TL tkT
    rw [nI_1, f4_atI hl (by omega), Option.bind_some, icr _ q1, Option.bind_some, if_neg (show ¬ lT1 f p = 115 by omega), if_pos c]
    by_cases z : lT1 f (p + 1) - 97 < 6
    · rw [if_neg (fun w => b2_0.mp w z), Option.bind_some, gb_1, if_pos z, show nI (lT1 f (p + 1)) - (97 : Int32) = nI (lT1 f (p + 1) - 97) from pk_sub (b := 97) q1.1]
      exact ⟨_, rfl, rfl, hv.home z, hc.home hv _⟩
    · rw [if_pos (b2_0.mpr z), Option.bind_some, gb_0, if_neg z]
      exact ⟨_, rfl, rfl⟩
  · obtain ⟨q0, q1⟩ := PV_x hp c
    have q12 := q1.2
    rw [if_neg (fun w => by have := (lit (b := 107) (x := 107) (by decide) rfl).mp w; omega), if_neg (fun w => by have := (lit (b := 108) (x := 108) (by decide) rfl).mp w; omega), if_neg (fun w => by have := (lit (b := 115) (x := 115) (by decide) rfl).mp w; omega), if_pos ((lit (b := 120) (x := 120) (by decide) rfl).mpr c)]
    unfold f_X4_tellTurn TL tkT
    rw [nI_1, f4_digit hl (by omega) q1, Option.bind_some, hc.1, f7_has _ (by omega), Option.bind_some, if_neg (show ¬ lT1 f p = 115 by omega), if_neg (show ¬ lT1 f p = 104 by omega)]
    by_cases z : lT1 f (p + 1) - 48 < t 49
    · rw [if_neg (fun w => b2_0.mp w (by rw [nI_toInt (by omega)]; omega)), if_pos z, if_pos c]
      have ho := (hv.2.2.1 _ z).2.2.2.2.2.2.2
      unfold f_X7_openOrClose
      rw [Option.bind_some, Option.bind_some, gb_1, sh1 (by omega)]
      refine ⟨_, rfl, rfl, hv.set z (by decide) (by decide) ⟨fun q => absurd q (by decide), fun q => absurd q (by decide), fun q => absurd q (by decide), fun _ => by omega⟩, ?_⟩
      have := hc.op hv z (v := 1 - t (40 + (lT1 f (p + 1) - 48))) (by omega)
      rw [hc.1] at this
      exact this
    · rw [if_pos (b2_0.mpr (fun w => z (by rw [nI_toInt (by omega)] at w; omega))), Option.bind_some, gb_0, if_neg z]
      exact ⟨_, rfl, rfl⟩
  · obtain ⟨k0, q1, k2, k3⟩ := PV_k hp (Or.inl c)
    have q12 := q1.2
    have k22 := k2.2
    have k32 := k3.2
    rw [if_pos ((lit (b := 107) (x := 107) (by decide) rfl).mpr c)]
    unfold f_X4_tellKind TL tkT
    rw [nI_1, f4_digit hl (by omega) q1, Option.bind_some, show nI p + (2 : Int32) = nI (p + 2) from nI_add p 2, f4_digit hl (by omega) k2, Option.bind_some, hc.1, f7_has _ (by omega), Option.bind_some, if_neg (show ¬ lT1 f p = 115 by omega), if_neg (show ¬ lT1 f p = 104 by omega)]
    by_cases z : lT1 f (p + 1) - 48 < t 49
    · rw [if_neg (fun w => b2_0.mp w (by rw [nI_toInt (by omega)]; omega)), if_neg (nI_pos (by omega)), if_pos z, if_neg (show ¬ lT1 f p = 120 by omega), if_neg (show ¬ lT1 f p = 108 by omega)]
      by_cases y : lT1 f (p + 2) - 48 ≤ 5
      · rw [if_pos (show nI (lT1 f (p + 2) - 48) < (6 : Int32) from nI_lt (b := 6) (by omega) (by decide)), ga_ok (by omega) (by decide), show nI p + (3 : Int32) = nI (p + 3) from nI_add p 3, f4_digit hl (by omega) k3, Option.bind_some, ga_ok (by omega) (by decide), Option.bind_some, gb_1, if_pos y, nI_clamp (by omega)]
        have v1 : vT (setT t (8 * 3 + (lT1 f (p + 1) - 48)) (lT1 f (p + 2) - 48)) := hv.set z (by decide) (by decide) ⟨fun q => absurd q (by decide), fun _ => y, fun q => absurd q (by decide), fun q => absurd q (by decide)⟩
        have c1 := hc.kd hv z (v := lT1 f (p + 2) - 48)
        have z' : lT1 f (p + 1) - 48 < setT t (8 * 3 + (lT1 f (p + 1) - 48)) (lT1 f (p + 2) - 48) 49 := by rw [setT_n (by omega)]; exact z
        refine ⟨_, rfl, rfl, v1.set z' (by decide) (by decide) ⟨fun q => absurd q (by decide), fun q => absurd q (by decide), fun _ => by omega, fun q => absurd q (by decide)⟩, ?_⟩
        have := c1.fg v1 z' (v := lT1 f (p + 3) - 48)
        rw [hc.1] at this
        exact this
      · rw [if_neg (show ¬ nI (lT1 f (p + 2) - 48) < (6 : Int32) from nI_nlt (b := 6) (by omega) (by omega)), Option.bind_some, gb_0, if_neg y]
        exact ⟨_, rfl, rfl⟩
    · rw [if_pos (b2_0.mpr (fun w => z (by rw [nI_toInt (by omega)] at w; omega))), Option.bind_some, gb_0, if_neg z]
      exact ⟨_, rfl, rfl⟩
  · obtain ⟨k0, q1, k2, k3⟩ := PV_k hp (Or.inr c)
    have q12 := q1.2
    have L := l2N_le k2 k3
    rw [if_neg (fun w => by have := (lit (b := 107) (x := 107) (by decide) rfl).mp w; omega), if_pos ((lit (b := 108) (x := 108) (by decide) rfl).mpr c)]
    unfold f_X4_tellLength TL tkT
    rw [nI_1, f4_digit hl (by omega) q1, Option.bind_some, show nI p + (2 : Int32) = nI (p + 2) from nI_add p 2, f4_number hl (by omega) k2 k3, Option.bind_some, hc.1, f7_has _ (by omega), Option.bind_some, if_neg (show ¬ lT1 f p = 115 by omega), if_neg (show ¬ lT1 f p = 104 by omega)]
    by_cases z : lT1 f (p + 1) - 48 < t 49
    · rw [if_neg (fun w => b2_0.mp w (by rw [nI_toInt (by omega)]; omega)), if_pos z, if_neg (show ¬ lT1 f p = 120 by omega), if_pos c]
      by_cases y : 1 ≤ l2N f (p + 2)
      · rw [if_pos (show (1 : Int32) ≤ nI (l2N f (p + 2)) from nI_le (a := 1) y (by omega)), ga_ok (by omega) (by decide), Option.bind_some, gb_1, if_pos y, nI_clamp (by omega)]
        refine ⟨_, rfl, rfl, hv.set z (by decide) (by decide) ⟨fun _ => ⟨y, L⟩, fun q => absurd q (by decide), fun q => absurd q (by decide), fun q => absurd q (by decide)⟩, ?_⟩
        have := hc.len hv z (v := l2N f (p + 2))
        rw [hc.1] at this
        exact this
      · rw [if_neg (show ¬ (1 : Int32) ≤ nI (l2N f (p + 2)) from nI_ge (b := 1) (by omega) (by decide)), Option.bind_some, gb_0, if_neg y]
        exact ⟨_, rfl, rfl⟩
    · rw [if_pos (b2_0.mpr (fun w => z (by rw [nI_toInt (by omega)] at w; omega))), Option.bind_some, gb_0, if_neg z]
      exact ⟨_, rfl, rfl⟩
