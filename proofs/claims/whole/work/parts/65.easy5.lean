/-- a street more -/
def addT (t : Nat → Nat) (a b l : Nat) : Nat → Nat := fun j => if j = t 49 then a else if j = 8 + t 49 then b else if j = 16 + t 49 then l else if j = 40 + t 49 then 1 else if j = 49 then t 49 + 1 else t j
theorem addT_49 {t : Nat → Nat} {a b l : Nat} (h : t 49 < 8) : addT t a b l 49 = t 49 + 1 := by
  unfold addT
  rw [if_neg (by omega), if_neg (by omega), if_neg (by omega), if_neg (by omega), if_pos rfl]
theorem addT_48 {t : Nat → Nat} {a b l : Nat} (h : t 49 < 8) : addT t a b l 48 = t 48 := by
  unfold addT
  rw [if_neg (by omega), if_neg (by omega), if_neg (by omega), if_neg (by omega), if_neg (by omega)]
theorem addT_o {t : Nat → Nat} {a b l r s : Nat} (h : t 49 < 8) (hr : r < 6) (hs : s < t 49) : addT t a b l (8 * r + s) = t (8 * r + s) := by
  unfold addT
  rw [if_neg (by omega), if_neg (by omega), if_neg (by omega), if_neg (by omega), if_neg (by omega)]
theorem addT_n {t : Nat → Nat} {a b l : Nat} (hv : vT t) (h : t 49 < 8) : addT t a b l (t 49) = a ∧ addT t a b l (8 + t 49) = b ∧ addT t a b l (16 + t 49) = l ∧ addT t a b l (24 + t 49) = 0 ∧ addT t a b l (32 + t 49) = 0 ∧ addT t a b l (40 + t 49) = 1 := by
  have z3 := hv.2.2.2 (24 + t 49) (by omega) (by omega) (Or.inr (by omega))
  have z4 := hv.2.2.2 (32 + t 49) (by omega) (by omega) (Or.inr (by omega))
  unfold addT
  refine ⟨if_pos rfl, ?_, ?_, ?_, ?_, ?_⟩
  · rw [if_neg (by omega), if_pos rfl]
  · rw [if_neg (by omega), if_neg (by omega), if_pos rfl]
  · rw [if_neg (by omega), if_neg (by omega), if_neg (by omega), if_neg (by omega), if_neg (by omega), z3]
  · rw [if_neg (by omega), if_neg (by omega), if_neg (by omega), if_neg (by omega), if_neg (by omega), z4]
  · rw [if_neg (by omega), if_neg (by omega), if_neg (by omega), if_pos rfl]
theorem vT.add {t : Nat → Nat} (hv : vT t) (h : t 49 < 8) {a b l : Nat} (ha : a < 6) (hb : b < 6) (hab : a ≠ b) (hl : 1 ≤ l ∧ l ≤ 99) : vT (addT t a b l) := by
  have e49 := addT_49 (a := a) (b := b) (l := l) h
  refine ⟨by rw [e49]; omega, by rw [addT_48 h]; exact hv.2.1, fun s hs => ?_, fun j j1 j2 j3 => ?_⟩
  · rw [e49] at hs
    by_cases e : s = t 49
    · subst e
      obtain ⟨n0, n1, n2, n3, n4, n5⟩ := addT_n (a := a) (b := b) (l := l) hv h
      rw [n0, n1, n2, n3, n4, n5]
      exact ⟨ha, hb, hab, hl.1, hl.2, by decide, by decide, by decide⟩
    · have hs' : s < t 49 := by omega
      have g := hv.2.2.1 s hs'
      have q0 := addT_o (a := a) (b := b) (l := l) (r := 0) h (by decide) hs'
      have q1 := addT_o (a := a) (b := b) (l := l) (r := 1) h (by decide) hs'
      have q2 := addT_o (a := a) (b := b) (l := l) (r := 2) h (by decide) hs'
      have q3 := addT_o (a := a) (b := b) (l := l) (r := 3) h (by decide) hs'
      have q4 := addT_o (a := a) (b := b) (l := l) (r := 4) h (by decide) hs'
      have q5 := addT_o (a := a) (b := b) (l := l) (r := 5) h (by decide) hs'
      simp only [Nat.mul_zero, Nat.zero_add, Nat.mul_one, Nat.reduceMul] at q0 q1 q2 q3 q4 q5
      rw [q0, q1, q2, q3, q4, q5]
      exact g
  · rw [e49] at j3
    have : addT t a b l j = t j := by
      unfold addT
      rw [if_neg (by omega), if_neg (by omega), if_neg (by omega), if_neg (by omega), if_neg (by omega)]
    rw [this]
    exact hv.2.2.2 j j1 j2 (by omega)
theorem clB_add {t : Nat → Nat} {a b l : Nat} (hv : vT t) (h : t 49 < 8) : clB (addT t a b l) (t 49 + 1) = clB t (t 49) := by
  show clB (addT t a b l) (t 49) + (if addT t a b l (40 + t 49) = 0 then 2 ^ (t 49) else 0) = clB t (t 49)
  rw [(addT_n (a := a) (b := b) (l := l) hv h).2.2.2.2.2, if_neg (by decide), Nat.add_zero]
  exact clB_cong _ (fun s hs => addT_o (r := 5) h (by decide) hs)
theorem f7_add {t : Nat → Nat} {fr to ln kd fg : Nat → Int32} {cl sz hm : Int32} (hv : vT t) (h : cR t fr to ln kd fg cl sz hm) (h8 : t 49 < 8) (a b l : Nat) : ∃ f2 t2 l2 k2 g2 : Nat → Int32, f_X7_add (nI a) (nI b) (nI l) cl sz fr to ln kd fg = some (cl, nI (t 49 + 1), f2, t2, l2, k2, g2) ∧ cR (addT t a b l) f2 t2 l2 k2 g2 cl (nI (t 49 + 1)) hm := by
  obtain ⟨h1, h2, h3, h4⟩ := h
  obtain ⟨n0, n1, n2, n3, n4, n5⟩ := addT_n (a := a) (b := b) (l := l) hv h8
  have hroom : f_X7_hasRoom sz = some 1 := by
    unfold f_X7_hasRoom
    rw [h1, if_neg (show ¬ (8 : Int32) ≤ nI (t 49) from nI_ge (b := 8) h8 (by decide)), gb_1]
  have hcl : cl &&& (((1 : Int32) <<< (sz &&& 31)) ^^^ (-1 : Int32)) = cl := by
    rw [h1, h3, sh1 (by omega), notI (clB_lt t _) (by omega)]
  refine ⟨upd fr (t 49) (nI a), upd to (t 49) (nI b), upd ln (t 49) (nI l), upd kd (t 49) 0, upd fg (t 49) 0, ?_, ?_, ?_, ?_, fun s hs => ?_⟩
  · unfold f_X7_add
    rw [hroom, Option.bind_some, if_neg (by decide), hcl, h1, ga_ok h8 (by decide), ga_ok h8 (by decide), ga_ok h8 (by decide), ga_ok h8 (by decide), ga_ok h8 (by decide), nI_clamp (by omega), nI_1]
  · rw [addT_49 h8]
  · rw [addT_48 h8]; exact h2
  · rw [addT_49 h8, clB_add hv h8]; exact h3
  · rw [addT_49 h8] at hs
    by_cases e : s = t 49
    · subst e
      rw [n0, n1, n2, n3, n4, pk_us, pk_us, pk_us, pk_us, pk_us]
      exact ⟨rfl, rfl, rfl, rfl, rfl⟩
    · have hs' : s < t 49 := by omega
      have q0 := addT_o (a := a) (b := b) (l := l) (r := 0) h8 (by decide) hs'
      have q1 := addT_o (a := a) (b := b) (l := l) (r := 1) h8 (by decide) hs'
      have q2 := addT_o (a := a) (b := b) (l := l) (r := 2) h8 (by decide) hs'
      have q3 := addT_o (a := a) (b := b) (l := l) (r := 3) h8 (by decide) hs'
      have q4 := addT_o (a := a) (b := b) (l := l) (r := 4) h8 (by decide) hs'
      simp only [Nat.mul_zero, Nat.zero_add, Nat.mul_one, Nat.reduceMul] at q0 q1 q2 q3 q4
      rw [q0, q1, q2, q3, q4, pk_un e, pk_un e, pk_un e, pk_un e, pk_un e]
      exact h4 s hs'
theorem f10_comes {t : Nat → Nat} {w : Nat → Int32} (hv : vT t) (h : mR t w) (h8 : t 49 < 8) {a b l : Nat} (ha : a < 6) (hb : b < 6) (hab : a ≠ b) (hl : 1 ≤ l ∧ l ≤ 99) : ∃ w2 : Nat → Int32, f_X10_comes (nI a) (nI b) (nI l) w = some (1, w2) ∧ mR (addT t a b l) w2 := by
  obtain ⟨h1, h2, h3⟩ := h
  obtain ⟨n0, n1, n2, n3, n4, n5⟩ := addT_n (a := a) (b := b) (l := l) hv h8
  have ca : f_X10_isCorner (nI a) = some (b2 (0 ≤ (nI a).toInt ∧ (nI a).toInt < 6)) := f10_isCorner _
  have cb : f_X10_isCorner (nI b) = some (b2 (0 ≤ (nI b).toInt ∧ (nI b).toInt < 6)) := f10_isCorner _
  have cl : f_X10_in (Int32.toInt64 (nI l)) 1 99 = some (b2 (1 ≤ (nI l).toInt ∧ (nI l).toInt ≤ 99)) := in_neg (by rw [t64, show (1 : Int64).toInt = 1 from rfl, show (99 : Int64).toInt = 99 from rfl])
  have e49 : Int32.toNatClampNeg (49 : Int32) = 49 := rfl
  have p : ∀ q : Nat, q < 6 → nI (8 * q) + nI (t 49) = nI (8 * q + t 49) := fun q _ => nI_add _ _
  have p0 : (0 : Int32) + nI (t 49) = nI (8 * 0 + t 49) := p 0 (by decide)
  have p1 : (8 : Int32) + nI (t 49) = nI (8 * 1 + t 49) := p 1 (by decide)
  have p2 : (16 : Int32) + nI (t 49) = nI (8 * 2 + t 49) := p 2 (by decide)
  have p3 : (24 : Int32) + nI (t 49) = nI (8 * 3 + t 49) := p 3 (by decide)
  have p4 : (32 : Int32) + nI (t 49) = nI (8 * 4 + t 49) := p 4 (by decide)
  have p5 : (40 : Int32) + nI (t 49) = nI (8 * 5 + t 49) := p 5 (by decide)
  have c : ∀ q : Nat, q < 6 → (nI (8 * q + t 49)).toNatClampNeg = 8 * q + t 49 := fun q hq => nI_clamp (by omega)
  have c0 := c 0 (by decide)
  have c1 := c 1 (by decide)
  have c2 := c 2 (by decide)
  have c3 := c 3 (by decide)
  have c4 := c 4 (by decide)
  have c5 := c 5 (by decide)
  refine ⟨upd (upd (upd (upd (upd (upd (upd w (8 * 0 + t 49) (nI a)) (8 * 1 + t 49) (nI b)) (8 * 2 + t 49) (nI l)) (8 * 3 + t 49) 0) (8 * 4 + t 49) 0) (8 * 5 + t 49) 1) 49 (nI (t 49 + 1)), ?_, ?_⟩
  · unfold f_X10_comes
    rw [ca, Option.bind_some, if_neg (fun z => b2_0.mp z (by rw [nI_toInt (by omega)]; omega)), cb, Option.bind_some, if_neg (fun z => b2_0.mp z (by rw [nI_toInt (by omega)]; omega)), if_neg (fun z => hab ((nI_eq (by omega) (by omega)).mp z)), cl, Option.bind_some, if_neg (fun z => b2_0.mp z (by rw [nI_toInt (by omega)]; omega)), ga_in (by decide), e49, h1, if_neg (fun z => by have := (nI_lit (b := 8) (by omega) (by decide) 8 rfl).mp z; omega)]
    rw [p0, p1, p2, p3, p4, p5, c0, c1, c2, c3, c4, c5, ga_in (by decide), ga_ok (by omega) (by decide), ga_ok (by omega) (by decide), ga_ok (by omega) (by decide), ga_ok (by omega) (by decide), ga_ok (by omega) (by decide), ga_ok (by omega) (by decide), ga_in (by decide), ga_in (by decide)]
    rw [pk_un (j := 49) (by omega), pk_un (j := 49) (by omega), pk_un (j := 49) (by omega), pk_un (j := 49) (by omega), pk_un (j := 49) (by omega), pk_un (j := 49) (by omega), h1, nI_1]
  · refine ⟨?_, ?_, fun r hr s hs => ?_⟩
    · rw [pk_us, addT_49 h8]
    · rw [pk_un (by omega), pk_un (by omega), pk_un (by omega), pk_un (by omega), pk_un (by omega), pk_un (by omega), pk_un (by omega), addT_48 h8]; exact h2
    · rw [addT_49 h8] at hs
      by_cases e : s = t 49
      · subst e
        rw [pk_un (by omega)]
        have q : r = 0 ∨ r = 1 ∨ r = 2 ∨ r = 3 ∨ r = 4 ∨ r = 5 := by omega
        have i1 : (1 : Int32) = nI 1 := rfl
        have i0 : (0 : Int32) = nI 0 := rfl
        rcases q with rfl | rfl | rfl | rfl | rfl | rfl
        · rw [pk_un (by omega), pk_un (by omega), pk_un (by omega), pk_un (by omega), pk_un (by omega), pk_us, show 8 * 0 + t 49 = t 49 by omega, n0]
        · rw [pk_un (by omega), pk_un (by omega), pk_un (by omega), pk_un (by omega), pk_us, n1]
        · rw [pk_un (by omega), pk_un (by omega), pk_un (by omega), pk_us, n2]
        · rw [pk_un (by omega), pk_un (by omega), pk_us, n3]; rfl
        · rw [pk_un (by omega), pk_us, n4]; rfl
        · rw [pk_us, n5]; rfl
      · have hs' : s < t 49 := by omega
        rw [addT_o h8 hr hs', pk_un (by omega), pk_un (by omega), pk_un (by omega), pk_un (by omega), pk_un (by omega), pk_un (by omega), pk_un (by omega)]
        exact h3 r hr s hs'
theorem f10_comesNot {t : Nat → Nat} {w : Nat → Int32} (h1 : w 49 = nI (t 49)) (hn : t 49 ≤ 8) {x y l : Int32} (hno : ¬ ((0 ≤ x.toInt ∧ x.toInt < 6) ∧ (0 ≤ y.toInt ∧ y.toInt < 6) ∧ x ≠ y ∧ (1 ≤ l.toInt ∧ l.toInt ≤ 99) ∧ t 49 < 8)) : f_X10_comes x y l w = some (0, w) := by
  have cl : f_X10_in (Int32.toInt64 l) 1 99 = some (b2 (1 ≤ l.toInt ∧ l.toInt ≤ 99)) := in_neg (by rw [t64, show (1 : Int64).toInt = 1 from rfl, show (99 : Int64).toInt = 99 from rfl])
  have e49 : Int32.toNatClampNeg (49 : Int32) = 49 := rfl
  unfold f_X10_comes
  rw [f10_isCorner, Option.bind_some]
  by_cases g1 : 0 ≤ x.toInt ∧ x.toInt < 6
  · rw [if_neg (fun z => b2_0.mp z g1), f10_isCorner, Option.bind_some]
    by_cases g2 : 0 ≤ y.toInt ∧ y.toInt < 6
    · rw [if_neg (fun z => b2_0.mp z g2)]
      by_cases g3 : x = y
      · rw [if_pos g3]
      · rw [if_neg g3, cl, Option.bind_some]
        by_cases g4 : 1 ≤ l.toInt ∧ l.toInt ≤ 99
        · rw [if_neg (fun z => b2_0.mp z g4), ga_in (by decide), e49, h1, if_pos ((nI_lit (b := 8) (by omega) (by decide) 8 rfl).mpr (by
            by_cases g5 : t 49 < 8
            · exact absurd ⟨g1, g2, g3, g4, g5⟩ hno
            · omega))]
        · rw [if_pos (b2_0.mpr g4)]
    · rw [if_pos (b2_0.mpr g2)]
  · rw [if_pos (b2_0.mpr g1)]
theorem pm_streets {A I : Nat → Nat → Int32} (hI : Inv A I) {N : Nat} (hN : 8000000 ≤ N) (x1 x2 x3 : Int32) : ∃ oc, f_X9_streets x1 x2 x3 (I 1 5) (I 1 6) (A 2) (A 3) (A 4) (A 5) (A 6) (A 64) = some oc ∧ ∃ om, f_X10_streets x1 x2 x3 ((uA_X9_streets A I oc) 66) ((uA_X9_streets A I oc) 69) = some om ∧ oc.1 = om.1 ∧ Inv (uA_X10_streets (uA_X9_streets A I oc) (uI_X9_streets A I oc) om) (uI_X10_streets (uA_X9_streets A I oc) (uI_X9_streets A I oc) om) := by
  obtain ⟨t, k, h1, h2, h3, h4, h5, h6, h7, h8⟩ := hI
  obtain ⟨hv, hc, hm⟩ := id h1
  by_cases hx : 0 ≤ x1.toInt ∧ x1.toInt < 6
  · by_cases hy : 0 ≤ x2.toInt ∧ x2.toInt < 6
    · by_cases hxy : x1 = x2
      · have f9 : f_X9_streets x1 x2 x3 (I 1 5) (I 1 6) (A 2) (A 3) (A 4) (A 5) (A 6) (A 64) = some (-3, I 1 5, I 1 6, A 2, A 3, A 4, A 5, A 6, upd (A 64) 3 (A 64 3 + 1)) := by
          unfold f_X9_streets f_X9_streets_j2 f_X9_streets_j5
          rw [f9_isCorner, Option.bind_some, if_neg (fun z => b2_0.mp z hx), f9_isCorner, Option.bind_some, if_neg (fun z => b2_0.mp z hy), if_pos hxy, rf9_3]; rfl
        refine ⟨_, f9, ?_⟩
        have f10 : ∀ r : Nat → Int32, f_X10_streets x1 x2 x3 (A 66) r = some (-3, A 66, upd r 3 (r 3 + 1)) := fun r => by
          unfold f_X10_streets f_X10_streets_j2
          rw [f10_isCorner, Option.bind_some, if_neg (fun z => b2_0.mp z hx), f10_isCorner, Option.bind_some, if_neg (fun z => b2_0.mp z hy), if_pos hxy, rf10_3]; rfl
        exact ⟨_, f10 _, rfl, t, k, h1, h2, h3, h4.up (by decide), h5, h6, h7, h8⟩
      · by_cases hl : (1 : Int32) ≤ x3
        · by_cases hu : (99 : Int32) < x3
          · have f9 : f_X9_streets x1 x2 x3 (I 1 5) (I 1 6) (A 2) (A 3) (A 4) (A 5) (A 6) (A 64) = some (-6, I 1 5, I 1 6, A 2, A 3, A 4, A 5, A 6, upd (A 64) 6 (A 64 6 + 1)) := by
              unfold f_X9_streets f_X9_streets_j2 f_X9_streets_j5
              rw [f9_isCorner, Option.bind_some, if_neg (fun z => b2_0.mp z hx), f9_isCorner, Option.bind_some, if_neg (fun z => b2_0.mp z hy), if_neg hxy, if_pos hl, if_pos hu, rf9_6]; rfl
            refine ⟨_, f9, ?_⟩
            have f10 : ∀ r : Nat → Int32, f_X10_streets x1 x2 x3 (A 66) r = some (-6, A 66, upd r 6 (r 6 + 1)) := fun r => by
              unfold f_X10_streets f_X10_streets_j2
              rw [f10_isCorner, Option.bind_some, if_neg (fun z => b2_0.mp z hx), f10_isCorner, Option.bind_some, if_neg (fun z => b2_0.mp z hy), if_neg hxy, if_pos hl, f10_comesNot hm.1 hv.1 (fun z => by have := i32_lt.mp hu; rw [show (99 : Int32).toInt = 99 from rfl] at this; omega), Option.bind_some, if_pos rfl, rf10_6]; rfl
            exact ⟨_, f10 _, rfl, t, k, h1, h2, h3, h4.up (by decide), h5, h6, h7, h8⟩
          · by_cases hr : t 49 < 8
            · obtain ⟨a, ha, rfl⟩ := cin_nI (n := 6) hx (by decide)
              obtain ⟨b, hb, rfl⟩ := cin_nI (n := 6) hy (by decide)
              have hl1 := i32_le.mp hl
              rw [show (1 : Int32).toInt = 1 from rfl] at hl1
              have hu1 : ¬ (99 : Int32).toInt < x3.toInt := fun z => hu (i32_lt.mpr z)
              rw [show (99 : Int32).toInt = 99 from rfl] at hu1
              obtain ⟨l, hl2, rfl⟩ := cin_nI (x := x3) (n := 100) (by omega) (by decide)
              rw [nI_toInt (by omega)] at hl1 hu1
              have hab : a ≠ b := fun z => hxy (by rw [z])
              obtain ⟨f2, t2, l2, k2, g2, e1, e2⟩ := f7_add hv hc hr a b l
              obtain ⟨w2, e3, e4⟩ := f10_comes (l := l) hv hm hr ha hb hab (by omega)
              have f9 : f_X9_streets (nI a) (nI b) (nI l) (I 1 5) (I 1 6) (A 2) (A 3) (A 4) (A 5) (A 6) (A 64) = some (nI (t 49), I 1 5, nI (t 49 + 1), f2, t2, l2, k2, g2, A 64) := by
                unfold f_X9_streets
                rw [f9_isCorner, Option.bind_some, if_neg (fun z => b2_0.mp z hx), f9_isCorner, Option.bind_some, if_neg (fun z => b2_0.mp z hy), if_neg hxy, if_pos hl, if_neg hu, if_pos (show I 1 6 < (8 : Int32) from by rw [hc.1]; exact nI_lt (b := 8) hr (by decide)), e1, Option.bind_some]
                show some (nI (t 49 + 1) - 1, _) = _
                rw [nI_pred]
              refine ⟨_, f9, ?_⟩
              have f10 : ∀ r : Nat → Int32, f_X10_streets (nI a) (nI b) (nI l) (A 66) r = some (nI (t 49), w2, r) := fun r => by
                unfold f_X10_streets
                rw [f10_isCorner, Option.bind_some, if_neg (fun z => b2_0.mp z hx), f10_isCorner, Option.bind_some, if_neg (fun z => b2_0.mp z hy), if_neg hxy, if_pos hl, e3, Option.bind_some, if_neg (show ¬ (1 : Int32) = 0 by decide), ga_in (by decide)]
                show some (w2 49 - 1, _) = _
                rw [e4.1, addT_49 hr, nI_pred]
              exact ⟨_, f10 _, rfl, addT t a b l, k, ⟨hv.add hr ha hb hab (by omega), e2, e4⟩, h2, h3, h4, h5, h6, h7, h8⟩
            · have f9 : f_X9_streets x1 x2 x3 (I 1 5) (I 1 6) (A 2) (A 3) (A 4) (A 5) (A 6) (A 64) = some (-6, I 1 5, I 1 6, A 2, A 3, A 4, A 5, A 6, upd (A 64) 6 (A 64 6 + 1)) := by
                unfold f_X9_streets f_X9_streets_j2 f_X9_streets_j5
                rw [f9_isCorner, Option.bind_some, if_neg (fun z => b2_0.mp z hx), f9_isCorner, Option.bind_some, if_neg (fun z => b2_0.mp z hy), if_neg hxy, if_pos hl, if_neg hu, if_neg (show ¬ I 1 6 < (8 : Int32) from by rw [hc.1]; exact nI_nlt (b := 8) (by omega) (by have := hv.1; omega)), rf9_6]; rfl
              refine ⟨_, f9, ?_⟩
              have f10 : ∀ r : Nat → Int32, f_X10_streets x1 x2 x3 (A 66) r = some (-6, A 66, upd r 6 (r 6 + 1)) := fun r => by
                unfold f_X10_streets f_X10_streets_j2
                rw [f10_isCorner, Option.bind_some, if_neg (fun z => b2_0.mp z hx), f10_isCorner, Option.bind_some, if_neg (fun z => b2_0.mp z hy), if_neg hxy, if_pos hl, f10_comesNot hm.1 hv.1 (fun z => hr z.2.2.2.2), Option.bind_some, if_pos rfl, rf10_6]; rfl
              exact ⟨_, f10 _, rfl, t, k, h1, h2, h3, h4.up (by decide), h5, h6, h7, h8⟩
        · have f9 : f_X9_streets x1 x2 x3 (I 1 5) (I 1 6) (A 2) (A 3) (A 4) (A 5) (A 6) (A 64) = some (-4, I 1 5, I 1 6, A 2, A 3, A 4, A 5, A 6, upd (A 64) 4 (A 64 4 + 1)) := by
            unfold f_X9_streets f_X9_streets_j2 f_X9_streets_j5
            rw [f9_isCorner, Option.bind_some, if_neg (fun z => b2_0.mp z hx), f9_isCorner, Option.bind_some, if_neg (fun z => b2_0.mp z hy), if_neg hxy, if_neg hl, rf9_4]; rfl
          refine ⟨_, f9, ?_⟩
          have f10 : ∀ r : Nat → Int32, f_X10_streets x1 x2 x3 (A 66) r = some (-4, A 66, upd r 4 (r 4 + 1)) := fun r => by
            unfold f_X10_streets f_X10_streets_j2
            rw [f10_isCorner, Option.bind_some, if_neg (fun z => b2_0.mp z hx), f10_isCorner, Option.bind_some, if_neg (fun z => b2_0.mp z hy), if_neg hxy, if_neg hl, rf10_4]; rfl
          exact ⟨_, f10 _, rfl, t, k, h1, h2, h3, h4.up (by decide), h5, h6, h7, h8⟩
    · have f9 : f_X9_streets x1 x2 x3 (I 1 5) (I 1 6) (A 2) (A 3) (A 4) (A 5) (A 6) (A 64) = some (-1, I 1 5, I 1 6, A 2, A 3, A 4, A 5, A 6, upd (A 64) 1 (A 64 1 + 1)) := by
        unfold f_X9_streets f_X9_streets_j2 f_X9_streets_j5
        rw [f9_isCorner, Option.bind_some, if_neg (fun z => b2_0.mp z hx), f9_isCorner, Option.bind_some, if_pos (b2_0.mpr hy), rf9_1]; rfl
      refine ⟨_, f9, ?_⟩
      have f10 : ∀ r : Nat → Int32, f_X10_streets x1 x2 x3 (A 66) r = some (-1, A 66, upd r 1 (r 1 + 1)) := fun r => by
        unfold f_X10_streets f_X10_streets_j2
        rw [f10_isCorner, Option.bind_some, if_neg (fun z => b2_0.mp z hx), f10_isCorner, Option.bind_some, if_pos (b2_0.mpr hy), rf10_1]; rfl
      exact ⟨_, f10 _, rfl, t, k, h1, h2, h3, h4.up (by decide), h5, h6, h7, h8⟩
  · have f9 : f_X9_streets x1 x2 x3 (I 1 5) (I 1 6) (A 2) (A 3) (A 4) (A 5) (A 6) (A 64) = some (-1, I 1 5, I 1 6, A 2, A 3, A 4, A 5, A 6, upd (A 64) 1 (A 64 1 + 1)) := by
      unfold f_X9_streets f_X9_streets_j2 f_X9_streets_j5
      rw [f9_isCorner, Option.bind_some, if_pos (b2_0.mpr hx), rf9_1]; rfl
    refine ⟨_, f9, ?_⟩
    have f10 : ∀ r : Nat → Int32, f_X10_streets x1 x2 x3 (A 66) r = some (-1, A 66, upd r 1 (r 1 + 1)) := fun r => by
      unfold f_X10_streets f_X10_streets_j2
      rw [f10_isCorner, Option.bind_some, if_pos (b2_0.mpr hx), rf10_1]; rfl
    exact ⟨_, f10 _, rfl, t, k, h1, h2, h3, h4.up (by decide), h5, h6, h7, h8⟩
