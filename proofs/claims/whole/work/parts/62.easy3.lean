/-- one number of a town anew -/
def setT (t : Nat → Nat) (i v : Nat) : Nat → Nat := fun j => if j = i then v else t j
theorem setT_s (t : Nat → Nat) (i v : Nat) : setT t i v i = v := if_pos rfl
theorem setT_n {t : Nat → Nat} {i v j : Nat} (h : j ≠ i) : setT t i v j = t j := if_neg h
theorem vT.set {t : Nat → Nat} (hv : vT t) {r s v : Nat} (hs : s < t 49) (hr : r < 6) (h2 : 2 ≤ r) (hb : (r = 2 → 1 ≤ v ∧ v ≤ 99) ∧ (r = 3 → v ≤ 5) ∧ (r = 4 → v ≤ 9) ∧ (r = 5 → v ≤ 1)) : vT (setT t (8 * r + s) v) := by
  obtain ⟨a1, a2, a3, a4⟩ := hv
  have e49 : setT t (8 * r + s) v 49 = t 49 := setT_n (by omega)
  have e48 : setT t (8 * r + s) v 48 = t 48 := setT_n (by omega)
  refine ⟨by rw [e49]; exact a1, by rw [e48]; exact a2, fun u hu => ?_, fun j j1 j2 j3 => ?_⟩
  · rw [e49] at hu
    have b := a3 u hu
    have hk : ∀ q, q < 6 → 8 * q + u ≠ 8 * r + s ∨ (q = r ∧ u = s) := fun q hq => by omega
    have g : ∀ q, q < 6 → setT t (8 * r + s) v (8 * q + u) = t (8 * q + u) ∨ (q = r ∧ setT t (8 * r + s) v (8 * q + u) = v) := fun q hq => by
      rcases hk q hq with h | ⟨rfl, rfl⟩
      · exact Or.inl (setT_n h)
      · exact Or.inr ⟨rfl, setT_s _ _ _⟩
    have g0 := g 0 (by decide)
    have g1 := g 1 (by decide)
    have g2 := g 2 (by decide)
    have g3 := g 3 (by decide)
    have g4 := g 4 (by decide)
    have g5 := g 5 (by decide)
    simp only [Nat.mul_zero, Nat.zero_add, Nat.mul_one, Nat.reduceMul] at g0 g1 g2 g3 g4 g5
    obtain ⟨b1, b2, b3, b4, b5, b6, b7, b8⟩ := b
    obtain ⟨c1, c2, c3, c4⟩ := hb
    rw [Or.resolve_right g0 (by omega), Or.resolve_right g1 (by omega)]
    refine ⟨b1, b2, b3, ?_, ?_, ?_, ?_, ?_⟩
    · rcases g2 with g | ⟨e, g⟩
      · rw [g]; exact b4
      · rw [g]; exact (c1 e.symm).1
    · rcases g2 with g | ⟨e, g⟩
      · rw [g]; exact b5
      · rw [g]; exact (c1 e.symm).2
    · rcases g3 with g | ⟨e, g⟩
      · rw [g]; exact b6
      · rw [g]; exact c2 e.symm
    · rcases g4 with g | ⟨e, g⟩
      · rw [g]; exact b7
      · rw [g]; exact c3 e.symm
    · rcases g5 with g | ⟨e, g⟩
      · rw [g]; exact b8
      · rw [g]; exact c4 e.symm
  · rw [e49] at j3
    rw [setT_n (by omega)]
    exact a4 j j1 j2 j3
theorem mR.set {t : Nat → Nat} {w : Nat → Int32} (hv : vT t) (h : mR t w) {r s v : Nat} (hs : s < t 49) (hr : r < 6) : mR (setT t (8 * r + s) v) (upd w (8 * r + s) (nI v)) := by
  have := hv.1
  refine ⟨?_, ?_, fun q hq u hu => ?_⟩
  · rw [pk_un (by omega), setT_n (by omega)]; exact h.1
  · rw [pk_un (by omega), setT_n (by omega)]; exact h.2.1
  · rw [setT_n (by omega)] at hu
    by_cases e : 8 * q + u = 8 * r + s
    · rw [e, pk_us, setT_s]
    · rw [pk_un e, setT_n e]; exact h.2.2 q hq u hu
theorem clB_set {t : Nat → Nat} {i v n : Nat} (hi : i < 40) : clB (setT t i v) n = clB t n := clB_cong n (fun s _ => setT_n (by omega))
theorem cR.len {t : Nat → Nat} {fr to ln kd fg : Nat → Int32} {cl sz hm : Int32} (hv : vT t) (h : cR t fr to ln kd fg cl sz hm) {s v : Nat} (hs : s < t 49) : cR (setT t (8 * 2 + s) v) fr to (upd ln s (nI v)) kd fg cl sz hm := by
  have := hv.1
  obtain ⟨h1, h2, h3, h4⟩ := h
  refine ⟨?_, ?_, ?_, fun u hu => ?_⟩
  · rw [setT_n (by omega)]; exact h1
  · rw [setT_n (by omega)]; exact h2
  · rw [clB_set (by omega), setT_n (by omega)]; exact h3
  · rw [setT_n (by omega)] at hu
    have g := h4 u hu
    rw [setT_n (by omega), setT_n (by omega), setT_n (j := 24 + u) (by omega), setT_n (j := 32 + u) (by omega)]
    refine ⟨g.1, g.2.1, ?_, g.2.2.2.1, g.2.2.2.2⟩
    by_cases e : u = s
    · subst e; rw [pk_us]; exact congrArg nI (setT_s t (8 * 2 + u) v).symm
    · rw [pk_un e, setT_n (by omega)]; exact g.2.2.1
theorem cR.kd {t : Nat → Nat} {fr to ln kd fg : Nat → Int32} {cl sz hm : Int32} (hv : vT t) (h : cR t fr to ln kd fg cl sz hm) {s v : Nat} (hs : s < t 49) : cR (setT t (8 * 3 + s) v) fr to ln (upd kd s (nI v)) fg cl sz hm := by
  have := hv.1
  obtain ⟨h1, h2, h3, h4⟩ := h
  refine ⟨?_, ?_, ?_, fun u hu => ?_⟩
  · rw [setT_n (by omega)]; exact h1
  · rw [setT_n (by omega)]; exact h2
  · rw [clB_set (by omega), setT_n (by omega)]; exact h3
  · rw [setT_n (by omega)] at hu
    have g := h4 u hu
    rw [setT_n (by omega), setT_n (by omega), setT_n (j := 16 + u) (by omega), setT_n (j := 32 + u) (by omega)]
    refine ⟨g.1, g.2.1, g.2.2.1, ?_, g.2.2.2.2⟩
    by_cases e : u = s
    · subst e; rw [pk_us]; exact congrArg nI (setT_s t (8 * 3 + u) v).symm
    · rw [pk_un e, setT_n (by omega)]; exact g.2.2.2.1
theorem cR.fg {t : Nat → Nat} {fr to ln kd fg : Nat → Int32} {cl sz hm : Int32} (hv : vT t) (h : cR t fr to ln kd fg cl sz hm) {s v : Nat} (hs : s < t 49) : cR (setT t (8 * 4 + s) v) fr to ln kd (upd fg s (nI v)) cl sz hm := by
  have := hv.1
  obtain ⟨h1, h2, h3, h4⟩ := h
  refine ⟨?_, ?_, ?_, fun u hu => ?_⟩
  · rw [setT_n (by omega)]; exact h1
  · rw [setT_n (by omega)]; exact h2
  · rw [clB_set (by omega), setT_n (by omega)]; exact h3
  · rw [setT_n (by omega)] at hu
    have g := h4 u hu
    rw [setT_n (by omega), setT_n (by omega), setT_n (j := 16 + u) (by omega), setT_n (j := 24 + u) (by omega)]
    refine ⟨g.1, g.2.1, g.2.2.1, g.2.2.2.1, ?_⟩
    by_cases e : u = s
    · subst e; rw [pk_us]; exact congrArg nI (setT_s t (8 * 4 + u) v).symm
    · rw [pk_un e, setT_n (by omega)]; exact g.2.2.2.2
theorem InvN.len {t : Nat → Nat} {fr to ln kd fg : Nat → Int32} {cl sz hm : Int32} {w : Nat → Int32} (h : InvN t fr to ln kd fg cl sz hm w) {s v : Nat} (hs : s < t 49) (hv : 1 ≤ v ∧ v ≤ 99) : InvN (setT t (8 * 2 + s) v) fr to (upd ln s (nI v)) kd fg cl sz hm (upd w (8 * 2 + s) (nI v)) :=
  ⟨h.1.set hs (by decide) (by decide) ⟨fun _ => hv, fun z => absurd z (by decide), fun z => absurd z (by decide), fun z => absurd z (by decide)⟩, h.2.1.len h.1 hs, h.2.2.set h.1 hs (by decide)⟩
theorem InvN.kd {t : Nat → Nat} {fr to ln kd fg : Nat → Int32} {cl sz hm : Int32} {w : Nat → Int32} (h : InvN t fr to ln kd fg cl sz hm w) {s v : Nat} (hs : s < t 49) (hv : v ≤ 5) : InvN (setT t (8 * 3 + s) v) fr to ln (upd kd s (nI v)) fg cl sz hm (upd w (8 * 3 + s) (nI v)) :=
  ⟨h.1.set hs (by decide) (by decide) ⟨fun z => absurd z (by decide), fun _ => hv, fun z => absurd z (by decide), fun z => absurd z (by decide)⟩, h.2.1.kd h.1 hs, h.2.2.set h.1 hs (by decide)⟩
theorem InvN.fg {t : Nat → Nat} {fr to ln kd fg : Nat → Int32} {cl sz hm : Int32} {w : Nat → Int32} (h : InvN t fr to ln kd fg cl sz hm w) {s v : Nat} (hs : s < t 49) (hv : v ≤ 9) : InvN (setT t (8 * 4 + s) v) fr to ln kd (upd fg s (nI v)) cl sz hm (upd w (8 * 4 + s) (nI v)) :=
  ⟨h.1.set hs (by decide) (by decide) ⟨fun z => absurd z (by decide), fun z => absurd z (by decide), fun _ => hv, fun z => absurd z (by decide)⟩, h.2.1.fg h.1 hs, h.2.2.set h.1 hs (by decide)⟩
theorem in_neg {x : Int32} {a b : Int64} {p : Prop} [Decidable p] (h : (a.toInt ≤ (Int32.toInt64 x).toInt ∧ (Int32.toInt64 x).toInt ≤ b.toInt) ↔ p) : f_X10_in (Int32.toInt64 x) a b = some (b2 p) := by
  rw [f10_in]
  unfold b2
  by_cases e : p
  · rw [if_pos e, if_pos (h.mpr e)]
  · rw [if_neg e, if_neg (fun z => e (h.mp z))]
theorem pm_length {A I : Nat → Nat → Int32} (hI : Inv A I) {N : Nat} (hN : 8000000 ≤ N) (x1 x2 : Int32) : ∃ oc, f_X9_length x1 x2 (I 1 6) (A 4) (A 64) = some oc ∧ ∃ om, f_X10_length x1 x2 ((uA_X9_length A I oc) 66) ((uA_X9_length A I oc) 69) = some om ∧ oc.1 = om.1 ∧ Inv (uA_X10_length (uA_X9_length A I oc) (uI_X9_length A I oc) om) (uI_X10_length (uA_X9_length A I oc) (uI_X9_length A I oc) om) := by
  obtain ⟨t, k, h1, h2, h3, h4, h5, h6, h7, h8⟩ := hI
  obtain ⟨hv, hc, hm⟩ := id h1
  have h9 : f_X7_has x1 (I 1 6) = some (b2 (0 ≤ x1.toInt ∧ x1.toInt < t 49)) := by rw [hc.1]; exact f7_has x1 (by have := hv.1; omega)
  have h10 := f10_isStreet x1 hv.1 hm.1
  have hin : f_X10_in (Int32.toInt64 x2) 1 99 = some (b2 (1 ≤ x2.toInt ∧ x2.toInt ≤ 99)) := in_neg (by rw [t64, show (1 : Int64).toInt = 1 from rfl, show (99 : Int64).toInt = 99 from rfl])
  by_cases hx : 0 ≤ x1.toInt ∧ x1.toInt < t 49
  · obtain ⟨s, hs, rfl⟩ := cin_nI (n := t 49) hx (by have := hv.1; omega)
    have hs8 : s < 8 := Nat.lt_of_lt_of_le hs hv.1
    have c1 : (nI s).toNatClampNeg = s := nI_clamp (by omega)
    by_cases hl : (1 : Int32) ≤ x2
    · by_cases hu : x2 ≤ (99 : Int32)
      · have hb : 1 ≤ x2.toInt ∧ x2.toInt ≤ 99 := ⟨i32_le.mp hl, i32_le.mp hu⟩
        obtain ⟨v, hv1, rfl⟩ := cin_nI (x := x2) (n := 100) (by omega) (by decide)
        rw [nI_toInt (by omega)] at hb
        have f9 : f_X9_length (nI s) (nI v) (I 1 6) (A 4) (A 64) = some (A 4 s, upd (A 4) s (nI v), A 64) := by
          unfold f_X9_length
          rw [h9, Option.bind_some, if_neg (fun z => b2_0.mp z hx), if_pos hl, if_pos hu, ga_ok hs8 (by decide), ga_ok hs8 (by decide), c1]
        refine ⟨_, f9, ?_⟩
        have c2 : ((16 : Int32) + nI s) = nI (8 * 2 + s) := nI_add 16 s
        have f10 : ∀ r : Nat → Int32, f_X10_length (nI s) (nI v) (A 66) r = some (A 66 (8 * 2 + s), upd (A 66) (8 * 2 + s) (nI v), r) := fun r => by
          unfold f_X10_length
          rw [h10, Option.bind_some, if_neg (fun z => b2_0.mp z hx), hin, Option.bind_some, if_neg (fun z => b2_0.mp z (by rw [nI_toInt (by omega)]; omega)), c2, ga_ok (by omega) (by decide), ga_ok (by omega) (by decide), nI_clamp (by omega)]
        refine ⟨_, f10 _, ?_, setT t (8 * 2 + s) v, k, h1.len hs (by omega), h2, h3, h4, h5, h6, h7, h8⟩
        show A 4 s = A 66 (8 * 2 + s)
        rw [hm.2.2 2 (by decide) s hs, (hc.2.2.2 s hs).2.2.1]
      · have f9 : f_X9_length (nI s) x2 (I 1 6) (A 4) (A 64) = some (-6, A 4, upd (A 64) 6 (A 64 6 + 1)) := by
          unfold f_X9_length
          rw [h9, Option.bind_some, if_neg (fun z => b2_0.mp z hx), if_pos hl, if_neg hu, rf9_6]; rfl
        refine ⟨_, f9, ?_⟩
        have f10 : ∀ r : Nat → Int32, f_X10_length (nI s) x2 (A 66) r = some (-6, A 66, upd r 6 (r 6 + 1)) := fun r => by
          unfold f_X10_length
          rw [h10, Option.bind_some, if_neg (fun z => b2_0.mp z hx), hin, Option.bind_some, if_pos (b2_0.mpr (fun z => hu (i32_le.mpr z.2))), if_pos hl, rf10_6]; rfl
        exact ⟨_, f10 _, rfl, t, k, h1, h2, h3, h4.up (by decide), h5, h6, h7, h8⟩
    · have f9 : f_X9_length (nI s) x2 (I 1 6) (A 4) (A 64) = some (-4, A 4, upd (A 64) 4 (A 64 4 + 1)) := by
        unfold f_X9_length
        rw [h9, Option.bind_some, if_neg (fun z => b2_0.mp z hx), if_neg hl, rf9_4]; rfl
      refine ⟨_, f9, ?_⟩
      have f10 : ∀ r : Nat → Int32, f_X10_length (nI s) x2 (A 66) r = some (-4, A 66, upd r 4 (r 4 + 1)) := fun r => by
        unfold f_X10_length
        rw [h10, Option.bind_some, if_neg (fun z => b2_0.mp z hx), hin, Option.bind_some, if_pos (b2_0.mpr (fun z => hl (i32_le.mpr z.1))), if_neg hl, rf10_4]; rfl
      exact ⟨_, f10 _, rfl, t, k, h1, h2, h3, h4.up (by decide), h5, h6, h7, h8⟩
  · have f9 : f_X9_length x1 x2 (I 1 6) (A 4) (A 64) = some (-1, A 4, upd (A 64) 1 (A 64 1 + 1)) := by
      unfold f_X9_length
      rw [h9, Option.bind_some, if_pos (b2_0.mpr hx), rf9_1]; rfl
    refine ⟨_, f9, ?_⟩
    have f10 : ∀ r : Nat → Int32, f_X10_length x1 x2 (A 66) r = some (-1, A 66, upd r 1 (r 1 + 1)) := fun r => by
      unfold f_X10_length
      rw [h10, Option.bind_some, if_pos (b2_0.mpr hx), rf10_1]; rfl
    exact ⟨_, f10 _, rfl, t, k, h1, h2, h3, h4.up (by decide), h5, h6, h7, h8⟩
theorem pm_kind {A I : Nat → Nat → Int32} (hI : Inv A I) {N : Nat} (hN : 8000000 ≤ N) (x1 x2 x3 : Int32) : ∃ oc, f_X9_kind x1 x2 x3 (I 1 6) (A 5) (A 6) (A 64) = some oc ∧ ∃ om, f_X10_kind x1 x2 x3 ((uA_X9_kind A I oc) 66) ((uA_X9_kind A I oc) 69) = some om ∧ oc.1 = om.1 ∧ Inv (uA_X10_kind (uA_X9_kind A I oc) (uI_X9_kind A I oc) om) (uI_X10_kind (uA_X9_kind A I oc) (uI_X9_kind A I oc) om) := by
  obtain ⟨t, k, h1, h2, h3, h4, h5, h6, h7, h8⟩ := hI
  obtain ⟨hv, hc, hm⟩ := id h1
  have h9 : f_X7_has x1 (I 1 6) = some (b2 (0 ≤ x1.toInt ∧ x1.toInt < t 49)) := by rw [hc.1]; exact f7_has x1 (by have := hv.1; omega)
  have h10 := f10_isStreet x1 hv.1 hm.1
  have hin : f_X10_in (Int32.toInt64 x2) 0 5 = some (b2 (0 ≤ x2.toInt ∧ x2.toInt < 6)) := in_neg (by rw [t64, show (0 : Int64).toInt = 0 from rfl, show (5 : Int64).toInt = 5 from rfl]; omega)
  have hin3 : f_X10_in (Int32.toInt64 x3) 0 9 = some (b2 (0 ≤ x3.toInt ∧ x3.toInt < 10)) := in_neg (by rw [t64, show (0 : Int64).toInt = 0 from rfl, show (9 : Int64).toInt = 9 from rfl]; omega)
  by_cases hx : 0 ≤ x1.toInt ∧ x1.toInt < t 49
  · obtain ⟨s, hs, rfl⟩ := cin_nI (n := t 49) hx (by have := hv.1; omega)
    have hs8 : s < 8 := Nat.lt_of_lt_of_le hs hv.1
    have c1 : (nI s).toNatClampNeg = s := nI_clamp (by omega)
    by_cases hk : 0 ≤ x2.toInt ∧ x2.toInt < 6
    · have k1 : ¬ x2 < 0 := fun z => by have := i32_lt.mp z; rw [tI0] at this; omega
      have k2 : x2 < (6 : Int32) := i32_lt.mpr hk.2
      by_cases hl : (0 : Int32) ≤ x3
      · by_cases hu : x3 < (10 : Int32)
        · have hb : 0 ≤ x3.toInt ∧ x3.toInt < 10 := ⟨i32_le.mp hl, i32_lt.mp hu⟩
          obtain ⟨v, hv1, rfl⟩ := cin_nI (x := x2) (n := 6) hk (by decide)
          obtain ⟨g, hg1, rfl⟩ := cin_nI (x := x3) (n := 10) hb (by decide)
          have f9 : f_X9_kind (nI s) (nI v) (nI g) (I 1 6) (A 5) (A 6) (A 64) = some (10 * A 5 s + A 6 s, upd (A 5) s (nI v), upd (A 6) s (nI g), A 64) := by
            unfold f_X9_kind
            rw [h9, Option.bind_some, if_neg (fun z => b2_0.mp z hx), if_neg k1, if_pos k2, if_pos hl, if_pos hu, ga_ok hs8 (by decide), ga_ok hs8 (by decide), ga_ok hs8 (by decide), ga_ok hs8 (by decide), c1]
          refine ⟨_, f9, ?_⟩
          have c2 : ((24 : Int32) + nI s) = nI (8 * 3 + s) := nI_add 24 s
          have c3 : ((32 : Int32) + nI s) = nI (8 * 4 + s) := nI_add 32 s
          have f10 : ∀ r : Nat → Int32, f_X10_kind (nI s) (nI v) (nI g) (A 66) r = some (10 * A 66 (8 * 3 + s) + A 66 (8 * 4 + s), upd (upd (A 66) (8 * 3 + s) (nI v)) (8 * 4 + s) (nI g), r) := fun r => by
            unfold f_X10_kind
            rw [h10, Option.bind_some, if_neg (fun z => b2_0.mp z hx), hin, Option.bind_some, if_neg (fun z => b2_0.mp z hk), hin3, Option.bind_some, if_neg (fun z => b2_0.mp z hb), c2, c3, ga_ok (by omega) (by decide), ga_ok (by omega) (by decide), ga_ok (by omega) (by decide), ga_ok (by omega) (by decide), nI_clamp (by omega), nI_clamp (by omega)]
          refine ⟨_, f10 _, ?_, setT (setT t (8 * 3 + s) v) (8 * 4 + s) g, k, (h1.kd hs (by omega)).fg (by rw [setT_n (by omega)]; exact hs) (by omega), h2, h3, h4, h5, h6, h7, h8⟩
          show 10 * A 5 s + A 6 s = 10 * A 66 (8 * 3 + s) + A 66 (8 * 4 + s)
          rw [hm.2.2 3 (by decide) s hs, hm.2.2 4 (by decide) s hs, (hc.2.2.2 s hs).2.2.2.1, (hc.2.2.2 s hs).2.2.2.2]
        · have f9 : f_X9_kind (nI s) x2 x3 (I 1 6) (A 5) (A 6) (A 64) = some (-6, A 5, A 6, upd (A 64) 6 (A 64 6 + 1)) := by
            unfold f_X9_kind
            rw [h9, Option.bind_some, if_neg (fun z => b2_0.mp z hx), if_neg k1, if_pos k2, if_pos hl, if_neg hu, rf9_6]; rfl
          refine ⟨_, f9, ?_⟩
          have f10 : ∀ r : Nat → Int32, f_X10_kind (nI s) x2 x3 (A 66) r = some (-6, A 66, upd r 6 (r 6 + 1)) := fun r => by
            unfold f_X10_kind
            rw [h10, Option.bind_some, if_neg (fun z => b2_0.mp z hx), hin, Option.bind_some, if_neg (fun z => b2_0.mp z hk), hin3, Option.bind_some, if_pos (b2_0.mpr (fun z => hu (i32_lt.mpr z.2))), if_pos hl, rf10_6]; rfl
          exact ⟨_, f10 _, rfl, t, k, h1, h2, h3, h4.up (by decide), h5, h6, h7, h8⟩
      · have f9 : f_X9_kind (nI s) x2 x3 (I 1 6) (A 5) (A 6) (A 64) = some (-4, A 5, A 6, upd (A 64) 4 (A 64 4 + 1)) := by
          unfold f_X9_kind
          rw [h9, Option.bind_some, if_neg (fun z => b2_0.mp z hx), if_neg k1, if_pos k2, if_neg hl, rf9_4]; rfl
        refine ⟨_, f9, ?_⟩
        have f10 : ∀ r : Nat → Int32, f_X10_kind (nI s) x2 x3 (A 66) r = some (-4, A 66, upd r 4 (r 4 + 1)) := fun r => by
          unfold f_X10_kind
          rw [h10, Option.bind_some, if_neg (fun z => b2_0.mp z hx), hin, Option.bind_some, if_neg (fun z => b2_0.mp z hk), hin3, Option.bind_some, if_pos (b2_0.mpr (fun z => hl (i32_le.mpr z.1))), if_neg hl, rf10_4]; rfl
        exact ⟨_, f10 _, rfl, t, k, h1, h2, h3, h4.up (by decide), h5, h6, h7, h8⟩
    · have f9 : f_X9_kind (nI s) x2 x3 (I 1 6) (A 5) (A 6) (A 64) = some (-2, A 5, A 6, upd (A 64) 2 (A 64 2 + 1)) := by
        unfold f_X9_kind f_X9_kind_j2
        rw [h9, Option.bind_some, if_neg (fun z => b2_0.mp z hx), rf9_2]
        by_cases k1 : x2 < 0
        · rw [if_pos k1]; rfl
        · rw [if_neg k1, if_neg (fun z => hk ⟨by rw [i32_lt, tI0] at k1; omega, i32_lt.mp z⟩)]; rfl
      refine ⟨_, f9, ?_⟩
      have f10 : ∀ r : Nat → Int32, f_X10_kind (nI s) x2 x3 (A 66) r = some (-2, A 66, upd r 2 (r 2 + 1)) := fun r => by
        unfold f_X10_kind
        rw [h10, Option.bind_some, if_neg (fun z => b2_0.mp z hx), hin, Option.bind_some, if_pos (b2_0.mpr hk), rf10_2]; rfl
      exact ⟨_, f10 _, rfl, t, k, h1, h2, h3, h4.up (by decide), h5, h6, h7, h8⟩
  · have f9 : f_X9_kind x1 x2 x3 (I 1 6) (A 5) (A 6) (A 64) = some (-1, A 5, A 6, upd (A 64) 1 (A 64 1 + 1)) := by
      unfold f_X9_kind
      rw [h9, Option.bind_some, if_pos (b2_0.mpr hx), rf9_1]; rfl
    refine ⟨_, f9, ?_⟩
    have f10 : ∀ r : Nat → Int32, f_X10_kind x1 x2 x3 (A 66) r = some (-1, A 66, upd r 1 (r 1 + 1)) := fun r => by
      unfold f_X10_kind
      rw [h10, Option.bind_some, if_pos (b2_0.mpr hx), rf10_1]; rfl
    exact ⟨_, f10 _, rfl, t, k, h1, h2, h3, h4.up (by decide), h5, h6, h7, h8⟩
