theorem cR.op {t : Nat → Nat} {fr to ln kd fg : Nat → Int32} {cl sz hm : Int32} (hv : vT t) (h : cR t fr to ln kd fg cl sz hm) {s v : Nat} (hs : s < t 49) (he : t (40 + s) = 0 ↔ v ≠ 0) : cR (setT t (8 * 5 + s) v) fr to ln kd fg (cl ^^^ nI (2 ^ s)) sz hm := by
  have := hv.1
  obtain ⟨h1, h2, h3, h4⟩ := h
  refine ⟨?_, ?_, ?_, fun u hu => ?_⟩
  · rw [setT_n (by omega)]; exact h1
  · rw [setT_n (by omega)]; exact h2
  · rw [setT_n (by omega), h3, xI_xor]; exact congrArg nI (clB_flip hs he).symm
  · rw [setT_n (by omega)] at hu
    have g := h4 u hu
    rw [setT_n (by omega), setT_n (by omega), setT_n (j := 16 + u) (by omega), setT_n (j := 24 + u) (by omega), setT_n (j := 32 + u) (by omega)]
    exact g
theorem f7_isOpen' {t : Nat → Nat} {fr to ln kd fg : Nat → Int32} {cl sz hm : Int32} (hv : vT t) (h : cR t fr to ln kd fg cl sz hm) {s : Nat} (hs : s < t 49) : (f_X7_isOpen (nI s) cl).bind (fun r => some (if r = 0 then (0 : Int32) else 1)) = some (nI (t (40 + s))) := by
  have ho := (hv.2.2.1 s hs).2.2.2.2.2.2.2
  rw [f7_isOpen hv h hs, Option.bind_some]
  by_cases g : t (40 + s) = 1
  · rw [if_neg (fun z => b2_0.mp z g), g]; rfl
  · rw [if_pos (b2_0.mpr g), show t (40 + s) = 0 by omega]; rfl
theorem pm_turns {A I : Nat → Nat → Int32} (hI : Inv A I) {N : Nat} (hN : 8000000 ≤ N) (x1 : Int32) : ∃ oc, f_X9_turns x1 (I 1 5) (I 1 6) (A 64) = some oc ∧ ∃ om, f_X10_turns x1 ((uA_X9_turns A I oc) 66) ((uA_X9_turns A I oc) 69) = some om ∧ oc.1 = om.1 ∧ Inv (uA_X10_turns (uA_X9_turns A I oc) (uI_X9_turns A I oc) om) (uI_X10_turns (uA_X9_turns A I oc) (uI_X9_turns A I oc) om) := by
  obtain ⟨t, k, h1, h2, h3, h4, h5, h6, h7, h8⟩ := hI
  obtain ⟨hv, hc, hm⟩ := id h1
  have h9 : f_X7_has x1 (I 1 6) = some (b2 (0 ≤ x1.toInt ∧ x1.toInt < t 49)) := by rw [hc.1]; exact f7_has x1 (by have := hv.1; omega)
  have h10 := f10_isStreet x1 hv.1 hm.1
  by_cases hx : 0 ≤ x1.toInt ∧ x1.toInt < t 49
  · obtain ⟨s, hs, rfl⟩ := cin_nI (n := t 49) hx (by have := hv.1; omega)
    have hs8 : s < 8 := Nat.lt_of_lt_of_le hs hv.1
    have ho := (hv.2.2.1 s hs).2.2.2.2.2.2.2
    have he : t (40 + s) = 0 ↔ 1 - t (40 + s) ≠ 0 := by omega
    have hv2 := hv.set (r := 5) (v := 1 - t (40 + s)) hs (by decide) (by decide) ⟨fun z => absurd z (by decide), fun z => absurd z (by decide), fun z => absurd z (by decide), fun _ => by omega⟩
    have hc2 := hc.op hv hs he
    have h49 : setT t (8 * 5 + s) (1 - t (40 + s)) 49 = t 49 := setT_n (by omega)
    have hg : setT t (8 * 5 + s) (1 - t (40 + s)) (40 + s) = 1 - t (40 + s) := setT_s t (8 * 5 + s) _
    have f9 : f_X9_turns (nI s) (I 1 5) (I 1 6) (A 64) = some (nI (1 - t (40 + s)), I 1 5 ^^^ nI (2 ^ s), A 64) := by
      have hq := f7_isOpen' hv2 hc2 (s := s) (by rw [h49]; exact hs)
      rw [hg] at hq
      unfold f_X9_turns f_X7_openOrClose
      rw [h9, Option.bind_some, if_neg (fun z => b2_0.mp z hx), Option.bind_some, sh1 (by omega)]
      rw [f7_isOpen hv2 hc2 (s := s) (by rw [h49]; exact hs), Option.bind_some] at hq ⊢
      rw [Option.some.inj hq]
    refine ⟨_, f9, ?_⟩
    have c2 : ((40 : Int32) + nI s) = nI (8 * 5 + s) := nI_add 40 s
    have c3 : (1 : Int32) - A 66 (8 * 5 + s) = nI (1 - t (40 + s)) := by rw [hm.2.2 5 (by decide) s hs]; exact pk_sub (a := 1) ho
    have f10 : ∀ r : Nat → Int32, f_X10_turns (nI s) (A 66) r = some (nI (1 - t (40 + s)), upd (A 66) (8 * 5 + s) (nI (1 - t (40 + s))), r) := fun r => by
      unfold f_X10_turns
      rw [h10, Option.bind_some, if_neg (fun z => b2_0.mp z hx), c2, ga_ok (by omega) (by decide), ga_ok (by omega) (by decide), ga_ok (by omega) (by decide), nI_clamp (by omega), c3, pk_us]
    exact ⟨_, f10 _, rfl, setT t (8 * 5 + s) (1 - t (40 + s)), k, ⟨hv2, hc2, hm.set hv hs (by decide)⟩, h2, h3, h4, h5, h6, h7, h8⟩
  · have f9 : f_X9_turns x1 (I 1 5) (I 1 6) (A 64) = some (-1, I 1 5, upd (A 64) 1 (A 64 1 + 1)) := by
      unfold f_X9_turns
      rw [h9, Option.bind_some, if_pos (b2_0.mpr hx), rf9_1]; rfl
    refine ⟨_, f9, ?_⟩
    have f10 : ∀ r : Nat → Int32, f_X10_turns x1 (A 66) r = some (-1, A 66, upd r 1 (r 1 + 1)) := fun r => by
      unfold f_X10_turns
      rw [h10, Option.bind_some, if_pos (b2_0.mpr hx), rf10_1]; rfl
    exact ⟨_, f10 _, rfl, t, k, h1, h2, h3, h4.up (by decide), h5, h6, h7, h8⟩
theorem pm_street {A I : Nat → Nat → Int32} (hI : Inv A I) {N : Nat} (hN : 8000000 ≤ N) (x1 x2 : Int32) : ∃ oc, f_X9_street x1 x2 (I 1 5) (I 1 6) (A 2) (A 3) (A 4) (A 5) (A 6) (A 64) = some oc ∧ ∃ om, f_X10_street x1 x2 ((uA_X9_street A I oc) 66) ((uA_X9_street A I oc) 69) = some om ∧ oc.1 = om.1 ∧ Inv (uA_X10_street (uA_X9_street A I oc) (uI_X9_street A I oc) om) (uI_X10_street (uA_X9_street A I oc) (uI_X9_street A I oc) om) := by
  obtain ⟨t, k, h1, h2, h3, h4, h5, h6, h7, h8⟩ := hI
  obtain ⟨hv, hc, hm⟩ := id h1
  have h9 : f_X7_has x1 (I 1 6) = some (b2 (0 ≤ x1.toInt ∧ x1.toInt < t 49)) := by rw [hc.1]; exact f7_has x1 (by have := hv.1; omega)
  have h10 := f10_isStreet x1 hv.1 hm.1
  have hin : f_X10_in (Int32.toInt64 x2) 0 7 = some (b2 (0 ≤ x2.toInt ∧ x2.toInt < 8)) := in_neg (by rw [t64, show (0 : Int64).toInt = 0 from rfl, show (7 : Int64).toInt = 7 from rfl]; omega)
  by_cases hx : 0 ≤ x1.toInt ∧ x1.toInt < t 49
  · obtain ⟨s, hs, rfl⟩ := cin_nI (n := t 49) hx (by have := hv.1; omega)
    have hs8 : s < 8 := Nat.lt_of_lt_of_le hs hv.1
    have cs : (nI s).toNatClampNeg = s := nI_clamp (by omega)
    obtain ⟨g1, g2, g3, g4, g5⟩ := hc.2.2.2 s hs
    by_cases hk : 0 ≤ x2.toInt ∧ x2.toInt < 8
    · obtain ⟨r, hr, rfl⟩ := cin_nI (n := 8) hk (by decide)
      have key : f_X9_street (nI s) (nI r) (I 1 5) (I 1 6) (A 2) (A 3) (A 4) (A 5) (A 6) (A 64) = some (if r < 6 then nI (t (8 * r + s)) else toldC (sC t (2 * s + (r - 6))), A 64) := by
        unfold f_X9_street
        rw [h9, Option.bind_some, if_neg (fun z => b2_0.mp z hx)]
        have e : r = 0 ∨ r = 1 ∨ r = 2 ∨ r = 3 ∨ r = 4 ∨ r = 5 ∨ r = 6 ∨ r = 7 := by omega
        rcases e with rfl | rfl | rfl | rfl | rfl | rfl | rfl | rfl
        · rw [if_pos (by decide), ga_ok hs8 (by decide), cs, g1, if_pos (by decide)]; simp
        · rw [if_neg (by decide), if_pos (by decide), ga_ok hs8 (by decide), cs, g2, if_pos (by decide)]
        · rw [if_neg (by decide), if_neg (by decide), if_pos (by decide), ga_ok hs8 (by decide), cs, g3, if_pos (by decide)]
        · rw [if_neg (by decide), if_neg (by decide), if_neg (by decide), if_pos (by decide), ga_ok hs8 (by decide), cs, g4, if_pos (by decide)]
        · rw [if_neg (by decide), if_neg (by decide), if_neg (by decide), if_neg (by decide), if_pos (by decide), ga_ok hs8 (by decide), cs, g5, if_pos (by decide)]
        · rw [if_neg (by decide), if_neg (by decide), if_neg (by decide), if_neg (by decide), if_neg (by decide), if_pos (by decide)]
          have hq := f7_isOpen' hv hc hs
          rw [f7_isOpen hv hc hs, Option.bind_some] at hq ⊢
          rw [Option.some.inj hq]; rfl
        · rw [if_neg (by decide), if_neg (by decide), if_neg (by decide), if_neg (by decide), if_neg (by decide), if_neg (by decide), if_pos (by decide), f7_costOn hv hc hs, Option.bind_some, f9_orNone (by have := sC_small hv (e := 2 * s) (by omega); omega)]; rfl
        · rw [if_neg (by decide), if_neg (by decide), if_neg (by decide), if_neg (by decide), if_neg (by decide), if_neg (by decide), if_neg (by decide), if_pos (by decide), f7_costBack hv hc hs, Option.bind_some, f9_orNone (by have := sC_small hv (e := 2 * s + 1) (by omega); omega)]; rfl
      refine ⟨_, key, ?_⟩
      have f10 : ∀ q : Nat → Int32, f_X10_street (nI s) (nI r) (A 66) q = some (if r < 6 then nI (t (8 * r + s)) else toldC (sC t (2 * s + (r - 6))), q) := fun q => by
        unfold f_X10_street
        rw [h10, Option.bind_some, if_neg (fun z => b2_0.mp z hx), hin, Option.bind_some, if_neg (fun z => b2_0.mp z hk)]
        by_cases e : r < 6
        · rw [if_neg (show ¬ (6 : Int32) ≤ nI r from nI_ge (b := 6) e (by decide)), if_pos e]
          have c : (8 : Int32) * nI r + nI s = nI (8 * r + s) := by rw [show (8 : Int32) * nI r = nI (8 * r) from pk_mul 8 r, nI_add]
          rw [c, ga_ok (by omega) (by decide), nI_clamp (by omega), hm.2.2 r e s hs]
        · rw [if_pos (show (6 : Int32) ≤ nI r from nI_le (a := 6) (by omega) (by omega)), if_neg e]
          have c : (2 : Int32) * nI s + nI r - 6 = nI (2 * s + (r - 6)) := by
            rw [show (2 : Int32) * nI s = nI (2 * s) from pk_mul 2 s, nI_add, show (6 : Int32) = nI 6 from rfl, pk_sub (by omega)]
            congr 1; omega
          rw [c, f10_cost hv hm (by omega)]; rfl
      exact ⟨_, f10 _, rfl, t, k, h1, h2, h3, h4, h5, h6, h7, h8⟩
    · have n : ∀ i : Nat, i < 8 → ¬ x2 = nI i := fun i hi z => hk (by rw [z, nI_toInt (by omega)]; omega)
      have f9 : f_X9_street (nI s) x2 (I 1 5) (I 1 6) (A 2) (A 3) (A 4) (A 5) (A 6) (A 64) = some (-2, upd (A 64) 2 (A 64 2 + 1)) := by
        unfold f_X9_street
        rw [h9, Option.bind_some, if_neg (fun z => b2_0.mp z hx), if_neg (show ¬ x2 = 0 from n 0 (by decide)), if_neg (show ¬ x2 = 1 from n 1 (by decide)), if_neg (show ¬ x2 = 2 from n 2 (by decide)), if_neg (show ¬ x2 = 3 from n 3 (by decide)), if_neg (show ¬ x2 = 4 from n 4 (by decide)), if_neg (show ¬ x2 = 5 from n 5 (by decide)), if_neg (show ¬ x2 = 6 from n 6 (by decide)), if_neg (show ¬ x2 = 7 from n 7 (by decide)), rf9_2]; rfl
      refine ⟨_, f9, ?_⟩
      have f10 : ∀ q : Nat → Int32, f_X10_street (nI s) x2 (A 66) q = some (-2, upd q 2 (q 2 + 1)) := fun q => by
        unfold f_X10_street
        rw [h10, Option.bind_some, if_neg (fun z => b2_0.mp z hx), hin, Option.bind_some, if_pos (b2_0.mpr hk), rf10_2]; rfl
      exact ⟨_, f10 _, rfl, t, k, h1, h2, h3, h4.up (by decide), h5, h6, h7, h8⟩
  · have f9 : f_X9_street x1 x2 (I 1 5) (I 1 6) (A 2) (A 3) (A 4) (A 5) (A 6) (A 64) = some (-1, upd (A 64) 1 (A 64 1 + 1)) := by
      unfold f_X9_street
      rw [h9, Option.bind_some, if_pos (b2_0.mpr hx), rf9_1]; rfl
    refine ⟨_, f9, ?_⟩
    have f10 : ∀ q : Nat → Int32, f_X10_street x1 x2 (A 66) q = some (-1, upd q 1 (q 1 + 1)) := fun q => by
      unfold f_X10_street
      rw [h10, Option.bind_some, if_pos (b2_0.mpr hx), rf10_1]; rfl
    exact ⟨_, f10 _, rfl, t, k, h1, h2, h3, h4.up (by decide), h5, h6, h7, h8⟩
