/-! the first step of a least way -/
def NP (t C : Nat → Nat) (a b e : Nat) : Prop := C e < 1000000 ∧ sA t e = a ∧ C e + dst t C (6 * sE t e + b) = dst t C (6 * a + b)
def NS (t C : Nat → Nat) (a b e : Nat) : Prop := e < 2 * t 49 ∧ NP t C a b e ∧ ∀ f, f < e → ¬ NP t C a b f
theorem NS_ex {t C : Nat → Nat} (hv : vT t) {a b : Nat} (ha : a < 6) (hb : b < 6) (hab : a ≠ b) (hd : dst t C (6 * a + b) < 1000000) : ∃ e, NS t C a b e := by
  obtain ⟨e, h1, h2, h3, h4⟩ := dst_next hv ha hb hab hd
  obtain ⟨f, g1, g2⟩ := pk_least (NP t C a b) ⟨e, h2, h3, h4⟩
  refine ⟨f, ?_, g1, g2⟩
  rcases Nat.lt_or_ge e f with q | q
  · exact absurd ⟨h2, h3, h4⟩ (g2 e q)
  · omega
theorem st_of {t : Nat → Nat} (hv : vT t) {e a : Nat} (he : e < 2 * t 49) (ha : sA t e = a) : e = 2 * (e / 2) + (if t (e / 2) = a then 0 else 1) ∧ (t (e / 2) = a ↔ e % 2 = 0) := by
  have ho := hv.2.2.1 (e / 2) (by omega)
  unfold sA at ha
  split at ha
  · rename_i q
    rw [if_pos ha]; exact ⟨by omega, fun _ => q, fun _ => ha⟩
  · rename_i q
    have : ¬ t (e / 2) = a := by omega
    rw [if_neg this]; exact ⟨by omega, fun z => absurd z this, fun z => absurd z q⟩
theorem f8_costFrom {t C : Nat → Nat} {fr to on bk : Nat → Int32} (hv : vT t) (hfr : ∀ s, s < t 49 → fr s = nI (t s)) (hto : ∀ s, s < t 49 → to s = nI (t (8 + s))) (hon : ∀ s, s < t 49 → on s = nI (C (2 * s))) (hbk : ∀ s, s < t 49 → bk s = nI (C (2 * s + 1))) {s a : Nat} (hs : s < t 49) (ha : a < 6) : f_X8_costFrom (nI s) (nI a) fr to on bk = some (nI (if t s = a then C (2 * s) else if t (8 + s) = a then C (2 * s + 1) else 1000000)) := by
  have h8 := hv.1
  have ho := hv.2.2.1 s hs
  have j0 : nI (t s) = nI a ↔ t s = a := nI_eq (by omega) (by omega)
  have j8 : nI (t (8 + s)) = nI a ↔ t (8 + s) = a := nI_eq (by omega) (by omega)
  unfold f_X8_costFrom
  rw [nI_clamp (by omega), hfr s hs, hto s hs, hon s hs, hbk s hs]
  simp only [ga_ok (show s < 8 by omega) (show 8 < 2 ^ 31 by decide), j0, j8]
  split
  · rfl
  · split
    · rfl
    · rfl
theorem f7_otherEnd {t : Nat → Nat} {fr to : Nat → Int32} (hv : vT t) (hfr : ∀ s, s < t 49 → fr s = nI (t s)) (hto : ∀ s, s < t 49 → to s = nI (t (8 + s))) {s a : Nat} (hs : s < t 49) (ha : a < 6) : f_X7_otherEnd (nI s) (nI a) fr to = some (nI (if t s = a then t (8 + s) else t s)) := by
  have h8 := hv.1
  have ho := hv.2.2.1 s hs
  have j0 : nI (t s) = nI a ↔ t s = a := nI_eq (by omega) (by omega)
  unfold f_X7_otherEnd
  rw [nI_clamp (by omega), hfr s hs, hto s hs]
  simp only [ga_ok (show s < 8 by omega) (show 8 < 2 ^ 31 by decide), j0]
  split <;> rfl
theorem f8_firstOf {t C : Nat → Nat} {fr to on bk x : Nat → Int32} {sz : Int32} (hv : vT t) (hsz : sz = nI (t 49)) (hfr : ∀ s, s < t 49 → fr s = nI (t s)) (hto : ∀ s, s < t 49 → to s = nI (t (8 + s))) (hon : ∀ s, s < t 49 → on s = nI (C (2 * s))) (hbk : ∀ s, s < t 49 → bk s = nI (C (2 * s + 1))) (hC : ∀ e, e < 2 * t 49 → C e ≤ 1000000) (hx : RI x (dst t C)) {a b e : Nat} (ha : a < 6) (hb : b < 6) (hab : a ≠ b) (hd : dst t C (6 * a + b) < 1000000) (he : NS t C a b e) {N : Nat} (hN : 100 ≤ N) : f_X8_firstOf N (nI a) (nI b) sz fr to on bk x = some (nI (e / 2)) := by
  have h8 := hv.1
  obtain ⟨e1, e2, e3⟩ := he
  have key : ∀ s, s < t 49 → ∀ g, sA t g = a → g / 2 = s → g < 2 * t 49 → f_X8_firstOf_b24 sz (nI s) (nI a) fr to on bk (nI b) x (nI (dst t C (6 * a + b))) = if C g < 1000000 ∧ C g + dst t C (6 * sE t g + b) = dst t C (6 * a + b) then some (.inr (.inr (nI s))) else some (.inl (nI (s + 1))) := fun s hs g hg hgs hg2 => by
    have ho := hv.2.2.1 s hs
    obtain ⟨q1, q2⟩ := st_of hv hg2 hg
    rw [hgs] at q1 q2
    have cf : (if t s = a then C (2 * s) else if t (8 + s) = a then C (2 * s + 1) else 1000000) = C g := by
      by_cases z : t s = a
      · rw [if_pos z] at q1 ⊢; congr 1; omega
      · rw [if_neg z] at q1 ⊢
        have : t (8 + s) = a := by
          unfold sA at hg; rw [if_neg (fun w => z (q2.mpr w)), hgs] at hg; exact hg
        rw [if_pos this]; congr 1; omega
    have ce : (if t s = a then t (8 + s) else t s) = sE t g := by
      unfold sE
      rw [hgs]
      by_cases z : t s = a
      · rw [if_pos z, if_pos (q2.mp z)]
      · rw [if_neg z, if_neg (fun w => z (q2.mpr w))]
    have hCg := hC g hg2
    have hle := sE_lt hv hg2
    have hb1 := Bd_dst t C (6 * sE t g + b) (by omega)
    unfold f_X8_firstOf_b24
    rw [hsz, if_neg (nI_ge hs (by omega)), f8_costFrom hv hfr hto hon hbk hs ha, Option.bind_some, cf, f7_otherEnd hv hfr hto hs ha, Option.bind_some, ce, f8_between hx hle hb, Option.bind_some, nI_add, nI_1]
    by_cases z : C g < 1000000
    · rw [if_neg (show ¬ (1000000 : Int32) ≤ nI (C g) from nI_ge (b := 1000000) z (by decide))]
      by_cases w : C g + dst t C (6 * sE t g + b) = dst t C (6 * a + b)
      · rw [if_pos (by rw [w]), if_pos ⟨z, w⟩]
      · rw [if_neg (fun u => w ((nI_eq (by omega) (by omega)).mp u)), if_neg (fun u => w u.2)]
    · rw [if_pos (show (1000000 : Int32) ≤ nI (C g) from nI_le (a := 1000000) (by omega) (by omega)), if_neg (fun u => z u.1)]
  have hl := lp_seq (b := fun s => f_X8_firstOf_b24 sz s (nI a) fr to on bk (nI b) x (nI (dst t C (6 * a + b)))) (fun i => nI i) (Sum.inr (nI (e / 2))) (e / 2) (fun i hi => by
    have hin : i < t 49 := by omega
    have ho := hv.2.2.1 i hin
    show f_X8_firstOf_b24 sz (nI i) (nI a) fr to on bk (nI b) x _ = _
    by_cases z : t i = a
    · have hg : sA t (2 * i) = a := by rw [sA_0]; exact z
      rw [key i hin (2 * i) hg (by omega) (by omega), if_neg (fun u => e3 (2 * i) (by omega) ⟨u.1, hg, u.2⟩)]
    · by_cases w : t (8 + i) = a
      · have hg : sA t (2 * i + 1) = a := by rw [sA_1]; exact w
        rw [key i hin (2 * i + 1) hg (by omega) (by omega), if_neg (fun u => e3 (2 * i + 1) (by omega) ⟨u.1, hg, u.2⟩)]
      · unfold f_X8_firstOf_b24
        rw [hsz, if_neg (nI_ge hin (by omega)), f8_costFrom hv hfr hto hon hbk hin ha, Option.bind_some, if_neg z, if_neg w, if_pos (show (1000000 : Int32) ≤ nI 1000000 from nI_le (a := 1000000) (Nat.le_refl _) (by decide)), nI_1]) (by
    show f_X8_firstOf_b24 sz (nI (e / 2)) (nI a) fr to on bk (nI b) x _ = _
    rw [key (e / 2) (by omega) e e2.2.1 rfl e1, if_pos ⟨e2.1, e2.2.2⟩]) (e / 2) 0 N (by omega) (by omega)
  have hl' : lp (fun s_24 => f_X8_firstOf_b24 sz s_24 (nI a) fr to on bk (nI b) x (nI (dst t C (6 * a + b)))) N (0 : Int32) = some (Sum.inr (nI (e / 2))) := hl
  unfold f_X8_firstOf
  rw [f8_between hx ha hb, Option.bind_some, if_neg (fun z => hab ((nI_eq (by omega) (by omega)).mp z)), if_pos (show nI (dst t C (6 * a + b)) < (1000000 : Int32) from nI_lt (b := 1000000) hd (by decide)), hl']; rfl
theorem f8_firstNot {t C : Nat → Nat} {fr to on bk x : Nat → Int32} {sz : Int32} (hx : RI x (dst t C)) {a b : Nat} (ha : a < 6) (hb : b < 6) (hno : a = b ∨ ¬ dst t C (6 * a + b) < 1000000) {N : Nat} : f_X8_firstOf N (nI a) (nI b) sz fr to on bk x = some (-9) := by
  have hb1 := Bd_dst t C (6 * a + b) (by omega)
  unfold f_X8_firstOf
  rw [f8_between hx ha hb, Option.bind_some]
  by_cases z : a = b
  · rw [if_pos (by rw [z])]
  · rw [if_neg (fun w => z ((nI_eq (by omega) (by omega)).mp w)), if_neg (show ¬ nI (dst t C (6 * a + b)) < (1000000 : Int32) from nI_nlt (b := 1000000) (by omega) (by omega))]
theorem f10_goes {t : Nat → Nat} {w : Nat → Int32} (hv : vT t) (h : mR t w) {e a : Nat} (he : e < 2 * t 49) (ha : a < 6) : f_X10_goes (nI e) (nI a) w = some (b2 (sA t e = a ∧ sC t e < 1000000)) := by
  have la := sA_lt hv he
  have hs := sC_small hv he
  unfold f_X10_goes
  rw [f10_begins hv h he, Option.bind_some, f10_cost hv h he, Option.bind_some]
  unfold b2
  by_cases z : sA t e = a
  · rw [if_pos (by rw [z])]
    by_cases w : sC t e < 1000000
    · rw [if_neg (fun u => by have := (toldC_neg (by omega)).mp u; omega), gb_1, if_pos ⟨z, w⟩]
    · rw [if_pos ((toldC_neg (by omega)).mpr (by omega)), gb_0, if_neg (fun u => w u.2)]
  · rw [if_neg (fun u => z ((nI_eq (by omega) (by omega)).mp u)), if_neg (fun u => z u.1)]
theorem f10_nextStep {t : Nat → Nat} {w x : Nat → Int32} (hv : vT t) (h : mR t w) (hx : RI x (dst t (sC t))) {a b e : Nat} (ha : a < 6) (hb : b < 6) (hab : a ≠ b) (hd : dst t (sC t) (6 * a + b) < 1000000) (he : NS t (sC t) a b e) {N : Nat} (hN : 100 ≤ N) : f_X10_nextStep N (nI a) (nI b) x w = some (nI e) := by
  have h8 := hv.1
  obtain ⟨e1, e2, e3⟩ := he
  have key : ∀ g, g < 2 * t 49 → f_X10_nextStep_b22 (nI g) (nI a) w (nI b) x = if sC t g < 1000000 ∧ sA t g = a ∧ sC t g + dst t (sC t) (6 * sE t g + b) = dst t (sC t) (6 * a + b) then some (.inr (nI g)) else some (.inl (nI (g + 1))) := fun g hg => by
    have hle := sE_lt hv hg
    have hsm := sC_small hv hg
    have hb1 := Bd_dst t (sC t) (6 * sE t g + b) (by omega)
    unfold f_X10_nextStep_b22
    rw [f10_goes hv h hg ha, Option.bind_some, nI_1]
    by_cases z : sA t g = a ∧ sC t g < 1000000
    · have tl : toldC (sC t g) = nI (sC t g) := if_pos z.2
      rw [if_neg (fun u => b2_0.mp u z), f10_cost hv h hg, Option.bind_some, f10_ends hv h hg, Option.bind_some, f10_dist hx hle hb, Option.bind_some, f10_dist hx ha hb, Option.bind_some, tl, nI_add]
      by_cases q : sC t g + dst t (sC t) (6 * sE t g + b) = dst t (sC t) (6 * a + b)
      · rw [if_pos (by rw [q]), if_pos ⟨z.2, z.1, q⟩]
      · rw [if_neg (fun u => q ((nI_eq (by omega) (by omega)).mp u)), if_neg (fun u => q u.2.2)]
    · rw [if_pos (b2_0.mpr z), if_neg (fun u => z ⟨u.2.1, u.1⟩)]
  have hl := lp_seq (b := fun s => f_X10_nextStep_b22 s (nI a) w (nI b) x) (fun i => nI i) (nI e) e (fun i hi => by
    show f_X10_nextStep_b22 (nI i) (nI a) w (nI b) x = _
    rw [key i (by omega)]; exact if_neg (e3 i hi)) (by
    show f_X10_nextStep_b22 (nI e) (nI a) w (nI b) x = _
    rw [key e e1]; exact if_pos e2) e 0 N (by omega) (by omega)
  have hl' : lp (fun s_22 => f_X10_nextStep_b22 s_22 (nI a) w (nI b) x) N (0 : Int32) = some (nI e) := hl
  unfold f_X10_nextStep
  rw [if_neg (fun z => hab ((nI_eq (by omega) (by omega)).mp z)), f10_dist hx ha hb, Option.bind_some, if_pos (show nI (dst t (sC t) (6 * a + b)) < (1000000 : Int32) from nI_lt (b := 1000000) hd (by decide)), hl']; rfl
theorem f10_nextNot {t : Nat → Nat} {w x : Nat → Int32} (hx : RI x (dst t (sC t))) {a b : Nat} (ha : a < 6) (hb : b < 6) (hno : a = b ∨ ¬ dst t (sC t) (6 * a + b) < 1000000) {N : Nat} : f_X10_nextStep N (nI a) (nI b) x w = some (-9) := by
  have hb1 := Bd_dst t (sC t) (6 * a + b) (by omega)
  unfold f_X10_nextStep
  by_cases z : a = b
  · rw [if_pos (by rw [z])]
  · rw [if_neg (fun w => z ((nI_eq (by omega) (by omega)).mp w)), f10_dist hx ha hb, Option.bind_some, if_neg (show ¬ nI (dst t (sC t) (6 * a + b)) < (1000000 : Int32) from nI_nlt (b := 1000000) (by omega) (by omega))]
theorem pm_next {A I : Nat → Nat → Int32} (hI : Inv A I) {N : Nat} (hN : 8000000 ≤ N) (x1 x2 : Int32) : ∃ oc, f_X9_next N x1 x2 (I 1 5) (I 1 6) (I 1 7) (A 2) (A 3) (A 4) (A 5) (A 6) (I 20 5) (I 20 6) (I 20 7) (A 21) (A 22) (A 23) (A 24) (A 25) (A 26) (A 27) (A 28) (A 64) = some oc ∧ ∃ om, f_X10_next N x1 x2 ((uA_X9_next A I oc) 66) ((uA_X9_next A I oc) 69) ((uA_X9_next A I oc) 72) = some om ∧ oc.1 = om.1 ∧ Inv (uA_X10_next (uA_X9_next A I oc) (uI_X9_next A I oc) om) (uI_X10_next (uA_X9_next A I oc) (uI_X9_next A I oc) om) := by
  obtain ⟨t, k, h1, h2, h3, h4, h5, h6, h7, h8⟩ := hI
  obtain ⟨hv, hc, hm⟩ := id h1
  by_cases hx : 0 ≤ x1.toInt ∧ x1.toInt < 6
  · by_cases hy : 0 ≤ x2.toInt ∧ x2.toInt < 6
    · obtain ⟨a, ha, rfl⟩ := cin_nI (n := 6) hx (by decide)
      obtain ⟨b, hb, rfl⟩ := cin_nI (n := 6) hy (by decide)
      obtain ⟨f3, t3, l3, k3, g3, on3, bk3, least3, e1, e2, e3, e4⟩ := f8_learn (f2 := A 21) (t2 := A 22) (l2 := A 23) (k2 := A 24) (g2 := A 25) (on := A 26) (bk := A 27) (least := A 28) (c2 := I 20 5) (s2 := I 20 6) (h2 := I 20 7) (b := 0) hv hc (by decide) (show 100 ≤ N by omega)
      have e1' : f_X8_learn N (0 : Int32) (I 20 5) (I 20 6) (I 20 7) (A 21) (A 22) (A 23) (A 24) (A 25) (A 26) (A 27) (A 28) (I 1 5) (I 1 6) (I 1 7) (A 2) (A 3) (A 4) (A 5) (A 6) = _ := e1
      rw [cW_0] at e4
      have hCs : ∀ e, e < 2 * t 49 → sC t e ≤ 1000000 := fun e he => by have := sC_small hv he; omega
      have key : ∃ v, f_X9_next N (nI a) (nI b) (I 1 5) (I 1 6) (I 1 7) (A 2) (A 3) (A 4) (A 5) (A 6) (I 20 5) (I 20 6) (I 20 7) (A 21) (A 22) (A 23) (A 24) (A 25) (A 26) (A 27) (A 28) (A 64) = some (v, I 1 5, I 1 6, I 1 7, f3, t3, l3, k3, g3, on3, bk3, least3, A 64) ∧ ∀ d r : Nat → Int32, ∃ x, f_X10_next N (nI a) (nI b) (A 66) r d = some (v, r, x) := by
        by_cases hno : a = b ∨ ¬ dst t (sC t) (6 * a + b) < 1000000
        · refine ⟨-9, ?_, fun d r => ?_⟩
          · unfold f_X9_next
            rw [f9_isCorner, Option.bind_some, if_neg (fun z => b2_0.mp z hx), f9_isCorner, Option.bind_some, if_neg (fun z => b2_0.mp z hy), e1', Option.bind_some]
            show (f_X8_firstOf N (nI a) (nI b) (I 1 6) f3 t3 on3 bk3 least3).bind _ = _
            rw [f8_firstNot e4 ha hb hno, Option.bind_some, if_neg (show ¬ (0 : Int32) ≤ -9 by decide)]
          · obtain ⟨x, m1, m2⟩ := f10_measures (d := d) hv hm (show 100 ≤ N by omega)
            refine ⟨x, ?_⟩
            unfold f_X10_next
            rw [f10_isCorner, Option.bind_some, if_neg (fun z => b2_0.mp z hx), f10_isCorner, Option.bind_some, if_neg (fun z => b2_0.mp z hy), m1, Option.bind_some, f10_nextNot m2 ha hb hno, Option.bind_some]
        · have hab : a ≠ b := fun z => hno (Or.inl z)
          have hd : dst t (sC t) (6 * a + b) < 1000000 := Classical.byContradiction (fun z => hno (Or.inr z))
          obtain ⟨e, he⟩ := NS_ex hv ha hb hab hd
          have h8' := hv.1
          have ho := hv.2.2.1 (e / 2) (by have := he.1; omega)
          refine ⟨nI e, ?_, fun d r => ?_⟩
          · unfold f_X9_next
            rw [f9_isCorner, Option.bind_some, if_neg (fun z => b2_0.mp z hx), f9_isCorner, Option.bind_some, if_neg (fun z => b2_0.mp z hy), e1', Option.bind_some]
            show (f_X8_firstOf N (nI a) (nI b) (I 1 6) f3 t3 on3 bk3 least3).bind _ = _
            rw [f8_firstOf (C := sC t) hv hc.1 (fun s hs => (e2.2.2.2 s hs).1) (fun s hs => (e2.2.2.2 s hs).2.1) (fun s hs => by have := (e3 s hs).1; rw [cW_0] at this; exact this) (fun s hs => by have := (e3 s hs).2; rw [cW_0] at this; exact this) hCs e4 ha hb hab hd he (by omega), Option.bind_some, if_pos (nI_pos' (by have := he.1; omega)), ga_ok (by have := he.1; omega) (by decide), nI_clamp (by have := he.1; omega), (hc.2.2.2 (e / 2) (by have := he.1; omega)).1]
            have j0 : nI (t (e / 2)) = nI a ↔ t (e / 2) = a := nI_eq (by omega) (by omega)
            have q := (st_of hv he.1 he.2.1.2.1).1
            have : (2 : Int32) * nI (e / 2) + (if nI (t (e / 2)) = nI a then (0 : Int32) else 1) = nI e := by
              simp only [j0]
              rw [show (2 : Int32) * nI (e / 2) = nI (2 * (e / 2)) from pk_mul 2 _]
              by_cases z : t (e / 2) = a
              · rw [if_pos z] at q ⊢; rw [iadd0]; congr 1; omega
              · rw [if_neg z] at q ⊢; rw [nI_1]; congr 1; omega
            rw [this]
          · obtain ⟨x, m1, m2⟩ := f10_measures (d := d) hv hm (show 100 ≤ N by omega)
            refine ⟨x, ?_⟩
            unfold f_X10_next
            rw [f10_isCorner, Option.bind_some, if_neg (fun z => b2_0.mp z hx), f10_isCorner, Option.bind_some, if_neg (fun z => b2_0.mp z hy), m1, Option.bind_some, f10_nextStep hv hm m2 ha hb hab hd he (by omega), Option.bind_some]
      obtain ⟨v, f9, f10⟩ := key
      refine ⟨_, f9, ?_⟩
      obtain ⟨x, f10⟩ := f10 (A 72) (A 69)
      exact ⟨_, f10, rfl, t, k, h1, h2, h3, h4, h5, h6, h7, h8⟩
    · have f9 : f_X9_next N x1 x2 (I 1 5) (I 1 6) (I 1 7) (A 2) (A 3) (A 4) (A 5) (A 6) (I 20 5) (I 20 6) (I 20 7) (A 21) (A 22) (A 23) (A 24) (A 25) (A 26) (A 27) (A 28) (A 64) = some (-1, I 20 5, I 20 6, I 20 7, A 21, A 22, A 23, A 24, A 25, A 26, A 27, A 28, upd (A 64) 1 (A 64 1 + 1)) := by
        unfold f_X9_next f_X9_next_j2
        rw [f9_isCorner, Option.bind_some, if_neg (fun z => b2_0.mp z hx), f9_isCorner, Option.bind_some, if_pos (b2_0.mpr hy), rf9_1]; rfl
      refine ⟨_, f9, ?_⟩
      have f10 : ∀ d r : Nat → Int32, f_X10_next N x1 x2 (A 66) r d = some (-1, upd r 1 (r 1 + 1), d) := fun d r => by
        unfold f_X10_next f_X10_next_j2
        rw [f10_isCorner, Option.bind_some, if_neg (fun z => b2_0.mp z hx), f10_isCorner, Option.bind_some, if_pos (b2_0.mpr hy), rf10_1]; rfl
      exact ⟨_, f10 _ _, rfl, t, k, h1, h2, h3, h4.up (by decide), h5, h6, h7, h8⟩
  · have f9 : f_X9_next N x1 x2 (I 1 5) (I 1 6) (I 1 7) (A 2) (A 3) (A 4) (A 5) (A 6) (I 20 5) (I 20 6) (I 20 7) (A 21) (A 22) (A 23) (A 24) (A 25) (A 26) (A 27) (A 28) (A 64) = some (-1, I 20 5, I 20 6, I 20 7, A 21, A 22, A 23, A 24, A 25, A 26, A 27, A 28, upd (A 64) 1 (A 64 1 + 1)) := by
      unfold f_X9_next f_X9_next_j2
      rw [f9_isCorner, Option.bind_some, if_pos (b2_0.mpr hx), rf9_1]; rfl
    refine ⟨_, f9, ?_⟩
    have f10 : ∀ d r : Nat → Int32, f_X10_next N x1 x2 (A 66) r d = some (-1, upd r 1 (r 1 + 1), d) := fun d r => by
      unfold f_X10_next f_X10_next_j2
      rw [f10_isCorner, Option.bind_some, if_pos (b2_0.mpr hx), rf10_1]; rfl
    exact ⟨_, f10 _ _, rfl, t, k, h1, h2, h3, h4.up (by decide), h5, h6, h7, h8⟩
