/-! the class's table, when every step is walked from its end to its beginning (written by genback.py out of parts 7a .. 7d) -/
def flp (e : Nat) : Nat := if e % 2 = 0 then e + 1 else e - 1
theorem flp_2 (e : Nat) : flp e / 2 = e / 2 := by unfold flp; split <;> omega
theorem flp_lt {t : Nat → Nat} {e : Nat} (he : e < 2 * t 49) : flp e < 2 * t 49 := by unfold flp; split <;> omega
theorem cW_1 (t : Nat → Nat) (e : Nat) : cW t 1 e = sC t (flp e) := rfl
theorem cW_small {t : Nat → Nat} (hv : vT t) {e : Nat} (he : e < 2 * t 49) : cW t 1 e = 1000000 ∨ (1 ≤ cW t 1 e ∧ cW t 1 e ≤ 216) := by rw [cW_1]; exact sC_small hv (flp_lt he)
/-- IsV, for any costs -/
def IsVC (t C : Nat → Nat) (h U : Nat) (V : Nat → Nat → Nat) : Prop :=
  (∀ S c, S &&& U = S → c < 6 → V S c ≤ 1000000) ∧ V 0 h = 0 ∧
  (∀ S e, S &&& U = S → e < 2 * t 49 → C e < 1000000 → V S (sA t e) ≤ C e + V (clr S (e / 2)) (sE t e)) ∧
  ∀ S c, S &&& U = S → c < 6 → V S c < 1000000 → (S = 0 ∧ c = h) ∨ ∃ e, e < 2 * t 49 ∧ C e < 1000000 ∧ sA t e = c ∧ V S c = C e + V (clr S (e / 2)) (sE t e)
def CV_r (t : Nat → Nat) (h U : Nat) (V F : Nat → Nat → Nat) : Prop :=
  (∀ c, c < 6 → V 0 c = dst t (cW t 1) (6 * c + h)) ∧
  ∀ S, S &&& U = S → S ≠ 0 → (∀ e, e < 2 * t 49 → S.testBit (e / 2) = true → F S (sA t e) ≤ cW t 1 e + V (clr S (e / 2)) (sE t e)) ∧
    (∀ c, c < 6 → F S c < 1000000 → ∃ e, e < 2 * t 49 ∧ S.testBit (e / 2) = true ∧ sA t e = c ∧ F S c = cW t 1 e + V (clr S (e / 2)) (sE t e)) ∧
    (∀ c d, c < 6 → d < 6 → V S c ≤ dst t (cW t 1) (6 * c + d) + F S d) ∧
    (∀ c, c < 6 → V S c < 1000000 → ∃ d, d < 6 ∧ V S c = dst t (cW t 1) (6 * c + d) + F S d) ∧
    ∀ c, c < 6 → V S c ≤ 1000000
theorem CV_le_r {t : Nat → Nat} {h U : Nat} {V F : Nat → Nat → Nat} (hh : h < 6) (hV : CV_r t h U V F) {S c : Nat} (hS : S &&& U = S) (hc : c < 6) : V S c ≤ 1000000 := by
  by_cases e : S = 0
  · subst e; rw [hV.1 c hc]; exact Bd_dst t (cW t 1) _ (by omega)
  · exact (hV.2 S hS e).2.2.2.2 c hc
theorem CV_tri_r {t : Nat → Nat} {h U : Nat} {V F : Nat → Nat → Nat} (hh : h < 6) (hV : CV_r t h U V F) {S c d : Nat} (hS : S &&& U = S) (hc : c < 6) (hd : d < 6) : V S c ≤ dst t (cW t 1) (6 * c + d) + V S d := by
  have tri := (dst_tri t (cW t 1)).2.2
  by_cases e : S = 0
  · subst e
    rw [hV.1 c hc, hV.1 d hd]
    exact tri c d h hc hd hh
  · obtain ⟨f1, f2, f3, f4, f5⟩ := hV.2 S hS e
    by_cases g : V S d < 1000000
    · obtain ⟨c', g1, g2⟩ := f4 d hd g
      have a := f3 c c' hc g1
      have b := tri c d c' hc hd g1
      omega
    · have := f5 c hc
      omega
theorem CV_step_r {t : Nat → Nat} (hv : vT t) {h U : Nat} {V F : Nat → Nat → Nat} (hh : h < 6) (hU : U < 256) (hV : CV_r t h U V F) {S e : Nat} (hS : S &&& U = S) (he : e < 2 * t 49) : V S (sA t e) ≤ cW t 1 e + V (clr S (e / 2)) (sE t e) := by
  have la := sA_lt hv he
  have le := sE_lt hv he
  by_cases b : S.testBit (e / 2) = true
  · have hS0 : S ≠ 0 := fun z => by subst z; rw [Nat.zero_testBit] at b; cases b
    obtain ⟨f1, f2, f3, f4, f5⟩ := hV.2 S hS hS0
    have a1 := f1 e he b
    have a2 := f3 (sA t e) (sA t e) la la
    rw [(dst_tri t (cW t 1)).1 _ la] at a2
    omega
  · have hcl : clr S (e / 2) = S := if_neg b
    rw [hcl]
    have a1 := CV_tri_r hh hV hS la le
    have a2 := (dst_tri t (cW t 1)).2.1 (sA t e) (sE t e) la le
    have a3 := edN_at t (cW t 1) he
    omega
theorem CV_mono_r {t : Nat → Nat} (hv : vT t) {h U : Nat} {V F : Nat → Nat → Nat} (hh : h < 6) (hU : U < 256) (hV : CV_r t h U V F) : ∀ n S s c, S < n → S &&& U = S → s < 8 → c < 6 → V (clr S s) c ≤ V S c
  | 0, S, _, _, hn, _, _, _ => absurd hn (by omega)
  | n + 1, S, s, c, hn, hS, hs, hc => by
    have h8 := hv.1
    have hS8 := sub_lt hS hU
    by_cases b : S.testBit s = true
    · have hS0 : S ≠ 0 := fun z => by subst z; rw [Nat.zero_testBit] at b; cases b
      have hcS := clr_sub hS hU hs
      by_cases g : V S c < 1000000
      · obtain ⟨f1, f2, f3, f4, f5⟩ := hV.2 S hS hS0
        obtain ⟨d, d1, d2⟩ := f4 c hc g
        obtain ⟨e, e1, e2, e3, e4⟩ := f2 d d1 (by omega)
        have hes : e / 2 < 8 := by omega
        have a1 := CV_tri_r hh hV hcS hc d1
        have a2 := CV_step_r hv hh hU hV hcS e1
        rw [e3] at a2
        by_cases q : e / 2 = s
        · rw [q, clr_self hS8 hs] at a2
          rw [q] at e4
          omega
        · have a3 := CV_mono_r hv hh hU hV n (clr S (e / 2)) s (sE t e) (by have := clr_low e2; omega) (clr_sub hS hU hes) hs (sE_lt hv e1)
          rw [clr_comm hS8 hes hs] at a3
          omega
      · have := CV_le_r hh hV hcS hc
        have := CV_le_r hh hV hS hc
        omega
    · rw [show clr S s = S from if_neg b]; exact Nat.le_refl _
theorem CV_IsV_r {t : Nat → Nat} (hv : vT t) {h U : Nat} {V F : Nat → Nat → Nat} (hh : h < 6) (hU : U < 256) (hV : CV_r t h U V F) : IsVC t (cW t 1) h U V := by
  have h8 := hv.1
  have z := (dst_tri t (cW t 1)).1
  refine ⟨fun S c hS hc => CV_le_r hh hV hS hc, ?_, fun S e hS he _ => CV_step_r hv hh hU hV hS he, fun S c hS hc hlt => ?_⟩
  · rw [hV.1 h hh]; exact z h hh
  · have hS8 := sub_lt hS hU
    by_cases e0 : S = 0
    · subst e0
      by_cases q : c = h
      · exact Or.inl ⟨rfl, q⟩
      · rw [hV.1 c hc] at hlt
        obtain ⟨e, e1, e2, e3, e4⟩ := dst_next hv hc hh q hlt
        refine Or.inr ⟨e, e1, e2, e3, ?_⟩
        have hcl : clr 0 (e / 2) = 0 := if_neg (by rw [Nat.zero_testBit]; decide)
        rw [hcl, hV.1 c hc, hV.1 _ (sE_lt hv e1)]
        exact e4.symm
    · obtain ⟨f1, f2, f3, f4, f5⟩ := hV.2 S hS e0
      obtain ⟨d, d1, d2⟩ := f4 c hc hlt
      by_cases q : c = d
      · subst q
        rw [z c hc] at d2
        obtain ⟨e, e1, e2, e3, e4⟩ := f2 c hc (by omega)
        exact Or.inr ⟨e, e1, by omega, e3, by omega⟩
      · obtain ⟨e, e1, e2, e3, e4⟩ := dst_next hv hc d1 q (show dst t (cW t 1) (6 * c + d) < 1000000 by omega)
        refine Or.inr ⟨e, e1, e2, e3, ?_⟩
        have le := sE_lt hv e1
        have a1 := CV_step_r hv hh hU hV hS e1
        rw [e3] at a1
        have a2 := CV_mono_r hv hh hU hV _ S (e / 2) (sE t e) (Nat.lt_succ_self S) hS (by omega) le
        have a3 := f3 (sE t e) d le d1
        omega
def FS_r (t : Nat → Nat) (S : Nat) (V : Nat → Nat → Nat) (m : Nat) (G : Nat → Nat) : Prop :=
  (∀ c, c < 6 → G c ≤ 1000000) ∧ (∀ e, e < m → S.testBit (e / 2) = true → G (sA t e) ≤ cW t 1 e + V (clr S (e / 2)) (sE t e)) ∧ ∀ c, c < 6 → G c < 1000000 → ∃ e, e < m ∧ S.testBit (e / 2) = true ∧ sA t e = c ∧ G c = cW t 1 e + V (clr S (e / 2)) (sE t e)
theorem FS_step_r {t : Nat → Nat} (hv : vT t) {S m : Nat} {V : Nat → Nat → Nat} {G : Nat → Nat} (hm : m < 2 * t 49) (h : FS_r t S V m G) (hb : S.testBit (m / 2) = true) : FS_r t S V (m + 1) (setT G (sA t m) (if cW t 1 m + V (clr S (m / 2)) (sE t m) < G (sA t m) then cW t 1 m + V (clr S (m / 2)) (sE t m) else G (sA t m))) := by
  obtain ⟨h1, h2, h3⟩ := h
  have la := sA_lt hv hm
  refine ⟨fun c hc => ?_, fun e he hbe => ?_, fun c hc hlt => ?_⟩
  · have := h1 c hc
    by_cases q : c = sA t m
    · subst q; rw [setT_s]; split <;> omega
    · rw [setT_n q]; exact this
  · by_cases q : e = m
    · subst q; rw [setT_s]; split <;> omega
    · have := h2 e (by omega) hbe
      by_cases q2 : sA t e = sA t m
      · rw [q2] at this ⊢
        rw [setT_s]; split <;> omega
      · rw [setT_n q2]; exact this
  · by_cases q : c = sA t m
    · subst q
      rw [setT_s] at hlt ⊢
      split at hlt
      · rename_i g
        rw [if_pos g]
        exact ⟨m, by omega, hb, rfl, rfl⟩
      · rename_i g
        rw [if_neg g]
        obtain ⟨e, e1, e2, e3, e4⟩ := h3 _ hc hlt
        exact ⟨e, by omega, e2, e3, e4⟩
    · rw [setT_n q] at hlt ⊢
      obtain ⟨e, e1, e2, e3, e4⟩ := h3 c hc hlt
      exact ⟨e, by omega, e2, e3, e4⟩
theorem FS_skip_r {t : Nat → Nat} {S m : Nat} {V : Nat → Nat → Nat} {G : Nat → Nat} (h : FS_r t S V m G) (hb : S.testBit (m / 2) = false) : FS_r t S V (m + 1) G := by
  obtain ⟨h1, h2, h3⟩ := h
  refine ⟨h1, fun e he hbe => ?_, fun c hc hlt => ?_⟩
  · by_cases q : e = m
    · subst q; rw [hb] at hbe; cases hbe
    · exact h2 e (by omega) hbe
  · obtain ⟨e, e1, e2, e3, e4⟩ := h3 c hc hlt
    exact ⟨e, by omega, e2, e3, e4⟩
theorem f6_measureFirst_r {t : Nat → Nat} {fr to on bk x cf : Nat → Int32} {sz : Int32} (hv : vT t) (hsz : sz = nI (t 49)) (hfr : ∀ s, s < t 49 → fr s = nI (t s)) (hto : ∀ s, s < t 49 → to s = nI (t (8 + s))) (hon : ∀ s, s < t 49 → on s = nI (cW t 1 (2 * s))) (hbk : ∀ s, s < t 49 → bk s = nI (cW t 1 (2 * s + 1))) {S : Nat} (hS : S < 256) (hok : ∀ s, s < 8 → S.testBit s = true → ∀ c, c < 6 → okc x (6 * clr S s + c)) {N : Nat} (hN : 100 ≤ N) : ∃ y G, f_X6_measureFirst N (nI S) sz fr to on bk x cf = some y ∧ (∀ c, c < 6 → y c = nI (G c)) ∧ FS_r t S (fun T c => Lf x (6 * T + c)) (2 * t 49) G := by
  have h8 := hv.1
  obtain ⟨y0, e0, q0⟩ := lp_cnt (b := fun s : Int32 × (Nat → Int32) => f_X6_measureFirst_b2 s.1 s.2) (fun i y => (nI i, y)) (fun i y => ∀ c, c < i → y c = nI 1000000) (fun y => ∀ c, c < 6 → y c = nI 1000000) 6 (fun i y hi hp => by
    refine ⟨upd y i (nI 1000000), ?_, fun c hc => ?_⟩
    · show f_X6_measureFirst_b2 (nI i) y = _
      unfold f_X6_measureFirst_b2
      rw [if_neg (show ¬ (6 : Int32) ≤ nI i from nI_ge (b := 6) hi (by decide)), ga_ok hi (by decide), nI_clamp (by omega), nI_1]; rfl
    · by_cases e : c = i
      · subst e; rw [pk_us]
      · rw [pk_un e]; exact hp c (by omega)) (fun y hp => by
    refine ⟨y, ?_, hp⟩
    show f_X6_measureFirst_b2 (nI 6) y = _
    unfold f_X6_measureFirst_b2
    rw [if_pos (show (6 : Int32) ≤ nI 6 from nI_le (a := 6) (Nat.le_refl _) (by decide))]) 6 0 N cf (by omega) (by omega) (fun c hc => absurd hc (by omega))
  obtain ⟨y1, e1, G, q1, q2⟩ := lp_cnt (b := fun s : Int32 × (Nat → Int32) => f_X6_measureFirst_b24 sz s.1 s.2 (nI S) fr to on x bk) (fun i y => (nI i, y)) (fun i y => ∃ G, (∀ c, c < 6 → y c = nI (G c)) ∧ FS_r t S (fun T c => Lf x (6 * T + c)) (2 * i) G) (fun y => ∃ G, (∀ c, c < 6 → y c = nI (G c)) ∧ FS_r t S (fun T c => Lf x (6 * T + c)) (2 * t 49) G) (t 49) (fun i y hi hp => by
    obtain ⟨G, g1, g2⟩ := hp
    show ∃ y', f_X6_measureFirst_b24 sz (nI i) y (nI S) fr to on x bk = _ ∧ _
    have ho := hv.2.2.1 i hi
    unfold f_X6_measureFirst_b24
    rw [hsz, if_neg (nI_ge hi (by omega)), nI_1]
    by_cases b : S.testBit i = true
    · obtain ⟨c1, c2⟩ := clr_ok hS (show i < 8 by omega)
      have k1 := hok i (by omega) b (t (8 + i)) (by omega)
      have k2 := hok i (by omega) b (t i) (by omega)
      have s1 := cW_small hv (e := 2 * i) (by omega)
      have s2 := cW_small hv (e := 2 * i + 1) (by omega)
      have a1 := g2.1 (t i) (by omega)
      have a2 := g2.1 (t (8 + i)) (by omega)
      have st1 := FS_step_r hv (m := 2 * i) (by omega) g2 (by rw [show 2 * i / 2 = i by omega]; exact b)
      have st2 := FS_step_r hv (m := 2 * i + 1) (by omega) st1 (by rw [show (2 * i + 1) / 2 = i by omega]; exact b)
      rw [sA_0, sE_0, sA_1, sE_1, show 2 * i / 2 = i by omega, show (2 * i + 1) / 2 = i by omega, setT_n (show t (8 + i) ≠ t i by omega)] at st2
      rw [if_neg (fun z => by have := (bitI (by omega) (by omega)).mp z; rw [b] at this; cases this), nI_clamp (show i < 2 ^ 31 by omega), hfr i hi, hto i hi, hon i hi, hbk i hi, sh1 (by omega), clrI S hS i (by omega), six, six, nI_clamp (show t i < 2 ^ 31 by omega), nI_clamp (show t (8 + i) < 2 ^ 31 by omega), nI_clamp (show 6 * clr S i + t (8 + i) < 2 ^ 31 by omega), nI_clamp (show 6 * clr S i + t i < 2 ^ 31 by omega), pk_un (show t (8 + i) ≠ t i by omega), k1.2, k2.2, g1 _ (show t i < 6 by omega), g1 _ (show t (8 + i) < 6 by omega), nI_add, nI_add, minI (by have := k1.1; omega) (by omega), minI (by have := k2.1; omega) (by omega)]
      rw [ga_ok (by omega) (by decide), ga_ok (by omega) (by decide), ga_ok (by omega) (by decide), ga_ok (by omega) (by decide), ga_ok (by omega) (by decide), ga_ok (by omega) (by decide), ga_ok (by omega) (by decide), ga_ok (by omega) (by decide), ga_ok (by omega) (by decide), ga_ok (by omega) (by decide)]
      refine ⟨_, rfl, _, fun c hc => ?_, st2⟩
      unfold upd setT
      by_cases w1 : c = t (8 + i)
      · rw [if_pos w1, if_pos w1]
      · rw [if_neg w1, if_neg w1]
        by_cases w2 : c = t i
        · rw [if_pos w2, if_pos w2]
        · rw [if_neg w2, if_neg w2]; exact g1 c hc
    · have b' : S.testBit i = false := by cases hh : S.testBit i with | false => rfl | true => exact absurd hh b
      rw [if_pos ((bitI (by omega) (by omega)).mpr b')]
      refine ⟨y, rfl, G, g1, ?_⟩
      have := FS_skip_r (m := 2 * i) g2 (by rw [show 2 * i / 2 = i by omega]; exact b')
      exact FS_skip_r (m := 2 * i + 1) this (by rw [show (2 * i + 1) / 2 = i by omega]; exact b')) (fun y hp => by
    refine ⟨y, ?_, hp⟩
    show f_X6_measureFirst_b24 sz (nI (t 49)) y (nI S) fr to on x bk = _
    unfold f_X6_measureFirst_b24
    rw [hsz, if_pos (nI_le (Nat.le_refl _) (by omega))]) (t 49) 0 N y0 (by omega) (by omega) ⟨fun _ => 1000000, q0, fun _ _ => Nat.le_refl _, fun e he => absurd he (by omega), fun c _ hlt => absurd hlt (show ¬ (1000000 : Nat) < 1000000 by omega)⟩
  refine ⟨y1, G, ?_, q1, q2⟩
  have e0' : lp (fun s_2 => f_X6_measureFirst_b2 s_2.1 s_2.2) N ((0 : Int32), cf) = some y0 := e0
  have e1' : lp (fun s_24 => f_X6_measureFirst_b24 sz s_24.1 s_24.2 (nI S) fr to on x bk) N ((0 : Int32), y0) = some y1 := e1
  unfold f_X6_measureFirst
  rw [e0', Option.bind_some, e1', Option.bind_some]
def CS_r (t : Nat → Nat) (x : Nat → Int32) (S : Nat) : Prop := (∀ c, c < 6 → okc x (6 * S + c)) ∧ ∃ G, FS_r t S (fun T c => Lf x (6 * T + c)) (2 * t 49) G ∧ ∀ c, c < 6 → Lf x (6 * S + c) = mS (dst t (cW t 1)) G c 6
theorem FS_cong_r {t : Nat → Nat} (hv : vT t) {S m : Nat} {V W : Nat → Nat → Nat} {G : Nat → Nat} (hm : m ≤ 2 * t 49) (h : FS_r t S V m G) (hVW : ∀ s c, s < 8 → c < 6 → S.testBit s = true → V (clr S s) c = W (clr S s) c) : FS_r t S W m G := by
  have h8 := hv.1
  obtain ⟨h1, h2, h3⟩ := h
  refine ⟨h1, fun e he hb => ?_, fun c hc hlt => ?_⟩
  · rw [← hVW _ _ (by omega) (sE_lt hv (by omega)) hb]; exact h2 e he hb
  · obtain ⟨e, e1, e2, e3, e4⟩ := h3 c hc hlt
    exact ⟨e, e1, e2, e3, by rw [← hVW _ _ (by omega) (sE_lt hv (by omega)) e2]; exact e4⟩
def Z0_r (t : Nat → Nat) (h : Nat) (x : Nat → Int32) : Prop := ∀ c, c < 6 → okc x (6 * 0 + c) ∧ Lf x (6 * 0 + c) = dst t (cW t 1) (6 * c + h)
theorem CS_keep_r {t : Nat → Nat} (hv : vT t) {x x' : Nat → Int32} {S k : Nat} (hS8 : S < 256) (hSk : S < k) (hx : ∀ i, ¬ (6 * k ≤ i ∧ i < 6 * k + 6) → x' i = x i) (h : CS_r t x S) : CS_r t x' S := by
  have e1 : ∀ T c, T < k → c < 6 → x' (6 * T + c) = x (6 * T + c) := fun T c hT hc => hx _ (by omega)
  have e2 : ∀ T c, T < k → c < 6 → Lf x' (6 * T + c) = Lf x (6 * T + c) := fun T c hT hc => by unfold Lf; rw [e1 T c hT hc]
  obtain ⟨h1, G, h2, h3⟩ := h
  refine ⟨fun c hc => ?_, G, FS_cong_r hv (Nat.le_refl _) h2 (fun s c hs hc hb => ?_), fun c hc => ?_⟩
  · unfold okc; rw [e2 S c hSk hc, e1 S c hSk hc]; exact h1 c hc
  · have := clr_le (S := S) (s := s)
    exact (e2 _ _ (by omega) hc).symm
  · rw [e2 S c hSk hc]; exact h3 c hc
theorem f6_measure_r {t : Nat → Nat} {fr to ln kd fg on bk le x cf : Nat → Int32} {cl sz hm du : Int32} (hv : vT t) (hc : cR t fr to ln kd fg cl sz hm) (hon : ∀ s, s < t 49 → on s = nI (cW t 1 (2 * s))) (hbk : ∀ s, s < t 49 → bk s = nI (cW t 1 (2 * s + 1))) (hle : RI le (dst t (cW t 1))) {N : Nat} (hN : 1000 ≤ N) : ∃ y g, f_X6_measure N du cl sz hm fr to kd on bk le x cf = some (nI (dueB t (t 49)), y, g) ∧ Z0_r t (t 48) y ∧ ∀ S, S &&& dueB t (t 49) = S → S ≠ 0 → CS_r t y S := by
  have h8 := hv.1
  have h48 := hv.2.1
  have hU := dueB_lt hv
  have hB := Bd_dst t (cW t 1)
  obtain ⟨y0, e0, q0⟩ := lp_cnt (b := fun s : Int32 × (Nat → Int32) => f_X6_measure_b16 s.1 s.2 hm le) (fun i z => (nI i, z)) (fun i z => ∀ c, c < i → z c = nI (dst t (cW t 1) (6 * c + t 48))) (fun z => ∀ c, c < 6 → z c = nI (dst t (cW t 1) (6 * c + t 48))) 6 (fun i z hi hp => by
    refine ⟨upd z i (nI (dst t (cW t 1) (6 * i + t 48))), ?_, fun c hcc => ?_⟩
    · show f_X6_measure_b16 (nI i) z hm le = _
      unfold f_X6_measure_b16
      rw [if_neg (show ¬ (6 : Int32) ≤ nI i from nI_ge (b := 6) hi (by decide)), hc.2.1, f8_between hle hi h48, Option.bind_some, ga_ok (by omega) (by decide), nI_clamp (by omega), nI_1]
    · by_cases e : c = i
      · subst e; rw [pk_us]
      · rw [pk_un e]; exact hp c (by omega)) (fun z hp => by
    refine ⟨z, ?_, hp⟩
    show f_X6_measure_b16 (nI 6) z hm le = _
    unfold f_X6_measure_b16
    rw [if_pos (show (6 : Int32) ≤ nI 6 from nI_le (a := 6) (Nat.le_refl _) (by decide))]) 6 0 N x (by omega) (by omega) (fun c hcc => absurd hcc (by omega))
  have z0 : Z0_r t (t 48) y0 := fun c hcc => by
    have := q0 c hcc
    rw [show c = 6 * 0 + c by omega] at this
    have r := okc_of this (by have := hB (6 * c + t 48) (by omega); rw [show 6 * 0 + c = c by omega]; exact this)
    rw [show 6 * (6 * 0 + c) = 6 * c by omega] at r
    exact r
  obtain ⟨⟨y1, g1⟩, e1, q1, q2⟩ := lp_cnt (b := fun s : Int32 × (Nat → Int32) × (Nat → Int32) => f_X6_measure_b54 N (nI (dueB t (t 49))) s.1 s.2.1 s.2.2 sz fr to on bk le) (fun i z => (nI (1 + i), z)) (fun i z => Z0_r t (t 48) z.1 ∧ ∀ S, S &&& dueB t (t 49) = S → S ≠ 0 → S < 1 + i → CS_r t z.1 S) (fun z => Z0_r t (t 48) z.1 ∧ ∀ S, S &&& dueB t (t 49) = S → S ≠ 0 → CS_r t z.1 S) (dueB t (t 49)) (fun i z hi hp => by
    obtain ⟨y, g⟩ := z
    obtain ⟨p1, p2⟩ := hp
    dsimp only at p1 p2
    show ∃ z', f_X6_measure_b54 N (nI (dueB t (t 49))) (nI (1 + i)) y g sz fr to on bk le = some (Sum.inl (nI (1 + (i + 1)), z')) ∧ _
    have hk8 : 1 + i < 256 := by omega
    unfold f_X6_measure_b54
    rw [if_neg (nI_nlt (by omega) (by omega)), nI_1]
    by_cases e : (1 + i) &&& dueB t (t 49) = 1 + i
    · have okk : ∀ s, s < 8 → (1 + i).testBit s = true → ∀ c, c < 6 → okc y (6 * clr (1 + i) s + c) := fun s hs hb c hcc => by
        have hlo := clr_low hb
        by_cases w : clr (1 + i) s = 0
        · rw [w]; exact (p1 c hcc).1
        · exact (p2 _ (clr_sub e hU hs) w hlo).1 c hcc
      obtain ⟨g', G, m1, m2, m3⟩ := f6_measureFirst_r (x := y) (cf := g) hv hc.1 (fun s hs => (hc.2.2.2 s hs).1) (fun s hs => (hc.2.2.2 s hs).2.1) hon hbk hk8 okk (show 100 ≤ N by omega)
      obtain ⟨y', n1, n2, n3⟩ := f6_measureSet (x := y) hle hB m2 m3.1 hk8 (show 100 ≤ N by omega)
      rw [if_pos ((sub_test hk8).mpr e), m1, Option.bind_some, n1, Option.bind_some]
      refine ⟨(y', g'), rfl, fun c hcc => ?_, fun S hS hS0 hlt => ?_⟩
      · have a := p1 c hcc
        have b : y' (6 * 0 + c) = y (6 * 0 + c) := n2 _ (by omega)
        show okc y' _ ∧ Lf y' _ = _
        unfold okc Lf at a ⊢
        rw [b]; exact a
      · show CS_r t y' S
        by_cases w : S = 1 + i
        · subst w
          have o : ∀ c, c < 6 → okc y' (6 * (1 + i) + c) ∧ Lf y' (6 * (1 + i) + c) = mS (dst t (cW t 1)) G c 6 := fun c hcc => okc_of (n3 c hcc) (mS_le _ _ _ _).1
          refine ⟨fun c hcc => (o c hcc).1, G, FS_cong_r hv (Nat.le_refl _) m3 (fun s c hs hcc hb => ?_), fun c hcc => (o c hcc).2⟩
          have hlo := clr_low hb
          show Lf y _ = Lf y' _
          unfold Lf
          rw [n2 _ (by omega)]
        · exact CS_keep_r hv (sub_lt hS hU) (show S < 1 + i by omega) n2 (p2 S hS hS0 (by omega))
    · rw [if_neg (fun w => e ((sub_test hk8).mp w))]
      refine ⟨(y, g), rfl, p1, fun S hS hS0 hlt => ?_⟩
      by_cases w : S = 1 + i
      · exact absurd (w ▸ hS) e
      · exact p2 S hS hS0 (by omega)) (fun z hp => by
    refine ⟨z, ?_, hp.1, fun S hS hS0 => hp.2 S hS hS0 (by have := Nat.and_le_right (n := S) (m := dueB t (t 49)); omega)⟩
    show f_X6_measure_b54 N (nI (dueB t (t 49))) (nI (1 + dueB t (t 49))) z.1 z.2 sz fr to on bk le = _
    unfold f_X6_measure_b54
    rw [if_pos (nI_lt (by omega) (by omega))]) (dueB t (t 49)) 0 N (y0, cf) (by omega) (by omega) ⟨z0, fun S _ hS0 hlt => absurd hlt (by omega)⟩
  refine ⟨y1, g1, ?_, q1, q2⟩
  have e0' : lp (fun s_16 => f_X6_measure_b16 s_16.1 s_16.2 hm le) N ((0 : Int32), x) = some y0 := e0
  have e1' : lp (fun s_54 => f_X6_measure_b54 N (nI (dueB t (t 49))) s_54.1 s_54.2.1 s_54.2.2 sz fr to on bk le) N ((1 : Int32), y0, cf) = some (y1, g1) := e1
  unfold f_X6_measure
  rw [f7_dueStreets hv hc (by omega), Option.bind_some, e0', Option.bind_some, e1', Option.bind_some]
theorem CS_IsV_r {t : Nat → Nat} (hv : vT t) {y : Nat → Int32} (hz : Z0_r t (t 48) y) (hs : ∀ S, S &&& dueB t (t 49) = S → S ≠ 0 → CS_r t y S) : IsVC t (cW t 1) (t 48) (dueB t (t 49)) (fun S c => Lf y (6 * S + c)) := by
  have ch : ∀ S, ∃ G, S &&& dueB t (t 49) = S → S ≠ 0 → FS_r t S (fun T c => Lf y (6 * T + c)) (2 * t 49) G ∧ ∀ c, c < 6 → Lf y (6 * S + c) = mS (dst t (cW t 1)) G c 6 := fun S => by
    by_cases a : S &&& dueB t (t 49) = S ∧ S ≠ 0
    · obtain ⟨_, G, g⟩ := hs S a.1 a.2
      exact ⟨G, fun _ _ => g⟩
    · exact ⟨fun _ => 0, fun b c => absurd ⟨b, c⟩ a⟩
  refine CV_IsV_r (F := fun S => Classical.choose (ch S)) hv hv.2.1 (dueB_lt hv) ⟨fun c hc => (hz c hc).2, fun S hS hS0 => ?_⟩
  obtain ⟨⟨f1, f2, f3⟩, g⟩ := Classical.choose_spec (ch S) hS hS0
  refine ⟨f2, f3, fun c d hc hd => ?_, fun c hc hlt => ?_, fun c hc => ?_⟩
  · show Lf y (6 * S + c) ≤ _
    rw [g c hc]; exact (mS_le _ _ c 6).2 d hd
  · have hlt' : Lf y (6 * S + c) < 1000000 := hlt
    show ∃ d, d < 6 ∧ Lf y (6 * S + c) = _
    rw [g c hc] at hlt' ⊢
    exact mS_ex _ _ c 6 hlt'
  · show Lf y (6 * S + c) ≤ _
    rw [g c hc]; exact (mS_le _ _ c 6).1
