/-! the class's table holds the least costs -/
def Z0 (t : Nat → Nat) (h : Nat) (x : Nat → Int32) : Prop := ∀ c, c < 6 → okc x (6 * 0 + c) ∧ Lf x (6 * 0 + c) = dst t (sC t) (6 * c + h)
theorem okc_of {x : Nat → Int32} {i v : Nat} (h : x i = nI v) (hv : v ≤ 1000000) : okc x i ∧ Lf x i = v := by
  have e : Lf x i = v := by unfold Lf; rw [h, nI_clamp (by omega)]
  unfold okc
  rw [e]
  exact ⟨⟨hv, h⟩, rfl⟩
theorem CS_keep {t : Nat → Nat} (hv : vT t) {x x' : Nat → Int32} {S k : Nat} (hS8 : S < 256) (hSk : S < k) (hx : ∀ i, ¬ (6 * k ≤ i ∧ i < 6 * k + 6) → x' i = x i) (h : CS t x S) : CS t x' S := by
  have e1 : ∀ T c, T < k → c < 6 → x' (6 * T + c) = x (6 * T + c) := fun T c hT hc => hx _ (by omega)
  have e2 : ∀ T c, T < k → c < 6 → Lf x' (6 * T + c) = Lf x (6 * T + c) := fun T c hT hc => by unfold Lf; rw [e1 T c hT hc]
  obtain ⟨h1, G, h2, h3⟩ := h
  refine ⟨fun c hc => ?_, G, FS_cong hv (Nat.le_refl _) h2 (fun s c hs hc hb => ?_), fun c hc => ?_⟩
  · unfold okc; rw [e2 S c hSk hc, e1 S c hSk hc]; exact h1 c hc
  · have := clr_le (S := S) (s := s)
    exact (e2 _ _ (by omega) hc).symm
  · rw [e2 S c hSk hc]; exact h3 c hc
theorem f6_measure {t : Nat → Nat} {fr to ln kd fg on bk le x cf : Nat → Int32} {cl sz hm du : Int32} (hv : vT t) (hc : cR t fr to ln kd fg cl sz hm) (hon : ∀ s, s < t 49 → on s = nI (sC t (2 * s))) (hbk : ∀ s, s < t 49 → bk s = nI (sC t (2 * s + 1))) (hle : RI le (dst t (sC t))) {N : Nat} (hN : 1000 ≤ N) : ∃ y g, f_X6_measure N du cl sz hm fr to kd on bk le x cf = some (nI (dueB t (t 49)), y, g) ∧ Z0 t (t 48) y ∧ ∀ S, S &&& dueB t (t 49) = S → S ≠ 0 → CS t y S := by
  have h8 := hv.1
  have h48 := hv.2.1
  have hU := dueB_lt hv
  have hB := Bd_dst t (sC t)
  obtain ⟨y0, e0, q0⟩ := lp_cnt (b := fun s : Int32 × (Nat → Int32) => f_X6_measure_b16 s.1 s.2 hm le) (fun i z => (nI i, z)) (fun i z => ∀ c, c < i → z c = nI (dst t (sC t) (6 * c + t 48))) (fun z => ∀ c, c < 6 → z c = nI (dst t (sC t) (6 * c + t 48))) 6 (fun i z hi hp => by
    refine ⟨upd z i (nI (dst t (sC t) (6 * i + t 48))), ?_, fun c hcc => ?_⟩
    · show f_X6_measure_b16 (nI i) z hm le = _
      unfold f_X6_measure_b16
      rw [if_neg (show ¬ (6 : Int32) ≤ nI i from nI_ge (b := 6) hi (by decide)), hc.2.1, f8_between hle hi h48, Option.bind_some, ga_ok (by omega) (by decide), nI_clamp (by omega), nI_1]
    · by_cases e : c = i
      · subst e; rw [pk_us]
      · rw [pk_un e]; exact hp c (by omega)) (fun z hp => by
    refine ⟨z, ?_, hp⟩
    show f_X6_measure_b16 (nI 6) z hm le = _
    unfold f_X6_measure_b16
    rw [if_pos (show (6 : Int32) ≤ nI 6 from nI_le (a := 6) (Nat.le_refl _) (by decide))]) 6 0 N x (by omega) (by omega) (fun c hcc => absurd hcc (by omega))
  have z0 : Z0 t (t 48) y0 := fun c hcc => by
    have := q0 c hcc
    rw [show c = 6 * 0 + c by omega] at this
    have r := okc_of this (by have := hB (6 * c + t 48) (by omega); rw [show 6 * 0 + c = c by omega]; exact this)
    rw [show 6 * (6 * 0 + c) = 6 * c by omega] at r
    exact r
  obtain ⟨⟨y1, g1⟩, e1, q1, q2⟩ := lp_cnt (b := fun s : Int32 × (Nat → Int32) × (Nat → Int32) => f_X6_measure_b54 N (nI (dueB t (t 49))) s.1 s.2.1 s.2.2 sz fr to on bk le) (fun i z => (nI (1 + i), z)) (fun i z => Z0 t (t 48) z.1 ∧ ∀ S, S &&& dueB t (t 49) = S → S ≠ 0 → S < 1 + i → CS t z.1 S) (fun z => Z0 t (t 48) z.1 ∧ ∀ S, S &&& dueB t (t 49) = S → S ≠ 0 → CS t z.1 S) (dueB t (t 49)) (fun i z hi hp => by
    obtain ⟨y, g⟩ := z
    obtain ⟨p1, p2⟩ := hp
    dsimp only at p1 p2
    show ∃ z', f_X6_measure_b54 N (nI (dueB t (t 49))) (nI (1 + i)) y g sz fr to on bk le = some (Sum.inl (nI (1 + (i + 1)), z')) ∧ _
    have hk8 : 1 + i < 256 := by omega
    unfold f_X6_measure_b54
    rw [if_neg (nI_nlt (by omega) (by omega)), nI_1]
    by_cases e : (1 + i) &&& dueB t (t 49) = 1 + i
    · have okk : ∀ s, s < 8 → (1 + i).testBit s = true → ∀ c, c < 6 → okc y (6 * clr (1 + i) s + c) := fun s hs hb c hcc => by
        have hlo := clr_low hb
        by_cases w : clr (1 + i) s = 0
        · rw [w]; exact (p1 c hcc).1
        · exact (p2 _ (clr_sub e hU hs) w hlo).1 c hcc
      obtain ⟨g', G, m1, m2, m3⟩ := f6_measureFirst (x := y) (cf := g) hv hc.1 (fun s hs => (hc.2.2.2 s hs).1) (fun s hs => (hc.2.2.2 s hs).2.1) hon hbk hk8 okk (show 100 ≤ N by omega)
      obtain ⟨y', n1, n2, n3⟩ := f6_measureSet (x := y) hle hB m2 m3.1 hk8 (show 100 ≤ N by omega)
      rw [if_pos ((sub_test hk8).mpr e), m1, Option.bind_some, n1, Option.bind_some]
      refine ⟨(y', g'), rfl, fun c hcc => ?_, fun S hS hS0 hlt => ?_⟩
      · have a := p1 c hcc
        have b : y' (6 * 0 + c) = y (6 * 0 + c) := n2 _ (by omega)
        show okc y' _ ∧ Lf y' _ = _
        unfold okc Lf at a ⊢
        rw [b]; exact a
      · show CS t y' S
        by_cases w : S = 1 + i
        · subst w
          have o : ∀ c, c < 6 → okc y' (6 * (1 + i) + c) ∧ Lf y' (6 * (1 + i) + c) = mS (dst t (sC t)) G c 6 := fun c hcc => okc_of (n3 c hcc) (mS_le _ _ _ _).1
          refine ⟨fun c hcc => (o c hcc).1, G, FS_cong hv (Nat.le_refl _) m3 (fun s c hs hcc hb => ?_), fun c hcc => (o c hcc).2⟩
          have hlo := clr_low hb
          show Lf y _ = Lf y' _
          unfold Lf
          rw [n2 _ (by omega)]
        · exact CS_keep hv (sub_lt hS hU) (show S < 1 + i by omega) n2 (p2 S hS hS0 (by omega))
    · rw [if_neg (fun w => e ((sub_test hk8).mp w))]
      refine ⟨(y, g), rfl, p1, fun S hS hS0 hlt => ?_⟩
      by_cases w : S = 1 + i
      · exact absurd (w ▸ hS) e
      · exact p2 S hS hS0 (by omega)) (fun z hp => by
    refine ⟨z, ?_, hp.1, fun S hS hS0 => hp.2 S hS hS0 (by have := Nat.and_le_right (n := S) (m := dueB t (t 49)); omega)⟩
    show f_X6_measure_b54 N (nI (dueB t (t 49))) (nI (1 + dueB t (t 49))) z.1 z.2 sz fr to on bk le = _
    unfold f_X6_measure_b54
    rw [if_pos (nI_lt (by omega) (by omega))]) (dueB t (t 49)) 0 N (y0, cf) (by omega) (by omega) ⟨z0, fun S _ hS0 hlt => absurd hlt (by omega)⟩
  refine ⟨y1, g1, ?_, q1, q2⟩
  have e0' : lp (fun s_16 => f_X6_measure_b16 s_16.1 s_16.2 hm le) N ((0 : Int32), x) = some y0 := e0
  have e1' : lp (fun s_54 => f_X6_measure_b54 N (nI (dueB t (t 49))) s_54.1 s_54.2.1 s_54.2.2 sz fr to on bk le) N ((1 : Int32), y0, cf) = some (y1, g1) := e1
  unfold f_X6_measure
  rw [f7_dueStreets hv hc (by omega), Option.bind_some, e0', Option.bind_some, e1', Option.bind_some]
theorem CS_IsV {t : Nat → Nat} (hv : vT t) {y : Nat → Int32} (hz : Z0 t (t 48) y) (hs : ∀ S, S &&& dueB t (t 49) = S → S ≠ 0 → CS t y S) : IsV t (t 48) (dueB t (t 49)) (fun S c => Lf y (6 * S + c)) := by
  have ch : ∀ S, ∃ G, S &&& dueB t (t 49) = S → S ≠ 0 → FS t S (fun T c => Lf y (6 * T + c)) (2 * t 49) G ∧ ∀ c, c < 6 → Lf y (6 * S + c) = mS (dst t (sC t)) G c 6 := fun S => by
    by_cases a : S &&& dueB t (t 49) = S ∧ S ≠ 0
    · obtain ⟨_, G, g⟩ := hs S a.1 a.2
      exact ⟨G, fun _ _ => g⟩
    · exact ⟨fun _ => 0, fun b c => absurd ⟨b, c⟩ a⟩
  refine CV_IsV (F := fun S => Classical.choose (ch S)) hv hv.2.1 (dueB_lt hv) ⟨fun c hc => (hz c hc).2, fun S hS hS0 => ?_⟩
  obtain ⟨⟨f1, f2, f3⟩, g⟩ := Classical.choose_spec (ch S) hS hS0
  refine ⟨f2, f3, fun c d hc hd => ?_, fun c hc hlt => ?_, fun c hc => ?_⟩
  · show Lf y (6 * S + c) ≤ _
    rw [g c hc]; exact (mS_le _ _ c 6).2 d hd
  · have hlt' : Lf y (6 * S + c) < 1000000 := hlt
    show ∃ d, d < 6 ∧ Lf y (6 * S + c) = _
    rw [g c hc] at hlt' ⊢
    exact mS_ex _ _ c 6 hlt'
  · show Lf y (6 * S + c) ≤ _
    rw [g c hc]; exact (mS_le _ _ c 6).1
