/-! the class's tour: found once, kept while the town is the same -/
theorem f6_cost {U h : Nat} {x : Nat → Int32} (hU : U < 256) (hh : h < 6) : f_X6_cost (nI U) (nI h) x = some (x (6 * U + h)) := by
  unfold f_X6_cost
  rw [six, ga_ok (by omega) (by decide), nI_clamp (by omega)]
theorem far_b2 {v : Nat} (hv : v ≤ 1000000) : (if (1000000 : Int32) ≤ nI v then (0 : Int32) else (1 : Int32)) = b2 (v < 1000000) := by
  unfold b2
  by_cases z : v < 1000000
  · rw [if_neg (show ¬ (1000000 : Int32) ≤ nI v from nI_ge (b := 1000000) z (by decide)), if_pos z]
  · rw [if_pos (show (1000000 : Int32) ≤ nI v from nI_le (a := 1000000) (by omega) (by omega)), if_neg z]
theorem f6_isFound {U h v : Nat} {x : Nat → Int32} (hU : U < 256) (hh : h < 6) (hx : x (6 * U + h) = nI v) (hv : v ≤ 1000000) : f_X6_isFound (nI U) (nI h) x = some (b2 (v < 1000000)) := by
  unfold f_X6_isFound
  rw [f6_cost hU hh, Option.bind_some, hx, far_b2 hv, gb_b2]
theorem IsR_mem {t : Nat → Nat} {V : Nat → Nat → Nat} : ∀ (es : List Nat) (S c i : Nat), IsR t V S c es → i < es.length → es.getD i 0 < 2 * t 49 ∧ sC t (es.getD i 0) < 1000000
  | [], _, _, i, _, hi => absurd hi (by simp)
  | e :: es, S, c, 0, h, _ => ⟨h.2.1.1, h.2.1.2.1⟩
  | e :: es, S, c, i + 1, h, hi => by
    rw [List.length_cons] at hi
    exact IsR_mem es _ _ i h.2.2.2 (by omega)
theorem IsR_cong {t : Nat → Nat} (hv : vT t) {U : Nat} (hU : U < 256) {V W : Nat → Nat → Nat} (hVW : ∀ S c, S &&& U = S → c < 6 → V S c = W S c) : ∀ (es : List Nat) (S c : Nat), S &&& U = S → c < 6 → IsR t V S c es → IsR t W S c es
  | [], S, c, hS, hc, h => by
    have h1 : V S c = 0 := h
    show W S c = 0
    rw [← hVW S c hS hc]; exact h1
  | e :: es, S, c, hS, hc, h => by
    have h8 := hv.1
    obtain ⟨r0, ⟨r1, r2, r3, r4⟩, r5, r6⟩ := h
    have sub : ∀ x, x < 2 * t 49 → V (clr S (x / 2)) (sE t x) = W (clr S (x / 2)) (sE t x) := fun x hx => hVW _ _ (clr_sub hS hU (by omega)) (sE_lt hv hx)
    refine ⟨by rw [← hVW S c hS hc]; exact r0, ⟨r1, r2, r3, by rw [← hVW S c hS hc, ← sub e r1]; exact r4⟩, fun f hf => ?_, IsR_cong hv hU hVW es _ _ (clr_sub hS hU (by omega)) (sE_lt hv r1) r6⟩
    rw [← hVW S c hS hc, ← sub f (by omega)]
    exact r5 f hf
theorem f6_trace {t : Nat → Nat} {fr to ln kd fg on bk x st co cs ag : Nat → Int32} {cl sz hm s0 : Int32} (hv : vT t) (hc : cR t fr to ln kd fg cl sz hm) (hon : ∀ s, s < t 49 → on s = nI (sC t (2 * s))) (hbk : ∀ s, s < t 49 → bk s = nI (sC t (2 * s + 1))) (hz : Z0 t (t 48) x) (hs : ∀ S, S &&& dueB t (t 49) = S → S ≠ 0 → CS t x S) {N : Nat} (hN : 1000 ≤ N) : ∃ sz' st' co' cs' ag', f_X6_trace N (nI (dueB t (t 49))) s0 sz hm fr to on bk x st co cs ag = some (sz', st', co', cs', ag') ∧ TourIs t x st' co' cs' ag' (nI (dueB t (t 49))) sz' := by
  have h8 := hv.1
  have h48 := hv.2.1
  have hU := dueB_lt hv
  have hUU : dueB t (t 49) &&& dueB t (t 49) = dueB t (t 49) := Nat.and_self _
  have hx : ∀ S, S &&& dueB t (t 49) = S → ∀ c, c < 6 → okc x (6 * S + c) := fun S hS c hcc => by
    by_cases w : S = 0
    · rw [w]; exact (hz c hcc).1
    · exact (hs S hS w).1 c hcc
  have hV := CS_IsV hv hz hs
  have hk := hx _ hUU (t 48) h48
  have hfr : ∀ s, s < t 49 → fr s = nI (t s) := fun s h => (hc.2.2.2 s h).1
  have hto : ∀ s, s < t 49 → to s = nI (t (8 + s)) := fun s h => (hc.2.2.2 s h).2.1
  have e1 : sz = nI (t 49) := hc.1
  have e2 : hm = nI (t 48) := hc.2.1
  by_cases z : Lf x (6 * dueB t (t 49) + t 48) < 1000000
  · obtain ⟨es, r1, r2⟩ := IsR_53 hv hU hV hUU h48 z
    obtain ⟨st', co', cs', ag', s1, s2, s3, s4⟩ := f6_traceAll hv e1 e2 hfr hto hon hbk hU hx hV (show 100 ≤ N by omega) es (dueB t (t 49)) (t 48) 0 N st (upd co 0 (nI (t 48))) cs ag hUU h48 r1 (by omega) (by omega)
    refine ⟨nI (0 + es.length), st', co', cs', ag', ?_, _, hV, rfl, fun S c hS hcc => (hx S hS c hcc).2, ?_, Or.inr ⟨z, es, r2, r1, by rw [Nat.zero_add], fun i hi => ?_⟩⟩
    · have s1' : lp (fun s_36 => f_X6_trace_b36 N s_36.2.2.1 s_36.2.2.2.1 s_36.2.2.2.2.1 s_36.2.2.2.2.2.1 s_36.2.2.2.2.2.2 s_36.2.1 s_36.1 hm sz fr to on bk x) N (hm, nI (dueB t (t 49)), (0 : Int32), st, upd co (Int32.toNatClampNeg (0 : Int32)) hm, cs, ag) = some (.inl (nI (0 + es.length), st', co', cs', ag')) := by
        rw [← s1, e2]; rfl
      unfold f_X6_trace
      rw [ga_in (by decide), e2, f6_isFound hU h48 hk.2 hk.1, Option.bind_some, if_neg (fun w => b2_0.mp w z), ← e2, s1']; rfl
    · rw [s3 0 (Nat.le_refl _), pk_us]
    · obtain ⟨a1, a2, a3, a4, a5⟩ := s4 i hi
      rw [show 0 + i = i by omega] at a1 a2 a3 a4 a5
      refine ⟨a1, a2, a3, a4, a5.trans ?_⟩
      have hm' := IsR_mem es _ _ i r1 hi
      have hlt : es.getD i 0 / 2 < t 49 := by have := hm'.1; omega
      have hb : (dueB t (t 49)).testBit (es.getD i 0 / 2) = isD t (es.getD i 0 / 2) := by
        rw [dueB_bS, bS_bit, decide_eq_true hlt, Bool.true_and]
      rw [hb]; rfl
  · refine ⟨0, st, upd co 0 (nI (t 48)), cs, ag, ?_, _, hV, rfl, fun S c hS hcc => (hx S hS c hcc).2, pk_us, Or.inl ⟨?_, rfl⟩⟩
    · unfold f_X6_trace
      rw [ga_in (by decide), e2, f6_isFound hU h48 hk.2 hk.1, Option.bind_some, if_pos (b2_0.mpr z)]; rfl
    · have := hk.1
      show Lf x (6 * dueB t (t 49) + t 48) = 1000000
      omega
/-- two towns that the same rows tell are one -/
theorem cR_inj {t u : Nat → Nat} {fr to ln kd fg : Nat → Int32} {cl sz hm : Int32} (hv : vT t) (hu : vT u) (h : cR t fr to ln kd fg cl sz hm) (g : cR u fr to ln kd fg cl sz hm) : t = u := by
  have a8 := hv.1
  have b8 := hu.1
  have e49 : t 49 = u 49 := (nI_eq (by omega) (by omega)).mp (h.1.symm.trans g.1)
  have e48 : t 48 = u 48 := (nI_eq (by have := hv.2.1; omega) (by have := hu.2.1; omega)).mp (h.2.1.symm.trans g.2.1)
  have p : (2 : Nat) ^ t 49 ≤ 2 ^ 8 := Nat.pow_le_pow_right (by decide) a8
  have p' : (2 : Nat) ^ u 49 ≤ 2 ^ 8 := Nat.pow_le_pow_right (by decide) b8
  have c1 := clB_lt t (t 49)
  have c2 := clB_lt u (u 49)
  have ecl : clB t (t 49) = clB u (u 49) := (nI_eq (by omega) (by omega)).mp (h.2.2.1.symm.trans g.2.2.1)
  funext j
  by_cases j48 : j = 48
  · rw [j48]; exact e48
  · by_cases j49 : j = 49
    · rw [j49]; exact e49
    · by_cases z : 48 ≤ j ∨ t 49 ≤ j % 8
      · rw [hv.2.2.2 j j48 j49 z, hu.2.2.2 j j48 j49 (by rw [← e49]; exact z)]
      · have hs : j % 8 < t 49 := by omega
        have hs' : j % 8 < u 49 := by omega
        obtain ⟨x1, x2, x3, x4, x5⟩ := h.2.2.2 _ hs
        obtain ⟨y1, y2, y3, y4, y5⟩ := g.2.2.2 _ hs'
        obtain ⟨v1, v2, v3, v4, v5, v6, v7, v8⟩ := hv.2.2.1 _ hs
        obtain ⟨w1, w2, w3, w4, w5, w6, w7, w8⟩ := hu.2.2.1 _ hs'
        have q1 := (nI_eq (by omega) (by omega)).mp (x1.symm.trans y1)
        have q2 := (nI_eq (by omega) (by omega)).mp (x2.symm.trans y2)
        have q3 := (nI_eq (by omega) (by omega)).mp (x3.symm.trans y3)
        have q4 := (nI_eq (by omega) (by omega)).mp (x4.symm.trans y4)
        have q5 := (nI_eq (by omega) (by omega)).mp (x5.symm.trans y5)
        have b1 := clB_bit t (t 49) (j % 8)
        have b2' := clB_bit u (u 49) (j % 8)
        have q6 : t (40 + j % 8) = 0 ↔ u (40 + j % 8) = 0 := by
          rw [ecl, b2'] at b1
          have := decide_eq_decide.mp b1
          constructor
          · intro w; exact (this.mpr ⟨hs, w⟩).2
          · intro w; exact (this.mp ⟨hs', w⟩).2
        have cases6 : j = j % 8 ∨ j = 8 + j % 8 ∨ j = 16 + j % 8 ∨ j = 24 + j % 8 ∨ j = 32 + j % 8 ∨ j = 40 + j % 8 := by omega
        rcases cases6 with k | k | k | k | k | k <;> rw [k]
        · exact q1
        · exact q2
        · exact q3
        · exact q4
        · exact q5
        · omega
def lkB (f1 f2 f3 f4 f5 g1 g2 g3 g4 g5 : Nat → Int32) (j : Nat) : Prop := f1 j = g1 j ∧ f2 j = g2 j ∧ f3 j = g3 j ∧ f4 j = g4 j ∧ f5 j = g5 j
theorem f7_isLike {fr to ln kd fg f2 t2 l2 k2 g2 : Nat → Int32} {cl sz hm c2 s2 h2 : Int32} {n : Nat} (hn : n ≤ 8) (hsz : sz = nI n) {N : Nat} (hN : 100 ≤ N) : ∃ r, f_X7_isLike N cl sz hm fr to ln kd fg c2 s2 h2 f2 t2 l2 k2 g2 = some r ∧ (r = 0 ∨ (r = 1 ∧ sz = s2 ∧ hm = h2 ∧ cl = c2 ∧ ∀ j, j < n → lkB fr to ln kd fg f2 t2 l2 k2 g2 j)) := by
  subst hsz
  have hl := lp_inv (b := fun s_41 : Int32 × Int32 => f_X7_isLike_b41 (nI n) s_41.2 s_41.1 fr f2 to t2 ln l2 kd k2 fg g2) (fun s => ∃ i, i ≤ n ∧ s.2 = nI i ∧ (s.1 = 0 ∨ (s.1 = 1 ∧ (nI n = s2 ∧ hm = h2 ∧ cl = c2) ∧ ∀ j, j < i → lkB fr to ln kd fg f2 t2 l2 k2 g2 j))) (fun s => 9 - s.2.toNatClampNeg) (fun r => r = 0 ∨ (r = 1 ∧ (nI n = s2 ∧ hm = h2 ∧ cl = c2) ∧ ∀ j, j < n → lkB fr to ln kd fg f2 t2 l2 k2 g2 j)) (fun s hs => by
    obtain ⟨a, b⟩ := s
    obtain ⟨i, hi, hb, ha⟩ := hs
    dsimp only at hb ha ⊢
    subst hb
    unfold f_X7_isLike_b41
    by_cases z : i = n
    · right
      refine ⟨a, ?_, by rw [z] at ha; exact ha⟩
      rw [if_pos (nI_le (by omega) (by omega))]
    · rw [if_neg (nI_ge (show i < n by omega) (by omega))]
      rcases ha with ha | ⟨ha, hh, hj⟩
      · right
        refine ⟨a, ?_, Or.inl ha⟩
        rw [if_pos ha]
      · left
        have mu : 9 - (nI (i + 1)).toNatClampNeg < 9 - i := by rw [nI_clamp (by omega)]; omega
        rw [if_neg (by rw [ha]; decide), ga_ok (by omega) (by decide), ga_ok (by omega) (by decide), nI_clamp (by omega), nI_1]
        by_cases q1 : fr i = f2 i
        · rw [if_pos q1, ga_ok (by omega) (by decide), ga_ok (by omega) (by decide)]
          by_cases q2 : to i = t2 i
          · rw [if_pos q2, ga_ok (by omega) (by decide), ga_ok (by omega) (by decide)]
            by_cases q3 : ln i = l2 i
            · rw [if_pos q3, ga_ok (by omega) (by decide), ga_ok (by omega) (by decide)]
              by_cases q4 : kd i = k2 i
              · rw [if_pos q4, ga_ok (by omega) (by decide), ga_ok (by omega) (by decide)]
                by_cases q5 : fg i = g2 i
                · rw [if_pos q5]
                  refine ⟨_, rfl, ⟨i + 1, by omega, rfl, Or.inr ⟨rfl, hh, fun j hj' => ?_⟩⟩, mu⟩
                  by_cases e : j = i
                  · rw [e]; exact ⟨q1, q2, q3, q4, q5⟩
                  · exact hj j (by omega)
                · rw [if_neg q5]; exact ⟨_, rfl, ⟨i + 1, by omega, rfl, Or.inl rfl⟩, mu⟩
              · rw [if_neg q4]; exact ⟨_, rfl, ⟨i + 1, by omega, rfl, Or.inl rfl⟩, mu⟩
            · rw [if_neg q3]; exact ⟨_, rfl, ⟨i + 1, by omega, rfl, Or.inl rfl⟩, mu⟩
          · rw [if_neg q2]; exact ⟨_, rfl, ⟨i + 1, by omega, rfl, Or.inl rfl⟩, mu⟩
        · rw [if_neg q1]; exact ⟨_, rfl, ⟨i + 1, by omega, rfl, Or.inl rfl⟩, mu⟩) N (if nI n = s2 then (if hm = h2 then (if cl = c2 then (1 : Int32) else (0 : Int32)) else (0 : Int32)) else (0 : Int32), (0 : Int32)) ⟨0, Nat.zero_le _, rfl, by
      dsimp only
      by_cases a : nI n = s2
      · by_cases b : hm = h2
        · by_cases c : cl = c2
          · right; rw [if_pos a, if_pos b, if_pos c]; exact ⟨rfl, ⟨a, b, c⟩, fun j hj => absurd hj (by omega)⟩
          · left; rw [if_pos a, if_pos b, if_neg c]
        · left; rw [if_pos a, if_neg b]
      · left; rw [if_neg a]⟩ (by omega)
  obtain ⟨r, h1, h3⟩ := hl
  refine ⟨r, ?_, ?_⟩
  · unfold f_X7_isLike
    rw [h1, Option.bind_some]
    rcases h3 with h3 | ⟨h3, _⟩
    · rw [h3, gb_0]
    · rw [h3, gb_1]
  · rcases h3 with h3 | ⟨h3, h4, h5⟩
    · exact Or.inl h3
    · exact Or.inr ⟨h3, h4.1, h4.2.1, h4.2.2, h5⟩
theorem f6_seekNew {t : Nat → Nat} {fr to ln kd fg f2 t2 l2 k2 g2 on bk le clf cf st co cs ag : Nat → Int32} {cl sz hm c2 s2 h2 du ss : Int32} (hv : vT t) (hc : cR t fr to ln kd fg cl sz hm) {N : Nat} (hN : 1000 ≤ N) : ∃ du' ss' f3 t3 l3 k3 g3 on3 bk3 le3 clf3 cf3 st3 co3 cs3 ag3, f_X6_seek_j1 N c2 s2 h2 f2 t2 l2 k2 g2 on bk le cl sz hm fr to ln kd fg du clf cf ss st co cs ag = some (1, du', ss', cl, sz, hm, f3, t3, l3, k3, g3, on3, bk3, le3, clf3, cf3, st3, co3, cs3, ag3) ∧ cR t f3 t3 l3 k3 g3 cl sz hm ∧ TourIs t clf3 st3 co3 cs3 ag3 du' ss' := by
  obtain ⟨f3, t3, l3, k3, g3, on3, bk3, le3, e1, e2, e3, e4⟩ := f8_learn (f2 := f2) (t2 := t2) (l2 := l2) (k2 := k2) (g2 := g2) (on := on) (bk := bk) (least := le) (c2 := c2) (s2 := s2) (h2 := h2) hv hc (b := 0) (by decide) (show 100 ≤ N by omega)
  rw [cW_0] at e3 e4
  have hon : ∀ s, s < t 49 → on3 s = nI (sC t (2 * s)) := fun s hs => (e3 s hs).1
  have hbk : ∀ s, s < t 49 → bk3 s = nI (sC t (2 * s + 1)) := fun s hs => (e3 s hs).2
  obtain ⟨y, g, m1, m2, m3⟩ := f6_measure (x := clf) (cf := cf) (du := du) hv e2 hon hbk e4 hN
  obtain ⟨sz', st', co', cs', ag', r1, r2⟩ := f6_trace (st := st) (co := co) (cs := cs) (ag := ag) (s0 := ss) hv e2 hon hbk m2 m3 hN
  refine ⟨_, sz', f3, t3, l3, k3, g3, on3, bk3, le3, y, g, st', co', cs', ag', ?_, e2, r2⟩
  have e1' : f_X8_learn N (0 : Int32) c2 s2 h2 f2 t2 l2 k2 g2 on bk le cl sz hm fr to ln kd fg = some (cl, sz, hm, f3, t3, l3, k3, g3, on3, bk3, le3) := e1
  unfold f_X6_seek_j1
  rw [e1', Option.bind_some]
  dsimp only
  rw [m1, Option.bind_some]
  dsimp only
  rw [r1, Option.bind_some]
theorem f6_seek {t : Nat → Nat} {fr to ln kd fg f2 t2 l2 k2 g2 on bk le clf cf st co cs ag : Nat → Int32} {cl sz hm c2 s2 h2 so du ss : Int32} (hv : vT t) (hc : cR t fr to ln kd fg cl sz hm) (hT : InvT f2 t2 l2 k2 g2 clf st co cs ag c2 s2 h2 so du ss) {N : Nat} (hN : 1000 ≤ N) : ∃ du' ss' f3 t3 l3 k3 g3 on3 bk3 le3 clf3 cf3 st3 co3 cs3 ag3, f_X6_seek N so du ss c2 s2 h2 f2 t2 l2 k2 g2 on bk le clf cf st co cs ag cl sz hm fr to ln kd fg = some (1, du', ss', cl, sz, hm, f3, t3, l3, k3, g3, on3, bk3, le3, clf3, cf3, st3, co3, cs3, ag3) ∧ cR t f3 t3 l3 k3 g3 cl sz hm ∧ TourIs t clf3 st3 co3 cs3 ag3 du' ss' := by
  obtain ⟨h0, h1⟩ := hT
  unfold f_X6_seek
  rcases h0 with h0 | h0
  · rw [if_pos h0]
    exact f6_seekNew hv hc hN
  · obtain ⟨u, hu, gc, gt⟩ := h1 h0
    rw [if_neg (by rw [h0]; decide)]
    obtain ⟨r, r1, r2⟩ := f7_isLike (cl := c2) (hm := h2) (fr := f2) (to := t2) (ln := l2) (kd := k2) (fg := g2) (c2 := cl) (s2 := sz) (h2 := hm) (f2 := fr) (t2 := to) (l2 := ln) (k2 := kd) (g2 := fg) hu.1 gc.1 (show 100 ≤ N by omega)
    rw [r1, Option.bind_some]
    rcases r2 with r2 | ⟨r2, q1, q2, q3, q4⟩
    · rw [if_pos r2]
      exact f6_seekNew hv hc hN
    · rw [if_neg (by rw [r2]; decide)]
      have gc' : cR u fr to ln kd fg cl sz hm := ⟨q1.symm.trans gc.1, q2.symm.trans gc.2.1, q3.symm.trans gc.2.2.1, fun s hs => by
        obtain ⟨a1, a2, a3, a4, a5⟩ := q4 s hs
        obtain ⟨b1, b2, b3, b4, b5⟩ := gc.2.2.2 s hs
        exact ⟨a1.symm.trans b1, a2.symm.trans b2, a3.symm.trans b3, a4.symm.trans b4, a5.symm.trans b5⟩⟩
      have e := cR_inj hv hu hc gc'
      subst e
      refine ⟨du, ss, f2, t2, l2, k2, g2, on, bk, le, clf, cf, st, co, cs, ag, ?_, ?_, gt⟩
      · rw [h0, q1, q2, q3]
      · rw [← q1, ← q2, ← q3]; exact gc
/-- what a tour holds stays in the relation -/
theorem InvT_of {t : Nat → Nat} {fr to ln kd fg cl st co cs ag : Nat → Int32} {clo sz hm du ss : Int32} (hv : vT t) (hc : cR t fr to ln kd fg clo sz hm) (hT : TourIs t cl st co cs ag du ss) : InvT fr to ln kd fg cl st co cs ag clo sz hm 1 du ss := ⟨Or.inr rfl, fun _ => ⟨t, hv, hc, hT⟩⟩
