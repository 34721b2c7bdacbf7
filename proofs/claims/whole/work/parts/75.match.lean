/-! the pairs of the class and of the model are the same -/
theorem lp_l {S E : Type} {b : S → Option (S ⊕ E)} {N : Nat} {s s' : S} (h : b s = some (.inl s')) : lp b (N + 1) s = lp b N s' := by
  show lp b (N + 1) s = _
  unfold lp
  rw [h]
  cases N <;> rfl
theorem lp_r {S E : Type} {b : S → Option (S ⊕ E)} {N : Nat} {s : S} {e : E} (h : b s = some (.inr e)) : lp b (N + 1) s = some e := by
  unfold lp
  rw [h]
theorem gcp_6 {α : Type} {X : Option α} : gcp 0 0 6 6 6 X = X := if_pos (by decide)
theorem cpy6 {f g : Nat → Int32} : ∀ j, j < 6 → va_cpy f g (Int32.toNatClampNeg (0 : Int32)) (Int32.toNatClampNeg (0 : Int32)) (Int32.toNatClampNeg (6 : Int32)) j = f j := by
  intro j hj
  rw [show Int32.toNatClampNeg (0 : Int32) = 0 from rfl, show Int32.toNatClampNeg (6 : Int32) = 6 from rfl, pk_cpy_in (by omega) (by omega)]
  congr 1; omega
theorem f3_low {S : Nat} (hS : S < 64) (h : S ≠ 0) {N : Nat} (hN : 100 ≤ N) : lp (fun s_37 => f_X3_pair_b37 s_37 (nI S)) N (0 : Int32) = some (nI (low S)) := by
  obtain ⟨⟨l1, l2, l3⟩, l4⟩ := low_ok S hS (by omega)
  exact lp_seq (b := fun s => f_X3_pair_b37 s (nI S)) (fun i => nI i) (nI (low S)) (low S) (fun i hi => by
    show f_X3_pair_b37 (nI i) (nI S) = _
    unfold f_X3_pair_b37
    rw [if_neg (show ¬ (6 : Int32) ≤ nI i from nI_ge (b := 6) (by omega) (by decide)), if_pos ((bitI (by omega) (by omega)).mpr (l3 i hi)), nI_1]) (by
    show f_X3_pair_b37 (nI (low S)) (nI S) = _
    unfold f_X3_pair_b37
    rw [if_neg (show ¬ (6 : Int32) ≤ nI (low S) from nI_ge (b := 6) (by omega) (by decide)), if_neg (fun z => by have := (bitI (by omega) (by omega)).mp z; rw [l2] at this; cases this)]) (low S) 0 N (by omega) (by omega)
/-- what the seeking of pairs leaves -/
def PR (D : Nat → Nat) (S x3 L0 : Nat) (tr pa : Nat → Int32) (o : Int32 × (Nat → Int32) × (Nat → Int32)) : Prop := ∃ L : Nat, L ≤ 1000000 ∧ o.1 = nI L ∧ (∀ q, q < 6 → S.testBit q = false → o.2.1 q = tr q) ∧ (x3 + B2 D S < L0 → L = x3 + B2 D S ∧ ∀ q, q < 6 → o.2.2 q = mt D S tr q) ∧ (¬ x3 + B2 D S < L0 → L = L0 ∧ ∀ q, q < 6 → o.2.2 q = pa q)
theorem f3_pair {D : Nat → Nat} {x : Nat → Int32} (hx : RI x D) (hD : Bd D) {N : Nat} (hN : 100 ≤ N) : ∀ d S, S < 64 → pcS S < d → ∀ x3 L0 (tr pa : Nat → Int32), x3 ≤ 2000000 → L0 ≤ 1000000 → ∃ o, f_X3_pair N d (nI S) (nI x3) (nI L0) tr pa x = some o ∧ PR D S x3 L0 tr pa o
  | 0, S, _, h, _, _, _, _, _, _ => absurd h (by omega)
  | d + 1, S, hS, hd, x3, L0, tr, pa, h3, hL => by
    unfold f_X3_pair
    by_cases c : x3 < L0
    · rw [if_pos (nI_lt c (by omega))]
      by_cases e : S = 0
      · subst e
        rw [if_pos (show nI 0 = (0 : Int32) from rfl), gcp_6]
        refine ⟨_, rfl, x3, by omega, rfl, fun _ _ _ => rfl, fun _ => ⟨by rw [B2_0]; rfl, fun q hq => ?_⟩, fun z => absurd (show x3 + B2 D 0 < L0 by rw [B2_0]; exact c) z⟩
        rw [mt_0]; exact cpy6 q hq
      · obtain ⟨⟨l1, l2, l3⟩, l4⟩ := low_ok S hS (by omega)
        rw [if_neg (nI_ne0 (by omega) (by omega)), f3_low hS e hN, Option.bind_some]
        obtain ⟨o, e1, e2⟩ := lp_cnt (b := fun s : Int32 × Int32 × (Nat → Int32) × (Nat → Int32) => f_X3_pair_b65 (f_X3_pair N d) s.1 s.2.1 s.2.2.1 s.2.2.2 (nI S) (nI (low S)) x (nI x3)) (fun n y => (nI (low S + 1 + n), y))
          (fun n y => ∃ L : Nat, L ≤ 1000000 ∧ y.1 = nI L ∧ (∀ q, q < 6 → S.testBit q = false → y.2.1 q = tr q) ∧ (x3 + mAcc (Fj D S) S (low S) n < L0 → L = x3 + mAcc (Fj D S) S (low S) n ∧ ∀ q, q < 6 → y.2.2 q = mt D (rm S (low S) (jAcc (Fj D S) S (low S) n)) (upd (upd tr (low S) (nI (jAcc (Fj D S) S (low S) n))) (jAcc (Fj D S) S (low S) n) (nI (low S))) q) ∧ (¬ x3 + mAcc (Fj D S) S (low S) n < L0 → L = L0 ∧ ∀ q, q < 6 → y.2.2 q = pa q))
          (fun y => PR D S x3 L0 tr pa y) (5 - low S) (fun n y hn hp => by
            obtain ⟨L, p1, p2, p3, p4, p5⟩ := hp
            obtain ⟨y1, y2, y3⟩ := y
            have p2' : y1 = nI L := p2
            subst p2'
            have hj : low S + 1 + n < 6 := by omega
            have em : mAcc (Fj D S) S (low S) (n + 1) = if S.testBit (low S + 1 + n) = true ∧ Fj D S (low S + 1 + n) < mAcc (Fj D S) S (low S) n then Fj D S (low S + 1 + n) else mAcc (Fj D S) S (low S) n := rfl
            have ej : jAcc (Fj D S) S (low S) (n + 1) = if S.testBit (low S + 1 + n) = true ∧ Fj D S (low S + 1 + n) < mAcc (Fj D S) S (low S) n then low S + 1 + n else jAcc (Fj D S) S (low S) n := rfl
            show ∃ y', f_X3_pair_b65 (f_X3_pair N d) (nI (low S + 1 + n)) (nI L) y2 y3 (nI S) (nI (low S)) x (nI x3) = some (Sum.inl (nI (low S + 1 + n + 1), y')) ∧ _
            unfold f_X3_pair_b65
            rw [if_neg (show ¬ (6 : Int32) ≤ nI (low S + 1 + n) from nI_ge (b := 6) hj (by decide)), nI_1]
            by_cases b : S.testBit (low S + 1 + n) = true
            · obtain ⟨r1, r2, r3, r4⟩ := rm_ok S hS (low S) l1 _ hj l2 b (by omega)
              have hr := rm_lt (i := low S) (j := low S + 1 + n) e
              have hb1 := hD (6 * low S + (low S + 1 + n)) (by omega)
              obtain ⟨o, o1, L', o2, o3, o4, o5, o6⟩ := f3_pair hx hD hN d (rm S (low S) (low S + 1 + n)) (by omega) (by omega) (x3 + D (6 * low S + (low S + 1 + n))) L (upd (upd y2 (low S) (nI (low S + 1 + n))) (low S + 1 + n) (nI (low S))) y3 (by omega) p1
              have ef : x3 + D (6 * low S + (low S + 1 + n)) + B2 D (rm S (low S) (low S + 1 + n)) = x3 + Fj D S (low S + 1 + n) := by unfold Fj; omega
              rw [ef] at o5 o6
              rw [if_neg (fun z => by have := (bitI (by omega) (by omega)).mp z; rw [b] at this; cases this), ga_ok l1 (by decide), ga_ok hj (by decide), f8_between hx l1 hj, Option.bind_some, sh1 (by omega), sh1 (by omega), r2, nI_add, nI_clamp (by omega), nI_clamp (by omega), o1, Option.bind_some]
              refine ⟨_, rfl, L', o2, o3, fun q hq hb => ?_, ?_⟩
              · have hq1 : (rm S (low S) (low S + 1 + n)).testBit q = false := by rw [r4 q hq, hb]; rfl
                show o.2.1 q = tr q
                rw [o4 q hq hq1, pk_un (fun z => by subst z; rw [b] at hb; cases hb), pk_un (fun z => by subst z; rw [l2] at hb; cases hb)]
                exact p3 q hq hb
              · show (x3 + mAcc (Fj D S) S (low S) (n + 1) < L0 → L' = x3 + mAcc (Fj D S) S (low S) (n + 1) ∧ ∀ q, q < 6 → o.2.2 q = mt D (rm S (low S) (jAcc (Fj D S) S (low S) (n + 1))) (upd (upd tr (low S) (nI (jAcc (Fj D S) S (low S) (n + 1)))) (jAcc (Fj D S) S (low S) (n + 1)) (nI (low S))) q) ∧ (¬ x3 + mAcc (Fj D S) S (low S) (n + 1) < L0 → L' = L0 ∧ ∀ q, q < 6 → o.2.2 q = pa q)
                rw [em, ej]
                by_cases f : Fj D S (low S + 1 + n) < mAcc (Fj D S) S (low S) n
                · rw [if_pos ⟨b, f⟩, if_pos ⟨b, f⟩]
                  refine ⟨fun z => ?_, fun z => ?_⟩
                  · have hlt : x3 + Fj D S (low S + 1 + n) < L := by
                      by_cases w : x3 + mAcc (Fj D S) S (low S) n < L0
                      · rw [(p4 w).1]; omega
                      · rw [(p5 w).1]; exact z
                    refine ⟨(o5 hlt).1, fun q hq => ?_⟩
                    rw [(o5 hlt).2 q hq]
                    refine mt_congr 64 _ _ _ (by omega) (by omega) (by unfold Fj at hlt; omega) (fun p hp hb => ?_) q hq
                    rw [r4 p hp] at hb
                    unfold upd
                    by_cases w1 : p = low S + 1 + n
                    · rw [if_pos w1, if_pos w1]
                    · rw [if_neg w1, if_neg w1]
                      by_cases w2 : p = low S
                      · rw [if_pos w2, if_pos w2]
                      · rw [if_neg w2, if_neg w2]
                        apply p3 p hp
                        simp [w1, w2] at hb
                        exact hb
                  · have w : ¬ x3 + mAcc (Fj D S) S (low S) n < L0 := by omega
                    obtain ⟨w1, w2⟩ := p5 w
                    have hnl : ¬ x3 + Fj D S (low S + 1 + n) < L := by rw [w1]; exact z
                    obtain ⟨w3, w4⟩ := o6 hnl
                    exact ⟨w3.trans w1, fun q hq => (w4 q hq).trans (w2 q hq)⟩
                · have g : ¬ (S.testBit (low S + 1 + n) = true ∧ Fj D S (low S + 1 + n) < mAcc (Fj D S) S (low S) n) := fun z => f z.2
                  rw [if_neg g, if_neg g]
                  have hnl : ¬ x3 + Fj D S (low S + 1 + n) < L := by
                    by_cases w : x3 + mAcc (Fj D S) S (low S) n < L0
                    · rw [(p4 w).1]; omega
                    · rw [(p5 w).1]; omega
                  obtain ⟨w3, w4⟩ := o6 hnl
                  refine ⟨fun z => ?_, fun z => ?_⟩
                  · exact ⟨w3.trans (p4 z).1, fun q hq => (w4 q hq).trans ((p4 z).2 q hq)⟩
                  · exact ⟨w3.trans (p5 z).1, fun q hq => (w4 q hq).trans ((p5 z).2 q hq)⟩
            · have g : ¬ (S.testBit (low S + 1 + n) = true ∧ Fj D S (low S + 1 + n) < mAcc (Fj D S) S (low S) n) := fun z => b z.1
              rw [if_pos ((bitI (by omega) (by omega)).mpr (by cases hh : S.testBit (low S + 1 + n) with | false => rfl | true => exact absurd hh b))]
              refine ⟨_, rfl, L, p1, rfl, p3, ?_⟩
              rw [em, ej, if_neg g, if_neg g]
              exact ⟨p4, p5⟩) (fun y hp => by
            obtain ⟨L, p1, p2, p3, p4, p5⟩ := hp
            refine ⟨y, ?_, L, p1, p2, p3, ?_⟩
            · show f_X3_pair_b65 (f_X3_pair N d) (nI (low S + 1 + (5 - low S))) y.1 y.2.1 y.2.2 (nI S) (nI (low S)) x (nI x3) = _
              unfold f_X3_pair_b65
              rw [show low S + 1 + (5 - low S) = 6 by omega, if_pos (show (6 : Int32) ≤ nI 6 from nI_le (a := 6) (Nat.le_refl _) (by decide))]
            · rw [B2_S D e, mt_S D e]
              exact ⟨p4, p5⟩) (5 - low S) 0 N (nI L0, tr, pa) (by omega) (by omega) ⟨L0, hL, rfl, fun _ _ _ => rfl, fun z => absurd z (by show ¬ x3 + 1000000 < L0; omega), fun _ => ⟨rfl, fun _ _ => rfl⟩⟩
        have e1' : lp (fun s_65 => f_X3_pair_b65 (f_X3_pair N d) s_65.1 s_65.2.1 s_65.2.2.1 s_65.2.2.2 (nI S) (nI (low S)) x (nI x3)) N (nI (low S) + (1 : Int32), nI L0, tr, pa) = some o := by rw [nI_1]; exact e1
        rw [e1', Option.bind_some]
        exact ⟨_, rfl, e2⟩
    · rw [if_neg (nI_nlt (by omega) (by omega))]
      exact ⟨_, rfl, L0, hL, rfl, fun _ _ _ => rfl, fun z => absurd z (by omega), fun _ => ⟨rfl, fun _ _ => rfl⟩⟩
theorem f3_seek {D : Nat → Nat} {x : Nat → Int32} (hx : RI x D) (hD : Bd D) {N : Nat} (hN : 100 ≤ N) {S : Nat} (hS : S < 64) (l0 : Int32) (tr pa : Nat → Int32) : ∃ o, f_X3_seek N (nI S) l0 tr pa x = some o ∧ o.1 = nI (B2 D S) ∧ ∀ q, q < 6 → o.2.2 q = if B2 D S < 1000000 then mt D S (fun _ => -9) q else -9 := by
  obtain ⟨⟨t0, p0⟩, e1, e2⟩ := lp_cnt (b := fun s : Int32 × (Nat → Int32) × (Nat → Int32) => f_X3_seek_b8 s.1 s.2.1 s.2.2) (fun i y => (nI i, y)) (fun i y => ∀ q, q < i → y.1 q = -9 ∧ y.2 q = -9) (fun y => ∀ q, q < 6 → y.1 q = -9 ∧ y.2 q = -9) 6 (fun i y hi hp => by
    refine ⟨(upd y.1 i (-9), upd y.2 i (-9)), ?_, fun q hq => ?_⟩
    · show f_X3_seek_b8 (nI i) y.1 y.2 = _
      unfold f_X3_seek_b8
      rw [if_neg (show ¬ (6 : Int32) ≤ nI i from nI_ge (b := 6) hi (by decide)), ga_ok hi (by decide), ga_ok hi (by decide), nI_clamp (by omega), nI_1]
    · show upd y.1 i (-9) q = -9 ∧ upd y.2 i (-9) q = -9
      by_cases e : q = i
      · subst e; rw [pk_us, pk_us]; exact ⟨rfl, rfl⟩
      · rw [pk_un e, pk_un e]; exact hp q (by omega)) (fun y hp => by
    refine ⟨y, ?_, hp⟩
    show f_X3_seek_b8 (nI 6) y.1 y.2 = _
    unfold f_X3_seek_b8
    rw [if_pos (show (6 : Int32) ≤ nI 6 from nI_le (a := 6) (Nat.le_refl _) (by decide))]) 6 0 N (tr, pa) (by omega) (by omega) (fun q hq => absurd hq (by omega))
  obtain ⟨o, o1, L, o2, o3, o4, o5, o6⟩ := f3_pair hx hD hN 8 S hS (by have := pcS_le S; omega) 0 1000000 t0 p0 (by omega) (by omega)
  have hB := B2_le D S
  refine ⟨(o.1, o.2.1, o.2.2), ?_, ?_, fun q hq => ?_⟩
  · have e1' : lp (fun s_8 => f_X3_seek_b8 s_8.1 s_8.2.1 s_8.2.2) N ((0 : Int32), tr, pa) = some (t0, p0) := e1
    have o1' : f_X3_pair N 8 (nI S) (0 : Int32) (1000000 : Int32) t0 p0 x = some o := o1
    unfold f_X3_seek
    rw [e1', Option.bind_some]
    show (f_X3_pair N 8 (nI S) (0 : Int32) (1000000 : Int32) t0 p0 x).bind _ = _
    rw [o1', Option.bind_some]
  · show o.1 = _
    rw [o3]
    by_cases z : B2 D S < 1000000
    · rw [(o5 (by omega)).1]; congr 1; omega
    · rw [(o6 (by omega)).1]; congr 1; omega
  · show o.2.2 q = _
    by_cases z : B2 D S < 1000000
    · rw [if_pos z, (o5 (by omega)).2 q hq]
      exact mt_congr 64 _ _ _ (by omega) hS z (fun p hp _ => (e2 p hp).1) q hq
    · rw [if_neg z, (o6 (by omega)).2 q hq]
      exact (e2 q hq).2
theorem f10_mt {D : Nat → Nat} {x : Nat → Int32} (hx : RI x D) (hD : Bd D) {N : Nat} (hN : 100 ≤ N) : ∀ (n S M : Nat) (p : Nat → Int32), S < n → S < 64 → S < M → B2 D S < 1000000 → lp (fun s_47 => f_X10_matches_b47 N s_47.1 s_47.2 x) M (nI S, p) = some (mt D S p)
  | 0, S, _, _, hn, _, _, _ => absurd hn (by omega)
  | n + 1, S, 0, p, _, _, hM, _ => absurd hM (by omega)
  | n + 1, S, M + 1, p, hn, hS, hM, hB => by
    by_cases e : S = 0
    · subst e
      have : f_X10_matches_b47 N (nI 0) p x = some (.inr p) := by
        unfold f_X10_matches_b47
        rw [if_pos (show nI 0 = (0 : Int32) from rfl)]
      rw [mt_0]
      exact lp_r (b := fun s_47 : Int32 × (Nat → Int32) => f_X10_matches_b47 N s_47.1 s_47.2 x) (s := (nI 0, p)) this
    · obtain ⟨⟨l1, l2, l3⟩, l4⟩ := low_ok S hS (by omega)
      obtain ⟨j1, j2, j3, j4, j5⟩ := jB_ok hS e hB
      obtain ⟨r1, r2, r3, r4⟩ := rm_ok S hS (low S) l1 (jB D S) j2 l2 j3 (by omega)
      have hr := rm_lt (i := low S) (j := jB D S) e
      have hpc := pcS_le S
      have key : ∀ j, low S < j → j < 6 → f_X10_matches_b70 N (nI S) (nI j) (nI (low S)) x (nI (B2 D S)) = if S.testBit j = true ∧ Fj D S j = B2 D S then some (.inr (nI j)) else some (.inl (nI (j + 1))) := fun j g1 g2 => by
        unfold f_X10_matches_b70
        rw [nI_1]
        by_cases b : S.testBit j = true
        · obtain ⟨q1, q2, q3, q4⟩ := rm_ok S hS (low S) l1 j g2 l2 b (by omega)
          have hr2 := rm_lt (i := low S) (j := j) e
          have hb1 := hD (6 * low S + j) (by omega)
          have hb2 := B2_le D (rm S (low S) j)
          rw [if_neg (fun z => by have := (bitI (by omega) (by omega)).mp z; rw [b] at this; cases this), f10_dist hx l1 g2, Option.bind_some, sh1 (by omega), sh1 (by omega), q1, f10_byTwos hx hD hN 8 _ (by omega) (by omega), Option.bind_some, nI_add]
          show (if nI (Fj D S j) = nI (B2 D S) then _ else _) = _
          have hf : Fj D S j < 2 ^ 31 := by unfold Fj; omega
          by_cases w : Fj D S j = B2 D S
          · rw [if_pos (by rw [w]), if_pos ⟨b, w⟩]
          · rw [if_neg (fun z => w ((nI_eq hf (by omega)).mp z)), if_neg (fun z => w z.2)]
        · rw [if_pos ((bitI (by omega) (by omega)).mpr (by cases hh : S.testBit j with | false => rfl | true => exact absurd hh b)), if_neg (fun z => b z.1)]
      have hl := lp_seq (b := fun s => f_X10_matches_b70 N (nI S) s (nI (low S)) x (nI (B2 D S))) (fun i => nI (low S + 1 + i)) (nI (jB D S)) (jB D S - (low S + 1)) (fun i hi => by
        show f_X10_matches_b70 N (nI S) (nI (low S + 1 + i)) (nI (low S)) x (nI (B2 D S)) = _
        rw [key _ (by omega) (by omega), if_neg (fun z => j5 _ (by omega) (by omega) z.1 z.2)]; rfl) (by
        show f_X10_matches_b70 N (nI S) (nI (low S + 1 + (jB D S - (low S + 1)))) (nI (low S)) x (nI (B2 D S)) = _
        rw [show low S + 1 + (jB D S - (low S + 1)) = jB D S by omega, key _ j1 j2, if_pos ⟨j3, j4⟩]) (jB D S - (low S + 1)) 0 N (by omega) (by omega)
      have hl' : lp (fun s_70 => f_X10_matches_b70 N (nI S) s_70 (nI (low S)) x (nI (B2 D S))) N (nI (low S) + (1 : Int32)) = some (nI (jB D S)) := by rw [nI_1]; exact hl
      have step : f_X10_matches_b47 N (nI S) p x = some (.inl (nI (rm S (low S) (jB D S)), upd (upd p (low S) (nI (jB D S))) (jB D S) (nI (low S)))) := by
        unfold f_X10_matches_b47
        rw [if_neg (nI_ne0 (by omega) (by omega)), l4, Option.bind_some, f10_byTwos hx hD hN 8 S hS (by omega), Option.bind_some, hl', Option.bind_some, ga_ok l1 (by decide), ga_ok j2 (by decide), sh1 (by omega), sh1 (by omega), r1, nI_clamp (by omega), nI_clamp (by omega)]
      rw [mt_S D e]
      refine (lp_l (b := fun s_47 : Int32 × (Nat → Int32) => f_X10_matches_b47 N s_47.1 s_47.2 x) (s := (nI S, p)) step).trans ?_
      exact f10_mt hx hD hN n _ M _ (by omega) (by omega) (by omega) (by unfold Fj at j4; omega)
theorem f10_matches {t : Nat → Nat} {w d pa : Nat → Int32} (hv : vT t) (h : mR t w) {N : Nat} (hN : 100 ≤ N) : ∃ x p, f_X10_matches N d pa w = some (toldC (B2 (dst t (sC t)) (bS (oddC t) 6)), x, p) ∧ ∀ q, q < 6 → p q = if B2 (dst t (sC t)) (bS (oddC t) 6) < 1000000 then mt (dst t (sC t)) (bS (oddC t) 6) (fun _ => -9) q else -9 := by
  obtain ⟨x, m1, m2⟩ := f10_measures (d := d) hv h hN
  have hS : bS (oddC t) 6 < 64 := bS_lt (oddC t) 6
  have hD := Bd_dst t (sC t)
  obtain ⟨p0, e1, e2⟩ := lp_cnt (b := fun s : Int32 × (Nat → Int32) => f_X10_matches_b7 s.1 s.2) (fun i y => (nI i, y)) (fun i y => ∀ q, q < i → y q = -9) (fun y => ∀ q, q < 6 → y q = -9) 6 (fun i y hi hp => by
    refine ⟨upd y i (-9), ?_, fun q hq => ?_⟩
    · show f_X10_matches_b7 (nI i) y = _
      unfold f_X10_matches_b7
      rw [if_neg (show ¬ (6 : Int32) ≤ nI i from nI_ge (b := 6) hi (by decide)), ga_ok hi (by decide), nI_clamp (by omega), nI_1]
    · by_cases e : q = i
      · subst e; rw [pk_us]
      · rw [pk_un e]; exact hp q (by omega)) (fun y hp => by
    refine ⟨y, ?_, hp⟩
    show f_X10_matches_b7 (nI 6) y = _
    unfold f_X10_matches_b7
    rw [if_pos (show (6 : Int32) ≤ nI 6 from nI_le (a := 6) (Nat.le_refl _) (by decide))]) 6 0 N pa (by omega) (by omega) (fun q hq => absurd hq (by omega))
  have e1' : lp (fun s_7 => f_X10_matches_b7 s_7.1 s_7.2) N ((0 : Int32), pa) = some p0 := e1
  have hpc := pcS_le (bS (oddC t) 6)
  have hB := B2_le (dst t (sC t)) (bS (oddC t) 6)
  unfold f_X10_matches
  rw [m1, Option.bind_some, e1', Option.bind_some, f10_oddSet hv h hN, Option.bind_some, f10_byTwos m2 hD hN 8 _ hS (by omega), Option.bind_some]
  unfold toldC
  by_cases z : B2 (dst t (sC t)) (bS (oddC t) 6) < 1000000
  · rw [if_pos (show nI (B2 (dst t (sC t)) (bS (oddC t) 6)) < (1000000 : Int32) from nI_lt (b := 1000000) z (by decide)), f10_mt m2 hD hN 64 _ N p0 (by omega) hS (by omega) z, Option.bind_some, if_pos z]
    refine ⟨_, _, rfl, fun q hq => ?_⟩
    rw [if_pos z]
    exact mt_congr 64 _ _ _ (by omega) hS z (fun p hp _ => e2 p hp) q hq
  · rw [if_neg (show ¬ nI (B2 (dst t (sC t)) (bS (oddC t) 6)) < (1000000 : Int32) from nI_nlt (b := 1000000) (by omega) (by omega)), if_neg z]
    refine ⟨_, _, rfl, fun q hq => ?_⟩
    rw [if_neg z]
    exact e2 q hq
theorem pm_matching {A I : Nat → Nat → Int32} (hI : Inv A I) {N : Nat} (hN : 8000000 ≤ N) : ∃ oc, f_X9_matching N (I 1 5) (I 1 6) (I 1 7) (A 2) (A 3) (A 4) (A 5) (A 6) (I 20 5) (I 20 6) (I 20 7) (A 21) (A 22) (A 23) (A 24) (A 25) (A 26) (A 27) (A 28) (I 46 2) (A 47) (A 48) = some oc ∧ ∃ om, f_X10_matching N ((uA_X9_matching A I oc) 66) ((uA_X9_matching A I oc) 72) ((uA_X9_matching A I oc) 75) = some om ∧ oc.1 = om.1 ∧ Inv (uA_X10_matching (uA_X9_matching A I oc) (uI_X9_matching A I oc) om) (uI_X10_matching (uA_X9_matching A I oc) (uI_X9_matching A I oc) om) := by
  obtain ⟨t, k, h1, h2, h3, h4, h5, h6, h7, h8⟩ := hI
  obtain ⟨hv, hc, hm⟩ := id h1
  obtain ⟨f3, t3, l3, k3, g3, on3, bk3, least3, e1, e2, e3, e4⟩ := f8_learn (f2 := A 21) (t2 := A 22) (l2 := A 23) (k2 := A 24) (g2 := A 25) (on := A 26) (bk := A 27) (least := A 28) (c2 := I 20 5) (s2 := I 20 6) (h2 := I 20 7) (b := 0) hv hc (by decide) (show 100 ≤ N by omega)
  have e1' : f_X8_learn N (0 : Int32) (I 20 5) (I 20 6) (I 20 7) (A 21) (A 22) (A 23) (A 24) (A 25) (A 26) (A 27) (A 28) (I 1 5) (I 1 6) (I 1 7) (A 2) (A 3) (A 4) (A 5) (A 6) = _ := e1
  rw [cW_0] at e4
  obtain ⟨o, s1, s2, s3⟩ := f3_seek e4 (Bd_dst t (sC t)) (show 100 ≤ N by omega) (bS_lt (oddC t) 6) (I 46 2) (A 47) (A 48)
  have sp : f_X9_seekPairs N (I 1 5) (I 1 6) (I 1 7) (A 2) (A 3) (A 4) (A 5) (A 6) (I 20 5) (I 20 6) (I 20 7) (A 21) (A 22) (A 23) (A 24) (A 25) (A 26) (A 27) (A 28) (I 46 2) (A 47) (A 48) = some (I 1 5, I 1 6, I 1 7, f3, t3, l3, k3, g3, on3, bk3, least3, o.1, o.2.1, o.2.2) := by
    unfold f_X9_seekPairs
    rw [e1', Option.bind_some, f7_oddCorners hv hc (by omega), Option.bind_some]
    show (f_X3_seek N (nI (bS (oddC t) 6)) (I 46 2) (A 47) (A 48) least3).bind _ = _
    rw [s1, Option.bind_some]
  have hB := B2_le (dst t (sC t)) (bS (oddC t) 6)
  have f9 : f_X9_matching N (I 1 5) (I 1 6) (I 1 7) (A 2) (A 3) (A 4) (A 5) (A 6) (I 20 5) (I 20 6) (I 20 7) (A 21) (A 22) (A 23) (A 24) (A 25) (A 26) (A 27) (A 28) (I 46 2) (A 47) (A 48) = some (toldC (B2 (dst t (sC t)) (bS (oddC t) 6)), I 1 5, I 1 6, I 1 7, f3, t3, l3, k3, g3, on3, bk3, least3, o.1, o.2.1, o.2.2) := by
    unfold f_X9_matching
    rw [sp, Option.bind_some]
    show (f_X9_orNone o.1).bind _ = _
    rw [s2, f9_orNone (by omega), Option.bind_some]
  refine ⟨_, f9, ?_⟩
  obtain ⟨x, p, f10, _⟩ := f10_matches (d := A 72) (pa := A 75) hv hm (show 100 ≤ N by omega)
  have f10' : f_X10_matching N (A 66) (A 72) (A 75) = some (toldC (B2 (dst t (sC t)) (bS (oddC t) 6)), x, p) := by
    unfold f_X10_matching
    rw [f10, Option.bind_some]
  exact ⟨_, f10', rfl, t, k, h1, h2, h3, h4, h5, h6, h7, h8⟩
theorem pm_matched {A I : Nat → Nat → Int32} (hI : Inv A I) {N : Nat} (hN : 8000000 ≤ N) (x1 : Int32) : ∃ oc, f_X9_matched N x1 (I 1 5) (I 1 6) (I 1 7) (A 2) (A 3) (A 4) (A 5) (A 6) (I 20 5) (I 20 6) (I 20 7) (A 21) (A 22) (A 23) (A 24) (A 25) (A 26) (A 27) (A 28) (I 46 2) (A 47) (A 48) (A 64) = some oc ∧ ∃ om, f_X10_matched N x1 ((uA_X9_matched A I oc) 66) ((uA_X9_matched A I oc) 69) ((uA_X9_matched A I oc) 72) ((uA_X9_matched A I oc) 75) = some om ∧ oc.1 = om.1 ∧ Inv (uA_X10_matched (uA_X9_matched A I oc) (uI_X9_matched A I oc) om) (uI_X10_matched (uA_X9_matched A I oc) (uI_X9_matched A I oc) om) := by
  obtain ⟨t, k, h1, h2, h3, h4, h5, h6, h7, h8⟩ := hI
  obtain ⟨hv, hc, hm⟩ := id h1
  by_cases hx : 0 ≤ x1.toInt ∧ x1.toInt < 6
  · obtain ⟨a, ha, rfl⟩ := cin_nI (n := 6) hx (by decide)
    obtain ⟨f3, t3, l3, k3, g3, on3, bk3, least3, e1, e2, e3, e4⟩ := f8_learn (f2 := A 21) (t2 := A 22) (l2 := A 23) (k2 := A 24) (g2 := A 25) (on := A 26) (bk := A 27) (least := A 28) (c2 := I 20 5) (s2 := I 20 6) (h2 := I 20 7) (b := 0) hv hc (by decide) (show 100 ≤ N by omega)
    have e1' : f_X8_learn N (0 : Int32) (I 20 5) (I 20 6) (I 20 7) (A 21) (A 22) (A 23) (A 24) (A 25) (A 26) (A 27) (A 28) (I 1 5) (I 1 6) (I 1 7) (A 2) (A 3) (A 4) (A 5) (A 6) = _ := e1
    rw [cW_0] at e4
    obtain ⟨o, s1, s2, s3⟩ := f3_seek e4 (Bd_dst t (sC t)) (show 100 ≤ N by omega) (bS_lt (oddC t) 6) (I 46 2) (A 47) (A 48)
    have sp : f_X9_seekPairs N (I 1 5) (I 1 6) (I 1 7) (A 2) (A 3) (A 4) (A 5) (A 6) (I 20 5) (I 20 6) (I 20 7) (A 21) (A 22) (A 23) (A 24) (A 25) (A 26) (A 27) (A 28) (I 46 2) (A 47) (A 48) = some (I 1 5, I 1 6, I 1 7, f3, t3, l3, k3, g3, on3, bk3, least3, o.1, o.2.1, o.2.2) := by
      unfold f_X9_seekPairs
      rw [e1', Option.bind_some, f7_oddCorners hv hc (by omega), Option.bind_some]
      show (f_X3_seek N (nI (bS (oddC t) 6)) (I 46 2) (A 47) (A 48) least3).bind _ = _
      rw [s1, Option.bind_some]
    have f9 : f_X9_matched N (nI a) (I 1 5) (I 1 6) (I 1 7) (A 2) (A 3) (A 4) (A 5) (A 6) (I 20 5) (I 20 6) (I 20 7) (A 21) (A 22) (A 23) (A 24) (A 25) (A 26) (A 27) (A 28) (I 46 2) (A 47) (A 48) (A 64) = some (o.2.2 a, I 1 5, I 1 6, I 1 7, f3, t3, l3, k3, g3, on3, bk3, least3, o.1, o.2.1, o.2.2, A 64) := by
      unfold f_X9_matched f_X3_partnerOf
      rw [f9_isCorner, Option.bind_some, if_neg (fun z => b2_0.mp z hx), sp, Option.bind_some, ga_ok ha (by decide), Option.bind_some, nI_clamp (by omega)]
    refine ⟨_, f9, ?_⟩
    obtain ⟨x, p, f10, f11⟩ := f10_matches (d := A 72) (pa := A 75) hv hm (show 100 ≤ N by omega)
    have f10' : f_X10_matched N (nI a) (A 66) (A 69) (A 72) (A 75) = some (p a, A 69, x, p) := by
      unfold f_X10_matched
      rw [f10_isCorner, Option.bind_some, if_neg (fun z => b2_0.mp z hx), f10, Option.bind_some, ga_ok ha (by decide), nI_clamp (by omega)]
    exact ⟨_, f10', (s3 a ha).trans (f11 a ha).symm, t, k, h1, h2, h3, h4, h5, h6, h7, h8⟩
  · have f9 : f_X9_matched N x1 (I 1 5) (I 1 6) (I 1 7) (A 2) (A 3) (A 4) (A 5) (A 6) (I 20 5) (I 20 6) (I 20 7) (A 21) (A 22) (A 23) (A 24) (A 25) (A 26) (A 27) (A 28) (I 46 2) (A 47) (A 48) (A 64) = some (-1, I 20 5, I 20 6, I 20 7, A 21, A 22, A 23, A 24, A 25, A 26, A 27, A 28, I 46 2, A 47, A 48, upd (A 64) 1 (A 64 1 + 1)) := by
      unfold f_X9_matched
      rw [f9_isCorner, Option.bind_some, if_pos (b2_0.mpr hx), rf9_1]; rfl
    refine ⟨_, f9, ?_⟩
    have f10 : ∀ r d p : Nat → Int32, f_X10_matched N x1 (A 66) r d p = some (-1, upd r 1 (r 1 + 1), d, p) := fun r d p => by
      unfold f_X10_matched
      rw [f10_isCorner, Option.bind_some, if_pos (b2_0.mpr hx), rf10_1]; rfl
    exact ⟨_, f10 _ _ _, rfl, t, k, h1, h2, h3, h4.up (by decide), h5, h6, h7, h8⟩
