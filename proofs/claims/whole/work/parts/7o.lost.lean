/-! streets that are lost by odds -/
theorem lgc0 {x y : Int64} : lg_cmp x y = 0 ↔ x = y := by
  unfold lg_cmp
  by_cases a : y < x
  · rw [if_pos a]
    exact ⟨fun q => absurd q (by decide), fun q => absurd q (fun w => lg_lt_ne a w.symm)⟩
  · rw [if_neg a]
    by_cases b : x = y
    · rw [if_pos b]; exact ⟨fun _ => b, fun _ => rfl⟩
    · rw [if_neg b]; exact ⟨fun q => absurd q (by decide), fun q => absurd q b⟩
theorem lgcN {a : Nat} (ha : a < 2 ^ 62) : lg_cmp (lN a) (0 : Int64) = 0 ↔ a = 0 := by
  rw [lgc0]
  exact pk_lEQ (b := 0) (by omega) (by decide)
theorem gdl_ok {α : Type} {a : Nat} (ha : a < 2 ^ 62) (h0 : a ≠ 0) {X : Option α} : gdl (lN a) X = X := if_neg (fun q => h0 ((pk_lEQ (b := 0) (by omega) (by decide)).mp q))
theorem gcd_st (a b : Nat) : Nat.gcd a b = Nat.gcd b (a % b) := by
  rw [Nat.gcd_comm a b, Nat.gcd_rec b a, Nat.gcd_comm]
theorem f9_gcd : ∀ (k a b i M : Nat), a < 2 ^ 62 → b < 2 ^ k → k ≤ 40 → i + 2 * k ≤ 198 → 2 * k + 2 ≤ M → lp (fun s_9 : Int64 × Int64 × Int32 => f_X9_commonDivisor_b9 s_9.2.2 s_9.1 s_9.2.1) M (lN a, lN b, nI i) = some (lN (Nat.gcd a b)) := by
  have ex : ∀ a i M, i ≤ 198 → 1 ≤ M → lp (fun s_9 : Int64 × Int64 × Int32 => f_X9_commonDivisor_b9 s_9.2.2 s_9.1 s_9.2.1) M (lN a, lN 0, nI i) = some (lN a) := fun a i M hi hM => by
    obtain ⟨M, rfl⟩ : ∃ M', M = M' + 1 := ⟨M - 1, by omega⟩
    apply lp_r
    show f_X9_commonDivisor_b9 (nI i) (lN a) (lN 0) = _
    unfold f_X9_commonDivisor_b9
    rw [if_neg (show ¬ (200 : Int32) ≤ nI i from nI_ge (b := 200) (by omega) (by decide)), if_pos ((lgcN (by decide)).mpr rfl)]
  have st : ∀ a b i M, a < 2 ^ 62 → b < 2 ^ 62 → b ≠ 0 → i ≤ 198 → lp (fun s_9 : Int64 × Int64 × Int32 => f_X9_commonDivisor_b9 s_9.2.2 s_9.1 s_9.2.1) (M + 1) (lN a, lN b, nI i) = lp (fun s_9 : Int64 × Int64 × Int32 => f_X9_commonDivisor_b9 s_9.2.2 s_9.1 s_9.2.1) M (lN b, lN (a % b), nI (i + 1)) := fun a b i M ha hb h0 hi => by
    apply lp_l
    show f_X9_commonDivisor_b9 (nI i) (lN a) (lN b) = _
    unfold f_X9_commonDivisor_b9
    rw [if_neg (show ¬ (200 : Int32) ≤ nI i from nI_ge (b := 200) (by omega) (by decide)), if_neg (fun q => h0 ((lgcN hb).mp q)), gdl_ok hb h0, pk_lRem (by omega) (by omega) (by omega), nI_1]
  intro k
  induction k with
  | zero =>
    intro a b i M ha hb hk hi hM
    have : b = 0 := by omega
    subst this
    rw [ex a i M (by omega) (by omega), Nat.gcd_zero_right]
  | succ k ih =>
    intro a b i M ha hb hk hi hM
    have hp : (2 : Nat) ^ (k + 1) ≤ 2 ^ 40 := Nat.pow_le_pow_right (by decide) hk
    have hp2 : (2 : Nat) ^ (k + 1) = 2 * 2 ^ k := by rw [Nat.pow_succ]; omega
    by_cases z : b = 0
    · subst z
      rw [ex a i M (by omega) (by omega), Nat.gcd_zero_right]
    · obtain ⟨M, rfl⟩ : ∃ M', M = M' + 2 := ⟨M - 2, by omega⟩
      have r1 : a % b < b := Nat.mod_lt _ (by omega)
      rw [st a b i (M + 1) ha (by omega) z (by omega), gcd_st a b]
      by_cases y : a % b = 0
      · rw [y, ex b (i + 1) (M + 1) (by omega) (by omega), Nat.gcd_zero_right]
      · have r2 : b % (a % b) < a % b := Nat.mod_lt _ (by omega)
        have r3 := Nat.div_add_mod b (a % b)
        have r4 : 1 ≤ b / (a % b) := Nat.div_pos (by omega) (by omega)
        have r5 : a % b * 1 ≤ a % b * (b / (a % b)) := Nat.mul_le_mul_left _ r4
        rw [st b (a % b) (i + 1) M (by omega) (by omega) y (by omega), gcd_st b (a % b)]
        exact ih (a % b) (b % (a % b)) (i + 2) M (by omega) (by omega) (by omega) (by omega) (by omega)
theorem f10_gcd : ∀ (k a b M : Nat), a < 2 ^ 62 → b < 2 ^ k → k ≤ 40 → 2 * k + 2 ≤ M → lp (fun s_6 : Int64 × Int64 => f_X10_lowest_b6 s_6.2 s_6.1) M (lN a, lN b) = some (lN (Nat.gcd a b)) := by
  have ex : ∀ a M, 1 ≤ M → lp (fun s_6 : Int64 × Int64 => f_X10_lowest_b6 s_6.2 s_6.1) M (lN a, lN 0) = some (lN a) := fun a M hM => by
    obtain ⟨M, rfl⟩ : ∃ M', M = M' + 1 := ⟨M - 1, by omega⟩
    apply lp_r
    show f_X10_lowest_b6 (lN 0) (lN a) = _
    unfold f_X10_lowest_b6
    rw [if_pos ((lgcN (by decide)).mpr rfl)]
  have st : ∀ a b M, a < 2 ^ 62 → b < 2 ^ 62 → b ≠ 0 → lp (fun s_6 : Int64 × Int64 => f_X10_lowest_b6 s_6.2 s_6.1) (M + 1) (lN a, lN b) = lp (fun s_6 : Int64 × Int64 => f_X10_lowest_b6 s_6.2 s_6.1) M (lN b, lN (a % b)) := fun a b M ha hb h0 => by
    apply lp_l
    show f_X10_lowest_b6 (lN b) (lN a) = _
    unfold f_X10_lowest_b6
    rw [if_neg (fun q => h0 ((lgcN hb).mp q)), gdl_ok hb h0, pk_lRem (by omega) (by omega) (by omega)]
  intro k
  induction k with
  | zero =>
    intro a b M ha hb hk hM
    have : b = 0 := by omega
    subst this
    rw [ex a M (by omega), Nat.gcd_zero_right]
  | succ k ih =>
    intro a b M ha hb hk hM
    have hp : (2 : Nat) ^ (k + 1) ≤ 2 ^ 40 := Nat.pow_le_pow_right (by decide) hk
    have hp2 : (2 : Nat) ^ (k + 1) = 2 * 2 ^ k := by rw [Nat.pow_succ]; omega
    by_cases z : b = 0
    · subst z
      rw [ex a M (by omega), Nat.gcd_zero_right]
    · obtain ⟨M, rfl⟩ : ∃ M', M = M' + 2 := ⟨M - 2, by omega⟩
      have r1 : a % b < b := Nat.mod_lt _ (by omega)
      rw [st a b (M + 1) ha (by omega) z, gcd_st a b]
      by_cases y : a % b = 0
      · rw [y, ex b (M + 1) (by omega), Nat.gcd_zero_right]
      · have r2 : b % (a % b) < a % b := Nat.mod_lt _ (by omega)
        have r3 := Nat.div_add_mod b (a % b)
        have r4 : 1 ≤ b / (a % b) := Nat.div_pos (by omega) (by omega)
        have r5 : a % b * 1 ≤ a % b * (b / (a % b)) := Nat.mul_le_mul_left _ r4
        rw [st b (a % b) M (by omega) (by omega) y, gcd_st b (a % b)]
        exact ih (a % b) (b % (a % b)) M (by omega) (by omega) (by omega) (by omega)
theorem f9_power (b k : Nat) (hk : k ≤ 50) {N : Nat} (hN : 100 ≤ N) : f_X9_power N (lN b) (nI k) = some (lN (b ^ k)) := by
  have hl := lp_seq (b := fun s_5 : Int64 × Int32 => f_X9_power_b5 (nI k) s_5.2 s_5.1 (lN b)) (fun i => (lN (b ^ i), nI i)) (lN (b ^ k)) k (fun i hi => by
    show f_X9_power_b5 (nI k) (nI i) (lN (b ^ i)) (lN b) = _
    unfold f_X9_power_b5
    rw [if_neg (nI_ge hi (by omega)), lN_mul, nI_1, Nat.pow_succ]) (by
    show f_X9_power_b5 (nI k) (nI k) (lN (b ^ k)) (lN b) = _
    unfold f_X9_power_b5
    rw [if_pos (nI_le (Nat.le_refl _) (by omega))]) k 0 N (by omega) (by omega)
  unfold f_X9_power
  rw [show lp (fun s_5 : Int64 × Int32 => f_X9_power_b5 (nI k) s_5.2 s_5.1 (lN b)) N ((1 : Int64), (0 : Int32)) = some (lN (b ^ k)) from hl, Option.bind_some]
/-- how many of the set that may be lost stand -/
def odN (M g : Nat) : Nat → Nat := cnt (fun s => !g.testBit s && M.testBit s)
def difN (M g : Nat) : Nat := M - (M &&& g)
def difB (M g : Nat) : Bool := decide (nI M &&& (nI g ^^^ (-1)) = nI (difN M g)) && (decide (difN M g < 256) && decide (cnt (fun i => (difN M g).testBit i) 8 = odN M g 6))
theorem difB_ok : ∀ M, M < 64 → ∀ g, g < 64 → difB M g = true := by decide +kernel
theorem odN_le (M g : Nat) : ∀ n, odN M g n ≤ n := cnt_le _
noncomputable def gdN (t : Nat → Nat) (M n T : Nat) : Nat → Nat
  | 0 => 0
  | k + 1 => gdN t M n T k + if k &&& M = k ∧ rC (closeT t k) ≤ n then (T - 1) ^ odN M k 6 else 0
theorem pw_le {T c : Nat} (hT : T ≤ 20) (hc : c ≤ 6) : (T - 1) ^ c ≤ 64000000 ∧ T ^ c ≤ 64000000 := by
  have h1 : (20 : Nat) ^ c ≤ 20 ^ 6 := Nat.pow_le_pow_right (by decide) hc
  have h2 : T ^ c ≤ 20 ^ c := Nat.pow_le_pow_left hT c
  have h3 : (T - 1) ^ c ≤ 20 ^ c := Nat.pow_le_pow_left (by omega) c
  have h4 : (20 : Nat) ^ 6 = 64000000 := by decide
  omega
theorem gdN_le (t : Nat → Nat) {M n T : Nat} (hT : T ≤ 20) : ∀ k, gdN t M n T k ≤ 64000000 * k
  | 0 => Nat.le_refl _
  | k + 1 => by
    have ih := gdN_le t (M := M) (n := n) hT k
    have h1 := (pw_le hT (odN_le M k 6)).1
    unfold gdN
    split <;> omega
def kM (t : Nat → Nat) : Nat := if t 49 < 6 then t 49 else 6
theorem may_eq (t : Nat → Nat) : bS (opS t) (t 49) &&& 63 = bS (opS t) (kM t) := by
  apply Nat.eq_of_testBit_eq
  intro i
  rw [Nat.testBit_and, bS_bit, bS_bit, show (63 : Nat) = 2 ^ 6 - 1 from rfl, Nat.testBit_two_pow_sub_one]
  unfold kM
  by_cases a : t 49 < 6
  · rw [if_pos a]
    by_cases b : i < t 49
    · rw [decide_eq_true b, decide_eq_true (show i < 6 by omega), Bool.and_true]
    · rw [decide_eq_false b]; rfl
  · rw [if_neg a]
    by_cases b : i < 6
    · rw [decide_eq_true b, decide_eq_true (show i < t 49 by omega), Bool.and_true]
    · rw [decide_eq_false b, Bool.and_false]; rfl
theorem may_lt (t : Nat → Nat) : bS (opS t) (kM t) < 64 := by
  have h := bS_lt (opS t) (kM t)
  have h2 : (2 : Nat) ^ kM t ≤ 2 ^ 6 := Nat.pow_le_pow_right (by decide) (by unfold kM; split <;> omega)
  omega
theorem may_sub {t : Nat → Nat} {g : Nat} (h : g &&& bS (opS t) (kM t) = g) : g < 2 ^ t 49 := by
  have h1 := bS_lt (opS t) (kM t)
  have h2 : (2 : Nat) ^ kM t ≤ 2 ^ t 49 := Nat.pow_le_pow_right (by decide) (by unfold kM; split <;> omega)
  have h3 := Nat.and_le_right (n := g) (m := bS (opS t) (kM t))
  omega
theorem f9_goodOdds {t : Nat → Nat} {fr to ln kd fg : Nat → Int32} {cl sz hm : Int32} (hv : vT t) (hc : cR t fr to ln kd fg cl sz hm) {n T : Nat} (hn : n ≤ 9999) (hT2 : 2 ≤ T) (hT : T ≤ 20) (z : TT) (hz : TTok z) {N : Nat} (hN : 1000 ≤ N) : ∃ z', f_X9_goodOdds N (nI (bS (opS t) (kM t))) (nI n) (nI T) cl sz hm fr to ln kd fg z.1 z.2.1 z.2.2.1 z.2.2.2.1 z.2.2.2.2.1 z.2.2.2.2.2.1 z.2.2.2.2.2.2.1 z.2.2.2.2.2.2.2.1 z.2.2.2.2.2.2.2.2.1 z.2.2.2.2.2.2.2.2.2.1 z.2.2.2.2.2.2.2.2.2.2.1 z.2.2.2.2.2.2.2.2.2.2.2.1 z.2.2.2.2.2.2.2.2.2.2.2.2.1 z.2.2.2.2.2.2.2.2.2.2.2.2.2.1 z.2.2.2.2.2.2.2.2.2.2.2.2.2.2.1 z.2.2.2.2.2.2.2.2.2.2.2.2.2.2.2.1 z.2.2.2.2.2.2.2.2.2.2.2.2.2.2.2.2.1 z.2.2.2.2.2.2.2.2.2.2.2.2.2.2.2.2.2.1 z.2.2.2.2.2.2.2.2.2.2.2.2.2.2.2.2.2.2.1 z.2.2.2.2.2.2.2.2.2.2.2.2.2.2.2.2.2.2.2.1 z.2.2.2.2.2.2.2.2.2.2.2.2.2.2.2.2.2.2.2.2.1 z.2.2.2.2.2.2.2.2.2.2.2.2.2.2.2.2.2.2.2.2.2.1 z.2.2.2.2.2.2.2.2.2.2.2.2.2.2.2.2.2.2.2.2.2.2.1 z.2.2.2.2.2.2.2.2.2.2.2.2.2.2.2.2.2.2.2.2.2.2.2.1 z.2.2.2.2.2.2.2.2.2.2.2.2.2.2.2.2.2.2.2.2.2.2.2.2.1 z.2.2.2.2.2.2.2.2.2.2.2.2.2.2.2.2.2.2.2.2.2.2.2.2.2.1 z.2.2.2.2.2.2.2.2.2.2.2.2.2.2.2.2.2.2.2.2.2.2.2.2.2.2.1 z.2.2.2.2.2.2.2.2.2.2.2.2.2.2.2.2.2.2.2.2.2.2.2.2.2.2.2 = some (lN (gdN t (bS (opS t) (kM t)) n T 64), z') ∧ TTok z' := by
  have hM := may_lt t
  obtain ⟨⟨ce, cz⟩, e1, q1, q2⟩ := lp_cnt (b := fun s_6 : Int64 × Int32 × TT => f_X9_goodOdds_b6 N s_6.2.1 s_6.1 s_6.2.2.1 s_6.2.2.2.1 s_6.2.2.2.2.1 s_6.2.2.2.2.2.1 s_6.2.2.2.2.2.2.1 s_6.2.2.2.2.2.2.2.1 s_6.2.2.2.2.2.2.2.2.1 s_6.2.2.2.2.2.2.2.2.2.1 s_6.2.2.2.2.2.2.2.2.2.2.1 s_6.2.2.2.2.2.2.2.2.2.2.2.1 s_6.2.2.2.2.2.2.2.2.2.2.2.2.1 s_6.2.2.2.2.2.2.2.2.2.2.2.2.2.1 s_6.2.2.2.2.2.2.2.2.2.2.2.2.2.2.1 s_6.2.2.2.2.2.2.2.2.2.2.2.2.2.2.2.1 s_6.2.2.2.2.2.2.2.2.2.2.2.2.2.2.2.2.1 s_6.2.2.2.2.2.2.2.2.2.2.2.2.2.2.2.2.2.1 s_6.2.2.2.2.2.2.2.2.2.2.2.2.2.2.2.2.2.2.1 s_6.2.2.2.2.2.2.2.2.2.2.2.2.2.2.2.2.2.2.2.1 s_6.2.2.2.2.2.2.2.2.2.2.2.2.2.2.2.2.2.2.2.2.1 s_6.2.2.2.2.2.2.2.2.2.2.2.2.2.2.2.2.2.2.2.2.2.1 s_6.2.2.2.2.2.2.2.2.2.2.2.2.2.2.2.2.2.2.2.2.2.2.1 s_6.2.2.2.2.2.2.2.2.2.2.2.2.2.2.2.2.2.2.2.2.2.2.2.1 s_6.2.2.2.2.2.2.2.2.2.2.2.2.2.2.2.2.2.2.2.2.2.2.2.2.1 s_6.2.2.2.2.2.2.2.2.2.2.2.2.2.2.2.2.2.2.2.2.2.2.2.2.2.1 s_6.2.2.2.2.2.2.2.2.2.2.2.2.2.2.2.2.2.2.2.2.2.2.2.2.2.2.1 s_6.2.2.2.2.2.2.2.2.2.2.2.2.2.2.2.2.2.2.2.2.2.2.2.2.2.2.2.1 s_6.2.2.2.2.2.2.2.2.2.2.2.2.2.2.2.2.2.2.2.2.2.2.2.2.2.2.2.2.1 s_6.2.2.2.2.2.2.2.2.2.2.2.2.2.2.2.2.2.2.2.2.2.2.2.2.2.2.2.2.2 (nI (bS (opS t) (kM t))) cl sz hm fr to ln kd fg (nI n) (nI T)) (fun i z => (lN (gdN t (bS (opS t) (kM t)) n T i), nI i, z)) (fun _ z => TTok z) (fun e : Int64 × TT => e.1 = lN (gdN t (bS (opS t) (kM t)) n T 64) ∧ TTok e.2) 64 (fun i z hi hz => by
    dsimp only
    unfold f_X9_goodOdds_b6
    rw [if_neg (show ¬ (63 : Int32) < nI i from nI_nlt (a := 63) (by omega) (by decide)), nI_1]
    by_cases y : i &&& bS (opS t) (kM t) = i
    · obtain ⟨f4, t4, l4, k4, g4, c1, c2⟩ := f7_takeOver (f2 := z.2.2.2.1) (t2 := z.2.2.2.2.1) (l2 := z.2.2.2.2.2.1) (k2 := z.2.2.2.2.2.2.1) (g2 := z.2.2.2.2.2.2.2.1) (c2 := z.1) (s2 := z.2.1) (h2 := z.2.2.1) hv hc
      obtain ⟨q', c3, c4⟩ := f9_costOfTrial (hv.close i) (c2.close hv (may_sub y)) z.2.2.2.2.2.2.2.2 hz hN
      have rl := rC_le (hv.close i)
      refine ⟨(cl ||| nI i, sz, hm, f4, t4, l4, k4, g4, q'), ?_, c4⟩
      rw [if_pos ((sub_test (by omega)).mpr y), c1, Option.bind_some]
      dsimp only
      unfold f_X7_close
      rw [Option.bind_some, c3, Option.bind_some]
      dsimp only
      show _ = some (Sum.inl (lN (gdN t (bS (opS t) (kM t)) n T i + if i &&& bS (opS t) (kM t) = i ∧ rC (closeT t i) ≤ n then (T - 1) ^ odN (bS (opS t) (kM t)) i 6 else 0), _))
      by_cases w : rC (closeT t i) ≤ n
      · have db := difB_ok _ hM i hi
        unfold difB at db
        rw [Bool.and_eq_true, Bool.and_eq_true, decide_eq_true_iff, decide_eq_true_iff, decide_eq_true_iff] at db
        have ho := odN_le (bS (opS t) (kM t)) i 6
        rw [if_neg (nI_nlt w (by omega)), db.1, bitCount_8 _ db.2.1, Option.bind_some, db.2.2, show nI T - (1 : Int32) = nI (T - 1) from pk_sub (b := 1) (by omega), nI_l (by omega), f9_power _ _ (by omega) (by omega), Option.bind_some, lN_add, if_pos ⟨y, w⟩]
      · rw [if_pos (nI_lt (by omega) (by omega)), if_neg (fun q => w q.2)]; rfl
    · refine ⟨z, ?_, hz⟩
      rw [if_neg (fun q => y ((sub_test (by omega)).mp q))]
      show _ = some (Sum.inl (lN (gdN t (bS (opS t) (kM t)) n T i + if i &&& bS (opS t) (kM t) = i ∧ rC (closeT t i) ≤ n then (T - 1) ^ odN (bS (opS t) (kM t)) i 6 else 0), _))
      rw [if_neg (fun q => y q.1)]; rfl) (fun z hz => by
    refine ⟨(lN (gdN t (bS (opS t) (kM t)) n T 64), z), ?_, rfl, hz⟩
    dsimp only
    unfold f_X9_goodOdds_b6
    rw [if_pos (show (63 : Int32) < nI 64 by decide)]) 64 0 N z (by omega) (by omega) hz
  dsimp only at q1 q2
  refine ⟨cz, ?_, q2⟩
  unfold f_X9_goodOdds
  rw [← q1]
  exact (congrArg (fun o => Option.bind o _) e1).trans rfl
theorem f10_mayAll {t : Nat → Nat} {w : Nat → Int32} (hv : vT t) (h : mR t w) {T : Nat} (hT : T ≤ 20) {N : Nat} (hN : 100 ≤ N) : lp (fun s_62 : Int32 × Int64 × Int32 => f_X10_lost_b62 w s_62.2.2 s_62.1 s_62.2.1 (nI T)) N ((0 : Int32), (1 : Int64), (0 : Int32)) = some (nI (bS (opS t) (kM t)), lN (T ^ cnt (opS t) (kM t))) := by
  have h8 := hv.1
  have hk : kM t ≤ t 49 ∧ kM t ≤ 6 := by unfold kM; split <;> omega
  have lim : (if nI (t 49) < (6 : Int32) then nI (t 49) else (6 : Int32)) = nI (kM t) := minI (b := 6) (by omega) (by decide)
  exact lp_seq (b := fun s_62 : Int32 × Int64 × Int32 => f_X10_lost_b62 w s_62.2.2 s_62.1 s_62.2.1 (nI T)) (fun i => (nI (bS (opS t) i), lN (T ^ cnt (opS t) i), nI i)) (nI (bS (opS t) (kM t)), lN (T ^ cnt (opS t) (kM t))) (kM t) (fun i hi => by
    show f_X10_lost_b62 w (nI i) (nI (bS (opS t) i)) (lN (T ^ cnt (opS t) i)) (nI T) = some (.inl (nI (bS (opS t) (i + 1)), lN (T ^ (cnt (opS t) i + if opS t i then 1 else 0)), nI (i + 1)))
    have hi9 : i < t 49 := by omega
    have ho := (hv.2.2.1 i hi9).2.2.2.2.2.2.2
    have a40 : (40 : Int32) + nI i = nI (8 * 5 + i) := nI_add 40 _
    have w40 : w (8 * 5 + i) = nI (t (40 + i)) := h.2.2 5 (by decide) _ hi9
    unfold f_X10_lost_b62
    rw [ga_in (by decide), show w (Int32.toNatClampNeg (49 : Int32)) = nI (t 49) from h.1, lim, if_neg (nI_ge hi (by omega)), a40, ga_ok (by omega) (by decide), ga_ok (by omega) (by decide), nI_clamp (by omega), w40, nI_1]
    by_cases d : t (40 + i) = 1
    · have ot : opS t i = true := decide_eq_true d
      rw [d, if_pos (show nI 1 = 1 from rfl), show nI 1 = (1 : Int32) from rfl, sh1 (by omega), xI_or, bS_t ot, nI_l (by omega), lN_mul, ← Nat.pow_succ, if_pos ot]
    · have ot : ¬ opS t i = true := fun q => d (of_decide_eq_true q)
      rw [show t (40 + i) = 0 by omega, if_neg (show ¬ nI 0 = 1 by decide), pk_shlN (n := 0) (nI i &&& 31) i (sm32 i (by omega)) (by omega), Nat.zero_mul, xI_or, Nat.or_zero, bS_f ot, if_neg ot, show (1 : Int64) = lN 1 from rfl, lN_mul, Nat.mul_one]; rfl) (by
    show f_X10_lost_b62 w (nI (kM t)) (nI (bS (opS t) (kM t))) (lN (T ^ cnt (opS t) (kM t))) (nI T) = _
    unfold f_X10_lost_b62
    rw [ga_in (by decide), show w (Int32.toNatClampNeg (49 : Int32)) = nI (t 49) from h.1, lim, if_pos (nI_le (Nat.le_refl _) (by omega))]) (kM t) 0 N (by omega) (by omega)
theorem f10_closes {t : Nat → Nat} {w : Nat → Int32} (hv : vT t) (h : mR t w) {M g T : Nat} (hM : M < 64) (hg : g < 64) (hT2 : 2 ≤ T) (hT : T ≤ 20) {N : Nat} (hN : 100 ≤ N) : ∃ w', lp (fun s_166 : Int64 × Int32 × (Nat → Int32) => f_X10_lost_b166 s_166.2.1 s_166.1 s_166.2.2 (nI g) (nI M) (nI T)) N ((1 : Int64), (0 : Int32), w) = some (lN ((T - 1) ^ odN M g 6), w') ∧ mR (closeT t g) w' := by
  have h8 := hv.1
  obtain ⟨⟨a, b⟩, e1, e2, e3⟩ := lp_cnt (b := fun s_166 : Int64 × Int32 × (Nat → Int32) => f_X10_lost_b166 s_166.2.1 s_166.1 s_166.2.2 (nI g) (nI M) (nI T)) (fun i x => (lN ((T - 1) ^ odN M g i), nI i, x)) (fun i x => x 49 = nI (t 49) ∧ x 48 = nI (t 48) ∧ ∀ r, r < 6 → ∀ s, s < t 49 → x (8 * r + s) = nI (if r = 5 ∧ s < i ∧ g.testBit s = true then 0 else t (8 * r + s))) (fun e : Int64 × (Nat → Int32) => e.1 = lN ((T - 1) ^ odN M g 6) ∧ mR (closeT t g) e.2) 6 (fun i x hi hp => by
    obtain ⟨p1, p2, p3⟩ := hp
    by_cases y : g.testBit i = true
    · refine ⟨upd x (40 + i) 0, ?_, by rw [pk_un (by omega)]; exact p1, by rw [pk_un (by omega)]; exact p2, fun r hr s hs => ?_⟩
      · show f_X10_lost_b166 (nI i) (lN ((T - 1) ^ odN M g i)) x (nI g) (nI M) (nI T) = some (.inl (lN ((T - 1) ^ (odN M g i + if (!g.testBit i && M.testBit i) then 1 else 0)), nI (i + 1), upd x (40 + i) 0))
        unfold f_X10_lost_b166
        rw [if_neg (show ¬ (6 : Int32) ≤ nI i from nI_ge (b := 6) hi (by decide)), if_pos ((bitI' hg (by omega)).mpr y), show (40 : Int32) + nI i = nI (40 + i) from nI_add 40 i, ga_ok (by omega) (by decide), nI_clamp (by omega), nI_1, y]; rfl
      · by_cases e : 8 * r + s = 40 + i
        · rw [e, pk_us, if_pos ⟨by omega, by omega, by rw [show s = i by omega]; exact y⟩]; rfl
        · rw [pk_un e, p3 r hr s hs]
          congr 1
          by_cases c : r = 5 ∧ s < i ∧ g.testBit s = true
          · rw [if_pos c, if_pos ⟨c.1, by omega, c.2.2⟩]
          · rw [if_neg c, if_neg (fun q => c ⟨q.1, by omega, q.2.2⟩)]
    · refine ⟨x, ?_, p1, p2, fun r hr s hs => ?_⟩
      · show f_X10_lost_b166 (nI i) (lN ((T - 1) ^ odN M g i)) x (nI g) (nI M) (nI T) = some (.inl (lN ((T - 1) ^ (odN M g i + if (!g.testBit i && M.testBit i) then 1 else 0)), nI (i + 1), x))
        unfold f_X10_lost_b166
        rw [if_neg (show ¬ (6 : Int32) ≤ nI i from nI_ge (b := 6) hi (by decide)), if_neg (fun q => y ((bitI' hg (by omega)).mp q)), nI_1]
        rw [Bool.not_eq_true] at y
        by_cases m : M.testBit i = true
        · rw [if_pos ((bitI' hM (by omega)).mpr m), show nI T - (1 : Int32) = nI (T - 1) from pk_sub (b := 1) (by omega), nI_l (by omega), lN_mul, ← Nat.pow_succ, y, m]; rfl
        · rw [if_neg (fun q => m ((bitI' hM (by omega)).mp q))]
          rw [Bool.not_eq_true] at m
          rw [y, m]; rfl
      · rw [p3 r hr s hs]
        congr 1
        by_cases c : r = 5 ∧ s < i ∧ g.testBit s = true
        · rw [if_pos c, if_pos ⟨c.1, by omega, c.2.2⟩]
        · rw [if_neg c, if_neg (fun q => by
            by_cases e : s = i
            · exact y (by rw [← e]; exact q.2.2)
            · exact c ⟨q.1, by omega, q.2.2⟩)]) (fun x hp => by
    obtain ⟨p1, p2, p3⟩ := hp
    have e49 : closeT t g 49 = t 49 := closeT_o (by omega)
    have e48 : closeT t g 48 = t 48 := closeT_o (by omega)
    refine ⟨(lN ((T - 1) ^ odN M g 6), x), ?_, rfl, by rw [e49]; exact p1, by rw [e48]; exact p2, fun r hr s hs => ?_⟩
    · show f_X10_lost_b166 (nI 6) (lN ((T - 1) ^ odN M g 6)) x (nI g) (nI M) (nI T) = _
      unfold f_X10_lost_b166
      rw [if_pos (show (6 : Int32) ≤ nI 6 by decide)]
    · rw [e49] at hs
      show x (8 * r + s) = _
      rw [p3 r hr s hs]
      congr 1
      by_cases e : r = 5
      · subst e
        rw [show 8 * 5 + s = 40 + s by omega, closeT_s (by omega)]
        by_cases c : g.testBit s = true
        · have : s < 6 := by
            by_cases q : s < 6
            · exact q
            · have := Nat.testBit_lt_two_pow (show g < 2 ^ s from Nat.lt_of_lt_of_le hg (show 2 ^ 6 ≤ 2 ^ s from Nat.pow_le_pow_right (by decide) (by omega)))
              rw [this] at c; cases c
          rw [if_pos ⟨rfl, this, c⟩, if_pos c]
        · rw [if_neg (fun q => c q.2.2), if_neg c]
      · rw [if_neg (fun q => e q.1), closeT_o (by omega)]) 6 0 N w (by omega) (by omega) ⟨h.1, h.2.1, fun r hr s hs => by rw [if_neg (fun q => by omega)]; exact h.2.2 r hr s hs⟩
  dsimp only at e2 e3
  refine ⟨b, ?_, e3⟩
  rw [← e2]
  exact e1
theorem f10_odds {t : Nat → Nat} {w x lf : Nat → Int32} (hv : vT t) (h : mR t w) {n T : Nat} (hn : n ≤ 9999) (hT2 : 2 ≤ T) (hT : T ≤ 20) {N : Nat} (hN : 8000000 ≤ N) : ∃ x' y', lp (fun s_134 : Int64 × Int32 × (Nat → Int32) × (Nat → Int32) => f_X10_lost_b134 N s_134.2.1 s_134.1 s_134.2.2.1 s_134.2.2.2 (nI (bS (opS t) (kM t))) w (nI T) (nI n)) N ((0 : Int64), (0 : Int32), x, lf) = some (lN (gdN t (bS (opS t) (kM t)) n T 64), x', y') := by
  have hM := may_lt t
  obtain ⟨⟨a, b, c⟩, e1, e2⟩ := lp_cnt (b := fun s_134 : Int64 × Int32 × (Nat → Int32) × (Nat → Int32) => f_X10_lost_b134 N s_134.2.1 s_134.1 s_134.2.2.1 s_134.2.2.2 (nI (bS (opS t) (kM t))) w (nI T) (nI n)) (fun i x => (lN (gdN t (bS (opS t) (kM t)) n T i), nI i, x)) (fun _ _ => True) (fun e : Int64 × (Nat → Int32) × (Nat → Int32) => e.1 = lN (gdN t (bS (opS t) (kM t)) n T 64)) 64 (fun i x hi _ => by
    obtain ⟨tr, lf⟩ := x
    dsimp only
    unfold f_X10_lost_b134
    rw [if_neg (show ¬ (64 : Int32) ≤ nI i from nI_ge (b := 64) hi (by decide)), nI_1]
    by_cases y : i &&& bS (opS t) (kM t) = i
    · obtain ⟨w1, c1, c2⟩ := f10_thought (x := tr) hv h (show 100 ≤ N by omega)
      obtain ⟨w2, c3, c4⟩ := f10_closes hv c2 hM hi hT2 hT (show 100 ≤ N by omega)
      obtain ⟨y', c5⟩ := f10_roundOfC (x := lf) (hv.close i) c4 hN
      have rl := rC_le (hv.close i)
      have hin : f_X10_in (Int32.toInt64 (toldC (rC (closeT t i)))) (0 : Int64) (Int32.toInt64 (nI n)) = some (b2 (rC (closeT t i) ≤ n)) := in_neg (by
        rw [t64, t64, nI_toInt (show n < 2 ^ 31 by omega), show (0 : Int64).toInt = 0 from rfl]
        by_cases q : rC (closeT t i) < 1000000
        · rw [show toldC (rC (closeT t i)) = nI (rC (closeT t i)) from if_pos q, nI_toInt (by omega)]; omega
        · rw [show toldC (rC (closeT t i)) = -9 from if_neg q, show (-9 : Int32).toInt = -9 from rfl]; omega)
      refine ⟨(w2, y'), ?_, trivial⟩
      rw [if_pos ((sub_test (by omega)).mpr y), c1, Option.bind_some, c3, Option.bind_some]
      dsimp only
      rw [c5, Option.bind_some]
      dsimp only
      rw [hin, Option.bind_some]
      show _ = some (Sum.inl (lN (gdN t (bS (opS t) (kM t)) n T i + if i &&& bS (opS t) (kM t) = i ∧ rC (closeT t i) ≤ n then (T - 1) ^ odN (bS (opS t) (kM t)) i 6 else 0), _))
      by_cases q : rC (closeT t i) ≤ n
      · rw [if_neg (fun u => b2_0.mp u q), if_pos ⟨y, q⟩, lN_add]
      · rw [if_pos (b2_0.mpr q), if_neg (fun u => q u.2), show (0 : Int64) = lN 0 from rfl, lN_add]
    · refine ⟨(tr, lf), ?_, trivial⟩
      rw [if_neg (fun q => y ((sub_test (by omega)).mp q))]
      show _ = some (Sum.inl (lN (gdN t (bS (opS t) (kM t)) n T i + if i &&& bS (opS t) (kM t) = i ∧ rC (closeT t i) ≤ n then (T - 1) ^ odN (bS (opS t) (kM t)) i 6 else 0), _))
      rw [if_neg (fun q => y q.1)]; rfl) (fun x _ => by
    refine ⟨(lN (gdN t (bS (opS t) (kM t)) n T 64), x), ?_, rfl⟩
    dsimp only
    unfold f_X10_lost_b134
    rw [if_pos (show (64 : Int32) ≤ nI 64 by decide)]) 64 0 N (x, lf) (by omega) (by omega) trivial
  dsimp only at e2
  refine ⟨b, c, ?_⟩
  rw [← e2]
  exact e1
