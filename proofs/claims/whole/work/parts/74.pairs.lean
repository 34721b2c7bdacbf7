/-! corners by twos -/
def low (S : Nat) : Nat := ((List.range 6).find? (fun i => S.testBit i)).getD 6
def pcS (S : Nat) : Nat := cnt (fun i => S.testBit i) 6
def rm (S i j : Nat) : Nat := S - 2 ^ i - 2 ^ j
theorem low_ok : ∀ S, S < 64 → 0 < S → (low S < 6 ∧ S.testBit (low S) = true ∧ (∀ j, j < low S → S.testBit j = false)) ∧ f_J6_numberOfTrailingZeros_0f7a4 (nI S) = some (nI (low S)) := by decide +kernel
def rmB (S i j : Nat) : Bool := decide (nI S &&& ((nI (2 ^ i) ||| nI (2 ^ j)) ^^^ (-1)) = nI (rm S i j)) && (decide ((nI S &&& (nI (2 ^ i) ^^^ (-1))) &&& (nI (2 ^ j) ^^^ (-1)) = nI (rm S i j)) && (decide (pcS (rm S i j) + 2 = pcS S) && (List.range 6).all (fun q => (rm S i j).testBit q == (S.testBit q && decide (q ≠ i) && decide (q ≠ j)))))
theorem rmB_ok : ∀ S, S < 64 → ∀ i, i < 6 → ∀ j, j < 6 → (!(S.testBit i && S.testBit j && decide (i ≠ j)) || rmB S i j) = true := by decide +kernel
theorem rm_ok (S : Nat) (hS : S < 64) (i : Nat) (hi : i < 6) (j : Nat) (hj : j < 6) (h1 : S.testBit i = true) (h2 : S.testBit j = true) (h3 : i ≠ j) : nI S &&& ((nI (2 ^ i) ||| nI (2 ^ j)) ^^^ (-1)) = nI (rm S i j) ∧ (nI S &&& (nI (2 ^ i) ^^^ (-1))) &&& (nI (2 ^ j) ^^^ (-1)) = nI (rm S i j) ∧ pcS (rm S i j) + 2 = pcS S ∧ ∀ q, q < 6 → (rm S i j).testBit q = (S.testBit q && decide (q ≠ i) && decide (q ≠ j)) := by
  have h := rmB_ok S hS i hi j hj
  rw [h1, h2, decide_eq_true h3] at h
  have h' : rmB S i j = true := h
  unfold rmB at h'
  rw [Bool.and_eq_true, Bool.and_eq_true, Bool.and_eq_true, decide_eq_true_iff, decide_eq_true_iff, decide_eq_true_iff, List.all_eq_true] at h'
  exact ⟨h'.1, h'.2.1, h'.2.2.1, fun q hq => beq_iff_eq.mp (h'.2.2.2 q (List.mem_range.mpr hq))⟩
theorem pcS_le (S : Nat) : pcS S ≤ 6 := cnt_le _ 6
theorem rm_lt {S i j : Nat} (h : S ≠ 0) : rm S i j < S := by
  have := Nat.two_pow_pos i
  exact Nat.lt_of_le_of_lt (Nat.sub_le _ _) (Nat.sub_lt (by omega) this)
def mAcc (F : Nat → Nat) (S i : Nat) : Nat → Nat
  | 0 => 1000000
  | n + 1 => if S.testBit (i + 1 + n) = true ∧ F (i + 1 + n) < mAcc F S i n then F (i + 1 + n) else mAcc F S i n
def jAcc (F : Nat → Nat) (S i : Nat) : Nat → Nat
  | 0 => 0
  | n + 1 => if S.testBit (i + 1 + n) = true ∧ F (i + 1 + n) < mAcc F S i n then i + 1 + n else jAcc F S i n
theorem mAcc_le (F : Nat → Nat) (S i : Nat) : ∀ n, mAcc F S i n ≤ 1000000
  | 0 => Nat.le_refl _
  | n + 1 => by have := mAcc_le F S i n; unfold mAcc; split <;> omega
theorem jAcc_ok (F : Nat → Nat) (S i : Nat) : ∀ n, mAcc F S i n < 1000000 → (i < jAcc F S i n ∧ jAcc F S i n < i + 1 + n ∧ S.testBit (jAcc F S i n) = true ∧ F (jAcc F S i n) = mAcc F S i n) ∧ ∀ j, i < j → j < jAcc F S i n → S.testBit j = true → F j ≠ mAcc F S i n
  | 0, h => absurd h (by unfold mAcc; omega)
  | n + 1, h => by
    have low : ∀ m j, i < j → j < i + 1 + m → S.testBit j = true → mAcc F S i m ≤ F j := by
      intro m
      induction m with
      | zero => intro j h1 h2; omega
      | succ m ih =>
        intro j h1 h2 h3
        unfold mAcc
        by_cases e : j = i + 1 + m
        · subst e; split
          · exact Nat.le_refl _
          · rename_i g
            exact Nat.le_of_not_lt (fun z => g ⟨h3, z⟩)
        · have := ih j h1 (by omega) h3
          split
          · omega
          · exact this
    have em : mAcc F S i (n + 1) = if S.testBit (i + 1 + n) = true ∧ F (i + 1 + n) < mAcc F S i n then F (i + 1 + n) else mAcc F S i n := rfl
    have ej : jAcc F S i (n + 1) = if S.testBit (i + 1 + n) = true ∧ F (i + 1 + n) < mAcc F S i n then i + 1 + n else jAcc F S i n := rfl
    rw [em] at h ⊢
    rw [ej]
    by_cases g : S.testBit (i + 1 + n) = true ∧ F (i + 1 + n) < mAcc F S i n
    · rw [if_pos g, if_pos g]
      refine ⟨⟨by omega, by omega, g.1, rfl⟩, fun j h1 h2 h3 => ?_⟩
      have := low n j h1 h2 h3
      omega
    · rw [if_neg g] at h
      rw [if_neg g, if_neg g]
      obtain ⟨a, b⟩ := jAcc_ok F S i n h
      exact ⟨⟨a.1, by omega, a.2.2.1, a.2.2.2⟩, b⟩
def B2 (D : Nat → Nat) (S : Nat) : Nat := if h : S = 0 then 0 else mAcc (fun j => D (6 * low S + j) + B2 D (rm S (low S) j)) S (low S) (5 - low S)
termination_by S
decreasing_by exact rm_lt h
def Fj (D : Nat → Nat) (S j : Nat) : Nat := D (6 * low S + j) + B2 D (rm S (low S) j)
theorem B2_0 (D : Nat → Nat) : B2 D 0 = 0 := by rw [B2]; rfl
theorem B2_S (D : Nat → Nat) {S : Nat} (h : S ≠ 0) : B2 D S = mAcc (Fj D S) S (low S) (5 - low S) := by rw [B2, dif_neg h]; rfl
theorem B2_le (D : Nat → Nat) (S : Nat) : B2 D S ≤ 1000000 := by
  by_cases h : S = 0
  · subst h; rw [B2_0]; omega
  · rw [B2_S D h]; exact mAcc_le _ _ _ _
def jB (D : Nat → Nat) (S : Nat) : Nat := jAcc (Fj D S) S (low S) (5 - low S)
def mt (D : Nat → Nat) (S : Nat) (f : Nat → Int32) : Nat → Int32 := if h : S = 0 then f else mt D (rm S (low S) (jB D S)) (upd (upd f (low S) (nI (jB D S))) (jB D S) (nI (low S)))
termination_by S
decreasing_by exact rm_lt h
theorem mt_0 (D : Nat → Nat) (f : Nat → Int32) : mt D 0 f = f := by rw [mt]; rfl
theorem mt_S (D : Nat → Nat) {S : Nat} (h : S ≠ 0) (f : Nat → Int32) : mt D S f = mt D (rm S (low S) (jB D S)) (upd (upd f (low S) (nI (jB D S))) (jB D S) (nI (low S))) := by rw [mt, dif_neg h]
theorem jB_ok {D : Nat → Nat} {S : Nat} (hS : S < 64) (h : S ≠ 0) (hB : B2 D S < 1000000) : low S < jB D S ∧ jB D S < 6 ∧ S.testBit (jB D S) = true ∧ Fj D S (jB D S) = B2 D S ∧ ∀ j, low S < j → j < jB D S → S.testBit j = true → Fj D S j ≠ B2 D S := by
  obtain ⟨⟨l1, l2, l3⟩, l4⟩ := low_ok S hS (by omega)
  rw [B2_S D h] at hB ⊢
  obtain ⟨⟨a, b, c, d⟩, e⟩ := jAcc_ok (Fj D S) S (low S) _ hB
  exact ⟨a, by unfold jB; omega, c, d, e⟩
theorem mt_congr {D : Nat → Nat} : ∀ (n S : Nat) (f g : Nat → Int32), S < n → S < 64 → B2 D S < 1000000 → (∀ q, q < 6 → S.testBit q = false → f q = g q) → ∀ q, q < 6 → mt D S f q = mt D S g q
  | 0, S, f, g, hn, _, _, _ => absurd hn (by omega)
  | n + 1, S, f, g, hn, hS, hB, h => by
    intro q hq
    by_cases e : S = 0
    · subst e; rw [mt_0, mt_0]; exact h q hq (Nat.zero_testBit q)
    · obtain ⟨⟨l1, l2, l3⟩, l4⟩ := low_ok S hS (by omega)
      obtain ⟨j1, j2, j3, j4, j5⟩ := jB_ok hS e hB
      obtain ⟨r1, r2, r3, r4⟩ := rm_ok S hS (low S) l1 (jB D S) j2 l2 j3 (by omega)
      have hr := rm_lt (i := low S) (j := jB D S) e
      rw [mt_S D e, mt_S D e]
      refine mt_congr n _ _ _ (by omega) (by omega) ?_ (fun p hp hb => ?_) q hq
      · unfold Fj at j4; omega
      · rw [r4 p hp] at hb
        unfold upd
        by_cases p1 : p = jB D S
        · rw [if_pos p1, if_pos p1]
        · rw [if_neg p1, if_neg p1]
          by_cases p2 : p = low S
          · rw [if_pos p2, if_pos p2]
          · rw [if_neg p2, if_neg p2]
            apply h p hp
            simp [p1, p2] at hb
            exact hb
theorem bitI' {a s : Nat} (ha : a < 64) (hs : s < 32) : (nI a >>> (nI s &&& 31)) &&& 1 = 1 ↔ a.testBit s = true := by
  rw [shrI (by omega) hs, pk_andN (n := a / 2 ^ s) (by have := Nat.div_le_self a (2 ^ s); omega) (m := 1) 1 (by decide)]
  have h2 : a / 2 ^ s % 2 ^ 1 < 2 := Nat.mod_lt _ (by decide)
  rw [show (1 : Int32) = nI 1 from rfl, nI_eq (by omega) (by decide), Nat.testBit_eq_decide_div_mod_eq, decide_eq_true_iff]
theorem f10_byTwos {D : Nat → Nat} {x : Nat → Int32} (hx : RI x D) (hD : Bd D) {N : Nat} (hN : 100 ≤ N) : ∀ d S, S < 64 → pcS S < d → f_X10_byTwos N d (nI S) x = some (nI (B2 D S))
  | 0, S, _, h => absurd h (by omega)
  | d + 1, S, hS, hd => by
    unfold f_X10_byTwos
    by_cases e : S = 0
    · subst e; rw [if_pos (show nI 0 = (0 : Int32) from rfl), B2_0]; rfl
    · obtain ⟨⟨l1, l2, l3⟩, l4⟩ := low_ok S hS (by omega)
      rw [if_neg (nI_ne0 (by omega) (by omega)), l4, Option.bind_some]
      have hl := lp_seq (b := fun s => f_X10_byTwos_b19 (f_X10_byTwos N d) s.2 s.1 (nI S) (nI (low S)) x) (fun n => (nI (mAcc (Fj D S) S (low S) n), nI (low S + 1 + n))) (nI (mAcc (Fj D S) S (low S) (5 - low S))) (5 - low S) (fun n hn => by
        show f_X10_byTwos_b19 (f_X10_byTwos N d) (nI (low S + 1 + n)) (nI (mAcc (Fj D S) S (low S) n)) (nI S) (nI (low S)) x = _
        have hj : low S + 1 + n < 6 := by omega
        have hm := mAcc_le (Fj D S) S (low S) n
        unfold f_X10_byTwos_b19
        rw [if_neg (show ¬ (6 : Int32) ≤ nI (low S + 1 + n) from nI_ge (b := 6) hj (by decide)), nI_1]
        show _ = some (Sum.inl (nI (if S.testBit (low S + 1 + n) = true ∧ Fj D S (low S + 1 + n) < mAcc (Fj D S) S (low S) n then Fj D S (low S + 1 + n) else mAcc (Fj D S) S (low S) n), nI (low S + 1 + n + 1)))
        by_cases b : S.testBit (low S + 1 + n) = true
        · obtain ⟨r1, r2, r3, r4⟩ := rm_ok S hS (low S) l1 _ hj l2 b (by omega)
          have hr := rm_lt (i := low S) (j := low S + 1 + n) e
          have hb1 := hD (6 * low S + (low S + 1 + n)) (by omega)
          have hb2 := B2_le D (rm S (low S) (low S + 1 + n))
          rw [if_pos ((bitI' hS (by omega)).mpr b), f10_dist hx l1 hj, Option.bind_some, sh1 (by omega), sh1 (by omega), r1, f10_byTwos hx hD hN d _ (by omega) (by omega), Option.bind_some, nI_add]
          show some (Sum.inl (if nI (Fj D S (low S + 1 + n)) < nI (mAcc (Fj D S) S (low S) n) then nI (Fj D S (low S + 1 + n)) else nI (mAcc (Fj D S) S (low S) n), _)) = _
          have hf : Fj D S (low S + 1 + n) < 2 ^ 31 := by unfold Fj; omega
          by_cases q : Fj D S (low S + 1 + n) < mAcc (Fj D S) S (low S) n
          · rw [if_pos (nI_lt q (by omega)), if_pos ⟨b, q⟩]
          · rw [if_neg (nI_nlt (by omega) hf), if_neg (fun z => q z.2)]
        · rw [if_neg (fun z => b ((bitI' hS (by omega)).mp z)), if_neg (fun z => b z.1)]) (by
        show f_X10_byTwos_b19 (f_X10_byTwos N d) (nI (low S + 1 + (5 - low S))) _ (nI S) (nI (low S)) x = _
        unfold f_X10_byTwos_b19
        rw [show low S + 1 + (5 - low S) = 6 by omega, if_pos (show (6 : Int32) ≤ nI 6 from nI_le (a := 6) (Nat.le_refl _) (by decide))]) (5 - low S) 0 N (by omega) (by omega)
      have hl' : lp (fun s_19 => f_X10_byTwos_b19 (f_X10_byTwos N d) s_19.2 s_19.1 (nI S) (nI (low S)) x) N ((1000000 : Int32), nI (low S) + (1 : Int32)) = some (nI (mAcc (Fj D S) S (low S) (5 - low S))) := by
        rw [nI_1]; exact hl
      rw [hl', B2_S D e]; rfl
