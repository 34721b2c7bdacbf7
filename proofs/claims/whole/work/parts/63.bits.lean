/-! bits, costs -/
theorem nI_bv (n : Nat) : (nI n).toBitVec = BitVec.ofNat 32 n := rfl
theorem xI_and (a b : Nat) : nI a &&& nI b = nI (a &&& b) := by
  apply Int32.toBitVec_inj.mp
  rw [Int32.toBitVec_and, nI_bv, nI_bv, nI_bv]
  apply BitVec.eq_of_toNat_eq
  simp [BitVec.toNat_and, BitVec.toNat_ofNat, Nat.and_mod_two_pow]
theorem xI_or (a b : Nat) : nI a ||| nI b = nI (a ||| b) := by
  apply Int32.toBitVec_inj.mp
  rw [Int32.toBitVec_or, nI_bv, nI_bv, nI_bv]
  apply BitVec.eq_of_toNat_eq
  simp [BitVec.toNat_or, BitVec.toNat_ofNat, Nat.or_mod_two_pow]
theorem xI_xor (a b : Nat) : nI a ^^^ nI b = nI (a ^^^ b) := by
  apply Int32.toBitVec_inj.mp
  rw [Int32.toBitVec_xor, nI_bv, nI_bv, nI_bv]
  apply BitVec.eq_of_toNat_eq
  simp [BitVec.toNat_xor, BitVec.toNat_ofNat, Nat.xor_mod_two_pow]
theorem sm32 : ∀ n, n < 32 → ((nI n &&& 31).toBitVec.smod 32).toNat = n := by decide +kernel
theorem sh1 {s : Nat} (hs : s < 31) : (1 : Int32) <<< (nI s &&& 31) = nI (2 ^ s) := by
  have h := pk_shlN (n := 1) (nI s &&& 31) s (sm32 s (by omega)) (by rw [Nat.one_mul]; exact Nat.pow_lt_pow_right (by decide) (by omega))
  rw [Nat.one_mul] at h
  exact h
theorem shrI {a s : Nat} (ha : a < 2 ^ 31) (hs : s < 32) : nI a >>> (nI s &&& 31) = nI (a / 2 ^ s) := pk_shrN ha _ s (sm32 s hs)
theorem bitI {a s : Nat} (ha : a < 2 ^ 31) (hs : s < 32) : (nI a >>> (nI s &&& 31)) &&& 1 = 0 ↔ a.testBit s = false := by
  rw [shrI ha hs, pk_andN (n := a / 2 ^ s) (by have := Nat.div_le_self a (2 ^ s); omega) (m := 1) 1 (by decide)]
  have h2 : a / 2 ^ s % 2 ^ 1 < 2 := Nat.mod_lt _ (by decide)
  rw [show (0 : Int32) = nI 0 from rfl, nI_eq (by omega) (by decide), Nat.testBit_eq_decide_div_mod_eq, decide_eq_false_iff_not]
  rw [show (2 : Nat) ^ 1 = 2 from rfl] at *
  omega
theorem notI {c n : Nat} (hc : c < 2 ^ n) (hn : n < 31) : nI c &&& (nI (2 ^ n) ^^^ (-1)) = nI c := by
  apply Int32.toBitVec_inj.mp
  rw [Int32.toBitVec_and, Int32.toBitVec_xor, nI_bv, nI_bv]
  apply BitVec.eq_of_getLsbD_eq
  intro i hi
  rw [BitVec.getLsbD_and, BitVec.getLsbD_xor, BitVec.getLsbD_ofNat, BitVec.getLsbD_ofNat]
  have hm : (Int32.toBitVec (-1)).getLsbD i = true := by
    have : Int32.toBitVec (-1) = BitVec.allOnes 32 := by decide
    rw [this, BitVec.getLsbD_allOnes]; exact decide_eq_true hi
  rw [hm, Nat.testBit_two_pow]
  by_cases e : n = i
  · subst e
    rw [Nat.testBit_lt_two_pow hc]; simp
  · simp [e, hi]
theorem clB_lt (t : Nat → Nat) : ∀ n, clB t n < 2 ^ n
  | 0 => Nat.one_pos
  | n + 1 => by
    have := clB_lt t n
    unfold clB
    rw [Nat.pow_succ]
    split <;> omega
theorem clB_bit (t : Nat → Nat) : ∀ n s, (clB t n).testBit s = decide (s < n ∧ t (40 + s) = 0)
  | 0, s => by simp [clB]
  | n + 1, s => by
    have ih := clB_bit t n s
    have hl := clB_lt t n
    unfold clB
    by_cases h : t (40 + n) = 0
    · rw [if_pos h, show clB t n + 2 ^ n = 2 ^ n * 1 + clB t n by omega, Nat.testBit_two_pow_mul_add 1 hl s, ih]
      by_cases e : s < n
      · rw [if_pos e]; simp [e, show s < n + 1 by omega]
      · rw [if_neg e]
        by_cases g : s = n
        · subst g; simp [h]
        · have e1 : Nat.testBit 1 (s - n) = false := by
            have : s - n = (s - n - 1) + 1 := by omega
            rw [this]; simp [Nat.testBit_succ]
          rw [e1]; simp; omega
    · rw [if_neg h, Nat.add_zero, ih]
      by_cases e : s = n
      · subst e; simp [h]
      · have : s < n ↔ s < n + 1 := by omega
        simp [this]
theorem clB_flip {t : Nat → Nat} {n s v : Nat} (hs : s < n) (hv : t (40 + s) = 0 ↔ v ≠ 0) : clB (setT t (40 + s) v) n = clB t n ^^^ 2 ^ s := by
  apply Nat.eq_of_testBit_eq
  intro i
  rw [Nat.testBit_xor, clB_bit, clB_bit, Nat.testBit_two_pow]
  by_cases e : i = s
  · subst e
    rw [setT_s]
    by_cases g : v = 0
    · have : ¬ t (40 + i) = 0 := fun z => hv.mp z g
      simp [g, this, hs]
    · have : t (40 + i) = 0 := hv.mpr g
      simp [g, this, hs]
  · rw [setT_n (by omega)]
    have : ¬ s = i := fun z => e z.symm
    simp [this]
theorem f7_isOpen {t : Nat → Nat} {fr to ln kd fg : Nat → Int32} {cl sz hm : Int32} (hv : vT t) (h : cR t fr to ln kd fg cl sz hm) {s : Nat} (hs : s < t 49) : f_X7_isOpen (nI s) cl = some (b2 (t (40 + s) = 1)) := by
  have h8 := hv.1
  have hl := clB_lt t (t 49)
  have hl8 : clB t (t 49) < 2 ^ 31 := Nat.lt_of_lt_of_le hl (Nat.pow_le_pow_right (by decide) (by omega))
  unfold f_X7_isOpen
  have e : (if ((cl >>> (nI s &&& 31)) &&& (1 : Int32)) = 0 then (1 : Int32) else (0 : Int32)) = b2 (t (40 + s) = 1) := by
    rw [h.2.2.1]
    have hb := bitI hl8 (show s < 32 by omega)
    have ho := (hv.2.2.1 s hs).2.2.2.2.2.2.2
    rw [clB_bit] at hb
    unfold b2
    by_cases g : t (40 + s) = 1
    · rw [if_pos g, if_pos (hb.mpr (by simp [g]))]
    · rw [if_neg g, if_neg (fun z => by have := hb.mp z; simp [hs] at this; omega)]
  rw [e, gb_b2]
theorem kidx_nI {v : Nat} (h : v ≤ 5) : kidx (nI v) = v := by
  unfold kidx
  rw [if_pos (by rw [nI_toInt (by omega)]; omega), nI_clamp (by omega)]
theorem le5 {P : Nat → Prop} (h0 : P 0) (h1 : P 1) (h2 : P 2) (h3 : P 3) (h4 : P 4) (h5 : P 5) : ∀ {v : Nat}, v ≤ 5 → P v
  | 0, _ => h0
  | 1, _ => h1
  | 2, _ => h2
  | 3, _ => h3
  | 4, _ => h4
  | 5, _ => h5
  | n + 6, h => absurd h (by omega)
theorem i1mul (x : Int32) : 1 * x = x := Int32.one_mul x
theorem i0mul (x : Int32) : 0 * x = 0 := Int32.zero_mul
theorem iadd0 (x : Int32) : x + 0 = x := Int32.add_zero x
theorem kOn_nI {k : Nat} (hk : k ≤ 5) (a b : Nat) : kOn k (nI a) (nI b) = nI (if k = 3 then a + b else if k = 4 then 2 * a else a) := by
  revert hk
  refine fun hk => le5 (P := fun k => kOn k (nI a) (nI b) = nI (if k = 3 then a + b else if k = 4 then 2 * a else a)) ?_ ?_ ?_ ?_ ?_ ?_ hk
  · show 1 * (nI a + 0 * nI b) = nI a; rw [i0mul, iadd0, i1mul]
  · show 1 * (nI a + 0 * nI b) = nI a; rw [i0mul, iadd0, i1mul]
  · show 1 * (nI a + 0 * nI b) = nI a; rw [i0mul, iadd0, i1mul]
  · show 1 * (nI a + 1 * nI b) = nI (a + b); rw [i1mul, i1mul, nI_add]
  · show 2 * (nI a + 0 * nI b) = nI (2 * a); rw [i0mul, iadd0]; exact pk_mul 2 a
  · show 1 * (nI a + 0 * nI b) = nI a; rw [i0mul, iadd0, i1mul]
theorem kBack_nI {k : Nat} (hk : k ≤ 5) (a b : Nat) : kBack k (nI a) (nI b) = nI (if k = 1 ∨ k = 3 then 1000000 else if k = 2 then a + b else if k = 4 then 2 * (a + b) else a) := by
  refine le5 (P := fun k => kBack k (nI a) (nI b) = nI (if k = 1 ∨ k = 3 then 1000000 else if k = 2 then a + b else if k = 4 then 2 * (a + b) else a)) ?_ ?_ ?_ ?_ ?_ ?_ hk
  · show 1 * (nI a + 0 * nI b) = nI a; rw [i0mul, iadd0, i1mul]
  · rfl
  · show 1 * (nI a + 1 * nI b) = nI (a + b); rw [i1mul, i1mul, nI_add]
  · rfl
  · show 2 * (nI a + 1 * nI b) = nI (2 * (a + b)); rw [i1mul, nI_add]; exact pk_mul 2 (a + b)
  · show 1 * (nI a + 0 * nI b) = nI a; rw [i0mul, iadd0, i1mul]
theorem sC_on (t : Nat → Nat) (s : Nat) : sC t (2 * s) = if t (40 + s) = 0 then 1000000 else if t (24 + s) = 3 then t (16 + s) + t (32 + s) else if t (24 + s) = 4 then 2 * t (16 + s) else t (16 + s) := by
  unfold sC
  rw [show 2 * s / 2 = s by omega, if_pos (show 2 * s % 2 = 0 by omega)]
theorem sC_back (t : Nat → Nat) (s : Nat) : sC t (2 * s + 1) = if t (40 + s) = 0 then 1000000 else if t (24 + s) = 1 ∨ t (24 + s) = 3 then 1000000 else if t (24 + s) = 2 then t (16 + s) + t (32 + s) else if t (24 + s) = 4 then 2 * (t (16 + s) + t (32 + s)) else t (16 + s) := by
  unfold sC
  rw [show (2 * s + 1) / 2 = s by omega, if_neg (show ¬ (2 * s + 1) % 2 = 0 by omega)]
theorem sC_small {t : Nat → Nat} (hv : vT t) {e : Nat} (he : e < 2 * t 49) : sC t e = 1000000 ∨ (1 ≤ sC t e ∧ sC t e ≤ 216) := by
  have h := hv.2.2.1 (e / 2) (by omega)
  obtain ⟨b1, b2, b3, b4, b5, b6, b7, b8⟩ := h
  unfold sC
  repeat' split
  all_goals omega
theorem f7_costOn {t : Nat → Nat} {fr to ln kd fg : Nat → Int32} {cl sz hm : Int32} (hv : vT t) (h : cR t fr to ln kd fg cl sz hm) {s : Nat} (hs : s < t 49) : f_X7_costOn (nI s) cl ln kd fg = some (nI (sC t (2 * s))) := by
  have h8 := hv.1
  have ho := hv.2.2.1 s hs
  obtain ⟨g1, g2, g3, g4, g5⟩ := h.2.2.2 s hs
  unfold f_X7_costOn
  rw [f7_isOpen hv h hs, Option.bind_some, sC_on]
  by_cases g : t (40 + s) = 1
  · rw [if_neg (fun z => b2_0.mp z g), ga_ok (by omega) (by decide), ga_ok (by omega) (by decide), ga_ok (by omega) (by decide), nI_clamp (by omega), g3, g4, g5, kidx_nI (by omega), kOn_nI (by omega), if_neg (show ¬ t (40 + s) = 0 by omega)]
  · rw [if_pos (b2_0.mpr g), if_pos (show t (40 + s) = 0 by omega)]; rfl
theorem f7_costBack {t : Nat → Nat} {fr to ln kd fg : Nat → Int32} {cl sz hm : Int32} (hv : vT t) (h : cR t fr to ln kd fg cl sz hm) {s : Nat} (hs : s < t 49) : f_X7_costBack (nI s) cl ln kd fg = some (nI (sC t (2 * s + 1))) := by
  have h8 := hv.1
  have ho := hv.2.2.1 s hs
  obtain ⟨g1, g2, g3, g4, g5⟩ := h.2.2.2 s hs
  unfold f_X7_costBack
  rw [f7_isOpen hv h hs, Option.bind_some, sC_back]
  by_cases g : t (40 + s) = 1
  · rw [if_neg (fun z => b2_0.mp z g), ga_ok (by omega) (by decide), ga_ok (by omega) (by decide), ga_ok (by omega) (by decide), nI_clamp (by omega), g3, g4, g5, kidx_nI (by omega), kBack_nI (by omega), if_neg (show ¬ t (40 + s) = 0 by omega)]
  · rw [if_pos (b2_0.mpr g), if_pos (show t (40 + s) = 0 by omega)]; rfl
/-- a cost as it is told: -9 where it can't be walked -/
def toldC (c : Nat) : Int32 := if c < 1000000 then nI c else -9
theorem nI_lit {a b : Nat} (ha : a < 2 ^ 31) (hb : b < 2 ^ 31) (x : Int32) (hx : x = nI b) : nI a = x ↔ a = b := by subst hx; exact nI_eq ha hb
theorem f10_cost {t : Nat → Nat} {w : Nat → Int32} (hv : vT t) (h : mR t w) {e : Nat} (he : e < 2 * t 49) : f_X10_cost (nI e) w = some (toldC (sC t e)) := by
  have h8 := hv.1
  have hs : e / 2 < t 49 := by omega
  have ho := hv.2.2.1 (e / 2) hs
  obtain ⟨b1, b2, b3, b4, b5, b6, b7, b8⟩ := ho
  have hd : nI e / (2 : Int32) = nI (e / 2) := pk_div (d := 2) (by omega) (by decide) (by decide)
  have hr : nI e - nI e / (2 : Int32) * (2 : Int32) = nI (e % 2) := pk_rem (d := 2) (by omega) (by decide) (by decide)
  have a40 : (40 : Int32) + nI (e / 2) = nI (8 * 5 + e / 2) := nI_add 40 _
  have a16 : (16 : Int32) + nI (e / 2) = nI (8 * 2 + e / 2) := nI_add 16 _
  have a32 : (32 : Int32) + nI (e / 2) = nI (8 * 4 + e / 2) := nI_add 32 _
  have a24 : (24 : Int32) + nI (e / 2) = nI (8 * 3 + e / 2) := nI_add 24 _
  have c40 : Int32.toNatClampNeg (nI (8 * 5 + e / 2)) = 8 * 5 + e / 2 := nI_clamp (by omega)
  have c16 : Int32.toNatClampNeg (nI (8 * 2 + e / 2)) = 8 * 2 + e / 2 := nI_clamp (by omega)
  have c32 : Int32.toNatClampNeg (nI (8 * 4 + e / 2)) = 8 * 4 + e / 2 := nI_clamp (by omega)
  have c24 : Int32.toNatClampNeg (nI (8 * 3 + e / 2)) = 8 * 3 + e / 2 := nI_clamp (by omega)
  have w40 : w (8 * 5 + e / 2) = nI (t (40 + e / 2)) := h.2.2 5 (by decide) _ hs
  have w16 : w (8 * 2 + e / 2) = nI (t (16 + e / 2)) := h.2.2 2 (by decide) _ hs
  have w32 : w (8 * 4 + e / 2) = nI (t (32 + e / 2)) := h.2.2 4 (by decide) _ hs
  have w24 : w (8 * 3 + e / 2) = nI (t (24 + e / 2)) := h.2.2 3 (by decide) _ hs
  have hq : (if nI (e % 2) = (1 : Int32) then (1 : Int32) else 0) = 0 ↔ e % 2 = 0 := by
    rcases Nat.mod_two_eq_zero_or_one e with q | q
    · rw [q]; decide
    · rw [q]; decide
  have z0 : ∀ {a : Nat}, a < 2 ^ 31 → (nI a = 0 ↔ a = 0) := fun ha => nI_lit ha (by decide) _ rfl
  unfold f_X10_cost
  rw [hr, hd, a40, a16, a32, a24, c40, c16, c32, c24, w40, w16, w32, w24, ga_ok (by omega) (by decide), ga_ok (by omega) (by decide), ga_ok (by omega) (by decide), ga_ok (by omega) (by decide)]
  have m2 : ∀ x, (2 : Int32) * nI x = nI (2 * x) := fun x => pk_mul 2 x
  rw [nI_add, m2, m2]
  have tl : ∀ {x : Nat}, x < 1000000 → nI x = toldC x := fun hx => (if_pos hx).symm
  have t9 : toldC 1000000 = -9 := rfl
  by_cases o : t (40 + e / 2) = 0
  · rw [if_pos ((z0 (by omega)).mpr o)]
    unfold sC; rw [if_pos o, t9]
  · rw [if_neg (fun z => o ((z0 (by omega)).mp z))]
    unfold sC; rw [if_neg o]
    have k1 := nI_lit (a := t (24 + e / 2)) (b := 1) (by omega) (by decide) 1 rfl
    have k2 := nI_lit (a := t (24 + e / 2)) (b := 2) (by omega) (by decide) 2 rfl
    have k3 := nI_lit (a := t (24 + e / 2)) (b := 3) (by omega) (by decide) 3 rfl
    have k4 := nI_lit (a := t (24 + e / 2)) (b := 4) (by omega) (by decide) 4 rfl
    simp only [hq, k1, k2, k3, k4]
    by_cases q : e % 2 = 0
    · simp only [if_pos q]
      by_cases q1 : t (24 + e / 2) = 1
      · rw [if_pos q1, if_neg (by omega), if_neg (by omega), tl (by omega)]
      · rw [if_neg q1]
        by_cases q2 : t (24 + e / 2) = 2
        · rw [if_pos q2, if_neg (by omega), if_neg (by omega), tl (by omega)]
        · rw [if_neg q2]
          by_cases q3 : t (24 + e / 2) = 3
          · rw [if_pos q3, if_pos q3, tl (by omega)]
          · rw [if_neg q3, if_neg q3]
            by_cases q4 : t (24 + e / 2) = 4
            · rw [if_pos q4, if_pos q4, tl (by omega)]
            · rw [if_neg q4, if_neg q4, tl (by omega)]
    · simp only [if_neg q]
      by_cases q1 : t (24 + e / 2) = 1
      · rw [if_pos q1, if_pos (Or.inl q1), t9]
      · rw [if_neg q1]
        by_cases q2 : t (24 + e / 2) = 2
        · rw [if_pos q2, if_neg (by omega), if_pos q2, tl (by omega)]
        · rw [if_neg q2]
          by_cases q3 : t (24 + e / 2) = 3
          · rw [if_pos q3, if_pos (Or.inr q3), t9]
          · rw [if_neg q3, if_neg (show ¬ (t (24 + e / 2) = 1 ∨ t (24 + e / 2) = 3) by omega), if_neg q2]
            by_cases q4 : t (24 + e / 2) = 4
            · rw [if_pos q4, if_pos q4, tl (by omega)]
            · rw [if_neg q4, if_neg q4, tl (by omega)]
theorem f9_orNone {c : Nat} (h : c < 2 ^ 31) : f_X9_orNone (nI c) = some (toldC c) := by
  unfold f_X9_orNone toldC
  by_cases e : c < 1000000
  · rw [if_pos e, if_pos (show nI c < (1000000 : Int32) from nI_lt (b := 1000000) e (by decide))]
  · rw [if_neg e, if_neg (show ¬ nI c < (1000000 : Int32) from nI_nlt (b := 1000000) (by omega) h)]
