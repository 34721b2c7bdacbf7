/-! the abstract town and the relation of the two states -/
/-- a town: s, 8+s its corners, 16+s length, 24+s kind, 32+s figure, 40+s open (1) or closed (0); 48 home; 49 how many; all else is 0 -/
def vT (t : Nat → Nat) : Prop := t 49 ≤ 8 ∧ t 48 < 6 ∧ (∀ s, s < t 49 → t s < 6 ∧ t (8 + s) < 6 ∧ t s ≠ t (8 + s) ∧ 1 ≤ t (16 + s) ∧ t (16 + s) ≤ 99 ∧ t (24 + s) ≤ 5 ∧ t (32 + s) ≤ 9 ∧ t (40 + s) ≤ 1) ∧ ∀ j, j ≠ 48 → j ≠ 49 → (48 ≤ j ∨ t 49 ≤ j % 8) → t j = 0
/-- the closed streets among the first n, as bits -/
def clB (t : Nat → Nat) : Nat → Nat
  | 0 => 0
  | n + 1 => clB t n + if t (40 + n) = 0 then 2 ^ n else 0
def cR (t : Nat → Nat) (fr to ln kd fg : Nat → Int32) (cl sz hm : Int32) : Prop :=
  sz = nI (t 49) ∧ hm = nI (t 48) ∧ cl = nI (clB t (t 49)) ∧ ∀ s, s < t 49 → fr s = nI (t s) ∧ to s = nI (t (8 + s)) ∧ ln s = nI (t (16 + s)) ∧ kd s = nI (t (24 + s)) ∧ fg s = nI (t (32 + s))
def mR (t : Nat → Nat) (w : Nat → Int32) : Prop :=
  w 49 = nI (t 49) ∧ w 48 = nI (t 48) ∧ ∀ r, r < 6 → ∀ s, s < t 49 → w (8 * r + s) = nI (t (8 * r + s))
def sA (t : Nat → Nat) (e : Nat) : Nat := if e % 2 = 0 then t (e / 2) else t (8 + e / 2)
def sE (t : Nat → Nat) (e : Nat) : Nat := if e % 2 = 0 then t (8 + e / 2) else t (e / 2)
/-- the cost of a step; 1000000: it can't be walked -/
def sC (t : Nat → Nat) (e : Nat) : Nat :=
  if t (40 + e / 2) = 0 then 1000000
  else if e % 2 = 0 then (if t (24 + e / 2) = 3 then t (16 + e / 2) + t (32 + e / 2) else if t (24 + e / 2) = 4 then 2 * t (16 + e / 2) else t (16 + e / 2))
  else (if t (24 + e / 2) = 1 ∨ t (24 + e / 2) = 3 then 1000000 else if t (24 + e / 2) = 2 then t (16 + e / 2) + t (32 + e / 2) else if t (24 + e / 2) = 4 then 2 * (t (16 + e / 2) + t (32 + e / 2)) else t (16 + e / 2))
def isD (t : Nat → Nat) (s : Nat) : Bool := decide (t (40 + s) = 1 ∧ t (24 + s) ≠ 5)
def dueB (t : Nat → Nat) : Nat → Nat
  | 0 => 0
  | n + 1 => dueB t n + if isD t n then 2 ^ n else 0
def clr (S s : Nat) : Nat := if S.testBit s then S - 2 ^ s else S
/-- V S c: the least cost from the corner c to h by which all of S is walked (S among U) -/
def IsV (t : Nat → Nat) (h U : Nat) (V : Nat → Nat → Nat) : Prop :=
  (∀ S c, S &&& U = S → c < 6 → V S c ≤ 1000000) ∧ V 0 h = 0 ∧
  (∀ S e, S &&& U = S → e < 2 * t 49 → sC t e < 1000000 → V S (sA t e) ≤ sC t e + V (clr S (e / 2)) (sE t e)) ∧
  ∀ S c, S &&& U = S → c < 6 → V S c < 1000000 → (S = 0 ∧ c = h) ∨ ∃ e, e < 2 * t 49 ∧ sC t e < 1000000 ∧ sA t e = c ∧ V S c = sC t e + V (clr S (e / 2)) (sE t e)
/-- the round's steps from the corner c on, with the set S still to walk: always the least step that keeps the least cost -/
def IsR (t : Nat → Nat) (V : Nat → Nat → Nat) : Nat → Nat → List Nat → Prop
  | S, c, [] => V S c = 0
  | S, c, e :: es => 0 < V S c ∧ (e < 2 * t 49 ∧ sC t e < 1000000 ∧ sA t e = c ∧ V S c = sC t e + V (clr S (e / 2)) (sE t e)) ∧ (∀ f, f < e → ¬ (sC t f < 1000000 ∧ sA t f = c ∧ V S c = sC t f + V (clr S (f / 2)) (sE t f))) ∧ IsR t V (clr S (e / 2)) (sE t e) es
/-- the i-th step walks nothing new: what was walked ahead of it, or isn't due -/
def agn (t : Nat → Nat) (es : List Nat) (i : Nat) : Prop := isD t (es.getD i 0 / 2) = false ∨ ∃ k, k < i ∧ es.getD k 0 / 2 = es.getD i 0 / 2
/-- what a tour holds that was sought for the town t -/
def TourIs (t : Nat → Nat) (cl st co cs ag : Nat → Int32) (du sz : Int32) : Prop :=
  ∃ V, IsV t (t 48) (dueB t (t 49)) V ∧ du = nI (dueB t (t 49)) ∧ (∀ S c, S &&& dueB t (t 49) = S → c < 6 → cl (6 * S + c) = nI (V S c)) ∧ co 0 = nI (t 48) ∧
    ((V (dueB t (t 49)) (t 48) = 1000000 ∧ sz = nI 0) ∨ (V (dueB t (t 49)) (t 48) < 1000000 ∧ ∃ es : List Nat, es.length ≤ 53 ∧ IsR t V (dueB t (t 49)) (t 48) es ∧ sz = nI es.length ∧
      ∀ i, i < es.length → st i = nI (es.getD i 0 / 2) ∧ co (i + 1) = nI (sE t (es.getD i 0)) ∧ cs i = nI (sC t (es.getD i 0)) ∧ (ag i = 0 ∨ ag i = 1) ∧ (ag i = 1 ↔ agn t es i)))
def InvN (t : Nat → Nat) (fr to ln kd fg : Nat → Int32) (cl sz hm : Int32) (w : Nat → Int32) : Prop := vT t ∧ cR t fr to ln kd fg cl sz hm ∧ mR t w
def InvR (r r2 : Nat → Int32) : Prop := ∀ j, j < 7 → r j = r2 j
def InvB (x y : Int32) : Prop := x = y ∧ (x = 0 ∨ x = 1)
/-- rows of numbers that have come, below m, at most M -/
def InvL (M m : Nat) (x y : Int32) (f g : Nat → Int32) : Prop := ∃ n : Nat, n ≤ M ∧ x = nI n ∧ y = nI n ∧ ∀ j, j < n → f j = g j ∧ ∃ v : Nat, v < m ∧ f j = nI v
def InvT (fr to ln kd fg cl st co cs ag : Nat → Int32) (clo sz hm so du ss : Int32) : Prop := (so = 0 ∨ so = 1) ∧ (so = 1 → ∃ t, vT t ∧ cR t fr to ln kd fg clo sz hm ∧ TourIs t cl st co cs ag du ss)
def Inv (A I : Nat → Nat → Int32) : Prop := ∃ t k : Nat → Nat,
  InvN t (A 2) (A 3) (A 4) (A 5) (A 6) (I 1 5) (I 1 6) (I 1 7) (A 66) ∧
  InvN k (A 14) (A 15) (A 16) (A 17) (A 18) (I 13 5) (I 13 6) (I 13 7) (A 67) ∧
  InvB (I 0 3) (I 65 3) ∧ InvR (A 64) (A 69) ∧ InvL 32 10 (I 0 12) (I 65 6) (A 63) (A 70) ∧ InvL 96 256 (I 61 1) (I 65 8) (A 62) (A 71) ∧ (A 56 0 = 0 ∧ ∀ p, p < 3 → A 81 p = 0) ∧
  InvT (A 32) (A 33) (A 34) (A 35) (A 36) (A 40) (A 42) (A 43) (A 44) (A 45) (I 31 5) (I 31 6) (I 31 7) (I 29 3) (I 29 4) (I 29 5)
theorem InvR.up {r r2 : Nat → Int32} (h : InvR r r2) {k : Nat} (hk : k < 7) : InvR (upd r k (r k + 1)) (upd r2 k (r2 k + 1)) := by
  intro j hj
  unfold upd
  by_cases e : j = k
  · rw [if_pos e, if_pos e, h k hk]
  · rw [if_neg e, if_neg e]; exact h j hj
theorem Inv_start : Inv (fun _ _ => 0) (fun c k => if c = 46 ∧ k = 2 then 1000000 else if c = 57 ∧ k = 2 then 1 else 0) := by
  have hv : vT (fun _ => 0) := ⟨by decide, by decide, fun s hs => absurd hs (Nat.not_lt_zero s), fun _ _ _ _ => rfl⟩
  have hn : InvN (fun _ => 0) (fun _ => 0) (fun _ => 0) (fun _ => 0) (fun _ => 0) (fun _ => 0) 0 0 0 (fun _ => 0) := ⟨hv, ⟨rfl, rfl, rfl, fun s hs => absurd hs (Nat.not_lt_zero s)⟩, rfl, rfl, fun r _ s hs => absurd hs (Nat.not_lt_zero s)⟩
  exact ⟨fun _ => 0, fun _ => 0, hn, hn, ⟨rfl, Or.inl rfl⟩, fun _ _ => rfl, ⟨0, by decide, rfl, rfl, fun j hj => absurd hj (by omega)⟩, ⟨0, by decide, rfl, rfl, fun j hj => absurd hj (by omega)⟩, ⟨rfl, fun _ _ => rfl⟩, Or.inl rfl, fun h => absurd h (by decide)⟩
