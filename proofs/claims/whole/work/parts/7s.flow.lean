/-! corners balanced by least ways: the least of all dealings, and what the model finds -/
def aC (D : Nat → Nat) : List Nat → List Nat → Nat
  | g :: gs, c :: ts => D (6 * g + c) + aC D gs ts
  | [], _ => 0
  | _ :: _, [] => 0
def MinA (D : Nat → Nat) (gs τ : List Nat) (v : Nat) : Prop := v ≤ 1000000 ∧ (∀ ts, ts.Perm τ → v ≤ aC D gs ts) ∧ (v < 1000000 → ∃ ts, ts.Perm τ ∧ aC D gs ts = v)
theorem MinA_le {D : Nat → Nat} {gs τ : List Nat} {v w : Nat} (h : MinA D gs τ v) (g : MinA D gs τ w) : v ≤ w := by
  by_cases z : w < 1000000
  · obtain ⟨ts, t1, t2⟩ := g.2.2 z
    have := h.2.1 ts t1
    omega
  · have := h.1
    omega
theorem MinA_one {D : Nat → Nat} {gs τ : List Nat} {v w : Nat} (h : MinA D gs τ v) (g : MinA D gs τ w) : v = w := Nat.le_antisymm (MinA_le h g) (MinA_le g h)
theorem MinA_perm {D : Nat → Nat} {gs τ σ : List Nat} {v : Nat} (p : τ.Perm σ) (h : MinA D gs τ v) : MinA D gs σ v :=
  ⟨h.1, fun ts hp => h.2.1 ts (hp.trans p.symm), fun hv => by obtain ⟨ts, t1, t2⟩ := h.2.2 hv; exact ⟨ts, t1.trans p, t2⟩⟩
def zI (z : Int) : Int32 := Int32.ofInt z
theorem zI_toInt {z : Int} (h : -1000 ≤ z ∧ z ≤ 1000) : (zI z).toInt = z := Int32.toInt_ofInt_of_le (by omega) (by omega)
theorem zI_add (a b : Int) : zI a + zI b = zI (a + b) := (Int32.ofInt_add a b).symm
theorem zI_1 (a : Int) : zI a + 1 = zI (a + 1) := zI_add a 1
theorem zI_m1 (a : Int) : zI a - 1 = zI (a - 1) := (Int32.ofInt_sub a 1).symm
theorem zI_lt0 {z : Int} (h : -1000 ≤ z ∧ z ≤ 1000) : zI z < 0 ↔ z < 0 := by rw [i32_lt, zI_toInt h]; exact Iff.rfl
theorem zI_le0 {z : Int} (h : -1000 ≤ z ∧ z ≤ 1000) : zI z ≤ 0 ↔ z ≤ 0 := by rw [i32_le, zI_toInt h]; exact Iff.rfl
/-- balances that tell the givers and the takers that are left -/
def FR (b : Nat → Int32) (gs τ : List Nat) : Prop := (∀ c, c < 6 → b c = zI ((τ.count c : Int) - (gs.count c : Int))) ∧ (∀ c, τ.count c = 0 ∨ gs.count c = 0) ∧ gs.Pairwise (· ≤ ·) ∧ (∀ g, g ∈ gs → g < 6) ∧ (∀ c, c ∈ τ → c < 6) ∧ gs.length = τ.length ∧ gs.length ≤ 8
theorem upd_back {f : Nat → Int32} {k : Nat} {x : Int32} : upd (upd f k x) k (f k) = f := by
  funext j
  unfold upd
  by_cases e : j = k
  · rw [if_pos e, e]
  · rw [if_neg e, if_neg e]
theorem FR_step {b : Nat → Int32} {g i : Nat} {gs τ : List Nat} (h : FR b (g :: gs) τ) (hi : i < 6) (hm : i ∈ τ) : FR (upd (upd b g (b g + 1)) i (upd b g (b g + 1) i - 1)) gs (τ.erase i) := by
  obtain ⟨h1, h2, h3, h4, h5, h6, h7⟩ := h
  have hg := h4 g (by simp)
  have cg : (g :: gs).count g = gs.count g + 1 := List.count_cons_self
  have ci : 0 < τ.count i := List.count_pos_iff.mpr hm
  have gi : g ≠ i := fun e => by have := h2 i; rw [← e] at this ci; omega
  have e1 := List.length_erase_of_mem hm
  rw [List.length_cons] at h6 h7
  refine ⟨fun c hc => ?_, fun c => ?_, (List.pairwise_cons.mp h3).2, fun x hx => h4 x (by simp [hx]), fun c hc => h5 c (List.mem_of_mem_erase hc), by omega, by omega⟩
  · by_cases e : c = i
    · subst e
      rw [pk_us, pk_un (fun w => gi w.symm), h1 c hc, zI_m1, List.count_erase_self]
      have := h2 c
      have e3 : (g :: gs).count c = gs.count c := List.count_cons_of_ne gi
      rw [e3]
      congr 1
      omega
    · rw [pk_un e, List.count_erase_of_ne e]
      by_cases e2 : c = g
      · subst e2
        rw [pk_us, h1 c hc, zI_1, cg]
        congr 1
        omega
      · rw [pk_un e2, h1 c hc, List.count_cons_of_ne (fun w => e2 w.symm)]
  · rcases h2 c with w | w
    · left
      rw [List.count_erase, w]; omega
    · right
      have : gs.count c ≤ (g :: gs).count c := List.count_le_count_cons
      omega
theorem f10_flows {D : Nat → Nat} {x : Nat → Int32} (hx : RI x D) (hB : Bd D) {N : Nat} (hN : 100 ≤ N) : ∀ d gs τ b, gs.length < d → FR b gs τ → ∃ v, f_X10_flows N d x b = some (nI v, b) ∧ MinA D gs τ v
  | 0, gs, τ, b, h, _ => absurd h (by omega)
  | d + 1, [], τ, b, hd, hF => by
    obtain ⟨h1, h2, h3, h4, h5, h6, h7⟩ := hF
    have t0 : τ = [] := List.length_eq_zero_iff.mp h6.symm
    subst t0
    refine ⟨0, ?_, by omega, fun ts _ => Nat.zero_le _, fun _ => ⟨[], List.Perm.refl _, rfl⟩⟩
    have hl := lp_seq (b := fun s_2 => f_X10_flows_b2 s_2 b) (fun i => nI i) (nI 6) 6 (fun i hi => by
      show f_X10_flows_b2 (nI i) b = _
      unfold f_X10_flows_b2
      rw [if_neg (show ¬ (6 : Int32) ≤ nI i from nI_ge (b := 6) hi (by decide)), ga_ok hi (by decide), nI_clamp (by omega), (h1 i hi).trans (show _ = zI (((0 : Nat) : Int) - ((0 : Nat) : Int)) from rfl), if_neg (show ¬ zI (((0 : Nat) : Int) - ((0 : Nat) : Int)) < 0 by decide), nI_1]) (by
      show f_X10_flows_b2 (nI 6) b = _
      unfold f_X10_flows_b2
      rw [if_pos (show (6 : Int32) ≤ nI 6 by decide)]) 6 0 N (by omega) (by omega)
    unfold f_X10_flows
    rw [show lp (fun s_2 => f_X10_flows_b2 s_2 b) N (0 : Int32) = some (nI 6) from hl, Option.bind_some, if_pos (show nI 6 = 6 from rfl)]; rfl
  | d + 1, g :: gs, τ, b, hd, hF => by
    obtain ⟨h1, h2, h3, h4, h5, h6, h7⟩ := id hF
    have hg := h4 g (by simp)
    rw [List.length_cons] at hd h6 h7
    have cg : (g :: gs).count g = gs.count g + 1 := List.count_cons_self
    have bnd : ∀ c, -1000 ≤ ((τ.count c : Int) - ((g :: gs).count c : Int)) ∧ ((τ.count c : Int) - ((g :: gs).count c : Int)) ≤ 990 := fun c => by
      have a1 : τ.count c ≤ τ.length := List.count_le_length
      have a2 : (g :: gs).count c ≤ (g :: gs).length := List.count_le_length
      rw [List.length_cons] at a2
      omega
    have hl := lp_seq (b := fun s_2 => f_X10_flows_b2 s_2 b) (fun i => nI i) (nI g) g (fun i hi => by
      show f_X10_flows_b2 (nI i) b = _
      have c0 : (g :: gs).count i = 0 := List.count_eq_zero.mpr (fun w => by
        rcases List.mem_cons.mp w with w | w
        · omega
        · have := (List.pairwise_cons.mp h3).1 i w
          omega)
      unfold f_X10_flows_b2
      rw [if_neg (show ¬ (6 : Int32) ≤ nI i from nI_ge (b := 6) (by omega) (by decide)), ga_ok (by omega) (by decide), nI_clamp (by omega), h1 i (by omega), if_neg (fun w => by
        have := (zI_lt0 (by have := bnd i; omega)).mp w
        rw [c0] at this
        omega), nI_1]) (by
      show f_X10_flows_b2 (nI g) b = _
      unfold f_X10_flows_b2
      rw [if_neg (show ¬ (6 : Int32) ≤ nI g from nI_ge (b := 6) (by omega) (by decide)), ga_ok (by omega) (by decide), nI_clamp (by omega), h1 g hg, if_pos ((zI_lt0 (by have := bnd g; omega)).mpr (by have := h2 g; omega))]) g 0 N (by omega) (by omega)
    obtain ⟨⟨eb, ef⟩, l1, v, l2, l3, l4, l5, l6⟩ := lp_cnt (b := fun s_46 : Int32 × Int32 × (Nat → Int32) => f_X10_flows_b46 (f_X10_flows N d) s_46.2.1 s_46.1 s_46.2.2 (nI g) x) (fun i y => (y.1, nI i, y.2)) (fun i y => ∃ v, y.1 = nI v ∧ y.2 = upd b g (b g + 1) ∧ v ≤ 1000000 ∧ (∀ c ts, (c :: ts).Perm τ → c < i → v ≤ aC D (g :: gs) (c :: ts)) ∧ (v < 1000000 → ∃ ts, ts.Perm τ ∧ aC D (g :: gs) ts = v)) (fun e : Int32 × (Nat → Int32) => ∃ v, e.1 = nI v ∧ e.2 = upd b g (b g + 1) ∧ v ≤ 1000000 ∧ (∀ c ts, (c :: ts).Perm τ → c < 6 → v ≤ aC D (g :: gs) (c :: ts)) ∧ (v < 1000000 → ∃ ts, ts.Perm τ ∧ aC D (g :: gs) ts = v)) 6 (fun i y hi hp => by
      obtain ⟨yb, yf⟩ := y
      obtain ⟨v, p1, p2, p3, p4, p5⟩ := hp
      dsimp only at p1 p2
      subst p1 p2
      dsimp only
      unfold f_X10_flows_b46
      rw [if_neg (show ¬ (6 : Int32) ≤ nI i from nI_ge (b := 6) hi (by decide)), ga_ok hi (by decide), nI_clamp (by omega), nI_1]
      by_cases mi : i ∈ τ
      · have ci : 0 < τ.count i := List.count_pos_iff.mpr mi
        have gi : g ≠ i := fun e => by have := h2 i; rw [← e] at this ci; omega
        have e3 : (g :: gs).count i = gs.count i := List.count_cons_of_ne gi
        have bi : upd b g (b g + 1) i = zI ((τ.count i : Int) - ((g :: gs).count i : Int)) := by rw [pk_un (fun w => gi w.symm)]; exact h1 i hi
        have hDl := hB (6 * g + i) (by omega)
        rw [if_neg (fun w => by
          rw [bi] at w
          have := (zI_le0 (by have := bnd i; omega)).mp w
          have := h2 i
          omega), f10_dist hx hg hi, Option.bind_some]
        by_cases q : D (6 * g + i) < 1000000
        · rw [if_neg (show ¬ (1000000 : Int32) ≤ nI (D (6 * g + i)) from nI_ge (b := 1000000) q (by decide)), ga_ok hi (by decide), ga_ok hi (by decide), Option.bind_some]
          obtain ⟨v', r1, r2⟩ := f10_flows hx hB hN d gs (τ.erase i) _ (by omega) (FR_step hF hi mi)
          have r2' := r2.1
          rw [r1, Option.bind_some, ga_ok hi (by decide), ga_ok hi (by decide)]
          dsimp only
          refine ⟨(nI (if D (6 * g + i) + v' < v then D (6 * g + i) + v' else v), upd b g (b g + 1)), ?_, _, rfl, rfl, by split <;> omega, fun c ts pc cl => ?_, fun hv => ?_⟩
          · rw [nI_add, minI (by omega) (by omega), pk_us, Int32.sub_add_cancel, upd_back]
          · by_cases e : c = i
            · subst e
              have pt := (List.cons_perm_iff_perm_erase.mp pc).2
              have := r2.2.1 ts pt
              show _ ≤ D (6 * g + c) + aC D gs ts
              split <;> omega
            · have := p4 c ts pc (by omega)
              split <;> omega
          · by_cases w : D (6 * g + i) + v' < v
            · rw [if_pos w] at hv ⊢
              obtain ⟨ts, t1, t2⟩ := r2.2.2 (by omega)
              exact ⟨i :: ts, List.cons_perm_iff_perm_erase.mpr ⟨mi, t1⟩, by show D (6 * g + i) + aC D gs ts = _; rw [t2]⟩
            · rw [if_neg w] at hv ⊢
              exact p5 hv
        · rw [if_pos (show (1000000 : Int32) ≤ nI (D (6 * g + i)) from nI_le (a := 1000000) (by omega) (by omega))]
          refine ⟨(nI v, upd b g (b g + 1)), rfl, v, rfl, rfl, p3, fun c ts pc cl => ?_, p5⟩
          by_cases e : c = i
          · subst e
            show _ ≤ D (6 * g + c) + aC D gs ts
            omega
          · exact p4 c ts pc (by omega)
      · have ci : τ.count i = 0 := List.count_eq_zero.mpr mi
        have le0 : upd b g (b g + 1) i ≤ 0 := by
          by_cases e : i = g
          · subst e
            rw [pk_us, h1 i hi, zI_1]
            exact (zI_le0 (by have := bnd i; omega)).mpr (by omega)
          · rw [pk_un e, h1 i hi]
            exact (zI_le0 (by have := bnd i; omega)).mpr (by omega)
        rw [if_pos le0]
        refine ⟨(nI v, upd b g (b g + 1)), rfl, v, rfl, rfl, p3, fun c ts pc cl => ?_, p5⟩
        by_cases e : c = i
        · subst e
          exact absurd (pc.mem_iff.mp (by simp)) mi
        · exact p4 c ts pc (by omega)) (fun y hp => by
      obtain ⟨v, p1, p2, p3, p4, p5⟩ := hp
      refine ⟨y, ?_, v, p1, p2, p3, p4, p5⟩
      dsimp only
      unfold f_X10_flows_b46
      rw [if_pos (show (6 : Int32) ≤ nI 6 by decide)]) 6 0 N (1000000, upd b g (b g + 1)) (by omega) (by omega) ⟨1000000, rfl, rfl, Nat.le_refl _, fun c ts _ hc => absurd hc (by omega), fun h => absurd h (by omega)⟩
    dsimp only at l2 l3
    subst l2 l3
    refine ⟨v, ?_, l4, fun ts pt => ?_, l6⟩
    · have l1' : lp (fun s_46 : Int32 × Int32 × (Nat → Int32) => f_X10_flows_b46 (f_X10_flows N d) s_46.2.1 s_46.1 s_46.2.2 (nI g) x) N ((1000000 : Int32), (0 : Int32), upd b g (b g + 1)) = some (nI v, upd b g (b g + 1)) := l1
      unfold f_X10_flows
      rw [show lp (fun s_2 => f_X10_flows_b2 s_2 b) N (0 : Int32) = some (nI g) from hl, Option.bind_some, if_neg (show ¬ nI g = 6 from fun w => by have := (nI_eq (b := 6) (by omega) (by decide)).mp w; omega), ga_ok hg (by decide), ga_ok hg (by decide), nI_clamp (by omega), l1', Option.bind_some, ga_ok hg (by decide), ga_ok hg (by decide)]
      dsimp only
      rw [pk_us, Int32.add_sub_cancel, upd_back]
    · cases ts with
      | nil =>
        have := pt.length_eq
        rw [List.length_nil] at this
        omega
      | cons c ts => exact l5 c ts pt (h5 c (pt.mem_iff.mp (by simp)))
