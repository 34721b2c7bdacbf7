abbrev gvC : Cond := Jvm.Cond.and given_1 narrow_1
def kStr (i : Nat) : Term := .string "PostmanRounds$Reader" (([22, 24, 26, 28, 30] : List Nat).getD i 0)
theorem fl_ex : ∀ i, i < kN.length → (Cond.exactly (.static kE (kN.getD i "") "LPostmanRounds$Kind;") kE) ∈ flatC gvC := by decide +kernel
theorem fl_f : ∀ q ∈ kF, ∀ i, i < kN.length → (Cond.eq (.field (.static kE (kN.getD i "") "LPostmanRounds$Kind;") q.1 q.2.1 q.2.2.1) (.int (q.2.2.2.getD i 0))) ∈ flatC gvC := by decide +kernel
theorem fl_d : ∀ i, i < kN.length → ∀ j, j < kN.length → i ≠ j → (Cond.not (.eq (.static kE (kN.getD i "") "LPostmanRounds$Kind;") (.static kE (kN.getD j "") "LPostmanRounds$Kind;"))) ∈ flatC gvC ∨ (Cond.not (.eq (.static kE (kN.getD j "") "LPostmanRounds$Kind;") (.static kE (kN.getD i "") "LPostmanRounds$Kind;"))) ∈ flatC gvC := by decide +kernel
theorem fl_l : ∀ i, i < kN.length → (Cond.laysStatic kE (kN.getD i "") "LPostmanRounds$Kind;") ∈ tables_1 := by decide +kernel
theorem fl_e : ∀ j, j < 6 → (Cond.eq (.elem (.static kE "ALL" "[LPostmanRounds$Kind;") (.int (Int32.ofNat j))) (.static kE (kN.getD j "") "LPostmanRounds$Kind;")) ∈ flatC gvC := by decide +kernel
theorem fs_ex : ∀ i, i < 5 → (Cond.exactly (kStr i) "java/lang/String") ∈ flatC gvC := by decide +kernel
theorem fs_co : ∀ i, i < 5 → (Cond.eq (.field (kStr i) "java/lang/String" "coder" "B") (.int 0)) ∈ flatC gvC := by decide +kernel
theorem fs_ar : ∀ i, i < 5 → (Cond.arrayOf (.field (kStr i) "java/lang/String" "value" "[B") .byte) ∈ flatC gvC := by decide +kernel
theorem fs_le : ∀ i, i < 5 → (Cond.eq (.length (.field (kStr i) "java/lang/String" "value" "[B")) (.int (Int32.ofNat (([5, 4, 2, 2, 0] : List Nat).getD i 0)))) ∈ flatC gvC := by decide +kernel
theorem fs_el : ∀ i, i < 5 → ∀ j, j < ([5, 4, 2, 2, 0] : List Nat).getD i 0 → (Cond.eq (.elem (.field (kStr i) "java/lang/String" "value" "[B") (.int (Int32.ofNat j))) (.int ((([[99, 99, 100, 100, 59], [100, 100, 100, 59], [100, 59], [99, 59], []] : List (List Int32)).getD i []).getD j 0))) ∈ flatC gvC := by decide +kernel
theorem fs_ne : ∀ i, i < 5 → ∀ j, j < 5 → i ≠ j → (Cond.not (.eq (kStr i) (kStr j))) ∈ flatC gvC ∨ (Cond.not (.eq (kStr j) (kStr i))) ∈ flatC gvC := by decide +kernel
theorem fm_in : ∀ q ∈ kNM, Cond.methodLinkNest q.1 q.2.1 q.2.2 "PostmanRounds" ∈ tables_1 := by decide +kernel
theorem ff_in : ∀ q ∈ kNF, Cond.fieldLinkNest "PostmanRounds$Town" q.1 "PostmanRounds$Kind" q.2 "Z" "PostmanRounds" ∈ tables_1 := by decide +kernel
theorem arr_of {s : State} {args : Array Value} {ty : FieldType} (hty : ty = .int ∨ ty = .boolean) (h : (Cond.arrayClass ty).before args s = true) : ∃ cA : ClassId, ArrOfT s cA ty ∧ va_RA s cA ty := by
  obtain ⟨cA, kA, comp, h1, h2, h3⟩ := Cond.arrayClass_spec h
  refine ⟨cA, fun n z => ⟨fun k h => (by cases h), kA, h2, comp, h3⟩, ?_⟩
  rcases hty with rfl | rfl
  · exact h1
  · exact h1
set_option maxRecDepth 100000 in
set_option maxHeartbeats 4000000 in
theorem start_facts {s : State} {b : Nat} (hts : ∀ w ∈ lw_tbl, w.before #[Value.ref b] s = true) (hgv : gvC.before #[Value.ref b] s = true) : ∃ D : va_G, va_K D vwCl (jty D) s ∧ SF D (fun q => s.heap.size ≤ q) s s.heap := by
  have hfl := flat_of_before _ hgv
  have htb : ∀ w ∈ tables_1, w.before #[Value.ref b] s = true := fun w h => hts w (List.mem_append_right _ h)
  have hg : ∀ w ∈ lw_gd, w.before #[Value.ref b] s = true := fun w h => hts w (lw_gd_in w h)
  have hA : ∀ a : Nat, a < s.heap.size → ¬ (fun q : Nat => s.heap.size ≤ q) a := fun a h => Nat.not_le.mpr h
  obtain ⟨c0, i0, hk0⟩ := u_known (C := RX0) (T := TX0) (N := 8) (n := 8) hg inX0 (hg _ kw_214)
  obtain ⟨c1, i1, hk1⟩ := u_known (C := RX1) (T := TX1) (N := 3) (n := 3) hg inX1 (hg _ kw_198)
  obtain ⟨c2, i2, hk2⟩ := u_known (C := RX3) (T := TX3) (N := 3) (n := 3) hg inX3 (hg _ kw_156)
  obtain ⟨c3, i3, hk3⟩ := u_known (C := RX4) (T := TX4) (N := 3) (n := 3) hg inX4 (hg _ kw_250)
  obtain ⟨c4, i4, hk4⟩ := u_known (C := RX5) (T := TX5) (N := 5) (n := 5) hg inX5 (hg _ kw_174)
  obtain ⟨c5, i5, hk5⟩ := u_known (C := RX6) (T := TX6) (N := 10) (n := 10) hg inX6 (hg _ kw_110)
  obtain ⟨c6, i6, hk6⟩ := u_known (C := RX7) (T := TX7) (N := 8) (n := 8) hg inX7 (hg _ kw_31)
  obtain ⟨c7, i7, hk7⟩ := u_known (C := RX8) (T := TX8) (N := 4) (n := 4) hg inX8 (hg _ kw_83)
  obtain ⟨c8, i8, hk8⟩ := u_known (C := RX9) (T := TX9) (N := 14) (n := 14) hg inX9 (hg _ kw_23)
  obtain ⟨c9, i9, hk9⟩ := u_known (C := RX10) (T := TX10) (N := 26) (n := 26) hg inX10 (hg _ kw_976)
  obtain ⟨cI, aI1, aI2⟩ := arr_of (Or.inl rfl) (hg _ kw_81)
  obtain ⟨cZ, aZ1, aZ2⟩ := arr_of (Or.inr rfl) (hg _ kw_154)
  obtain ⟨ad, hEn, hEv⟩ := va_Enof2 (E := kE) (d := "LPostmanRounds$Kind;") (nm := kN) (F := kF) (fun i hi => htb _ (fl_l i hi)) (hg _ kw_17) (fun i hi => hfl _ (fl_ex i hi)) (fun q hq i hi => hfl _ (fl_f q hq i hi)) (fun i j hi hj hij => (fl_d i hi j hj hij).elim (fun h => Or.inl (hfl _ h)) (fun h => Or.inr (hfl _ h))) hA
  obtain ⟨tA, hTe, hT⟩ := va_Tof (tm := .static kE "ALL" "[LPostmanRounds$Kind;") (ty := .object kE) (N := 6) (f := fun j => .ref (ad j)) (by decide) (hfl _ (by decide +kernel)) (va_eqt (hfl _ (by decide +kernel))) (fun j hj => va_eqv (hfl _ (fl_e j hj)) (hEv j hj)) hA
  have hZA := va_Zof (C := kE) (n := "ALL") (d := "[LPostmanRounds$Kind;") (htb _ (by decide +kernel)) (hg _ kw_17) hTe hA
  obtain ⟨adK, adV, hS, hSe⟩ := vk_Sof (N := 5) (tm := kStr) (len := [5, 4, 2, 2, 0]) (byt := [[99, 99, 100, 100, 59], [100, 100, 100, 59], [100, 59], [99, 59], []]) (by decide) (fun i hi => hfl _ (fs_ex i hi)) (fun i hi => hfl _ (fs_co i hi)) (fun i hi => hfl _ (fs_ar i hi)) (fun i hi => hfl _ (fs_le i hi)) (fun i hi j hj => hfl _ (fs_el i hi j hj)) (fun i j hi hj hij => (fs_ne i hi j hj hij).elim (fun h => Or.inl (hfl _ h)) (fun h => Or.inr (hfl _ h))) hA
  have hCS := va_Zof (C := "java/lang/String") (n := "COMPACT_STRINGS") (d := "Z") (htb _ (by decide +kernel)) (hg _ kw_11) (va_eqi (z := 1) (hfl _ (by decide +kernel))) hA
  have hFM := va_Zqof (C := "jdk/internal/util/Preconditions") (n := "SIOOBE_FORMATTER") (d := "Ljava/util/function/BiFunction;") (htb _ (by decide +kernel)) (hg _ kw_13) (hfl _ (by decide +kernel)) hA
  have hR : ∀ (i k : Nat) (tx : String), i < 5 → Term.string "PostmanRounds$Reader" k = kStr i → Cond.stringRef "PostmanRounds$Reader" k tx ∈ tables_1 → vk_R "PostmanRounds$Reader" k tx (adK i) s := fun i k tx hi he hm => vk_R.of (htb _ hm) (by rw [he]; exact hSe i hi)
  refine ⟨(fun k => if k = 0 then c0 else if k = 1 then c1 else if k = 2 then c2 else if k = 3 then c3 else if k = 4 then c4 else if k = 5 then c5 else if k = 6 then c6 else if k = 7 then c7 else if k = 8 then c8 else if k = 9 then c9 else if k = 100 then cI else cZ, fun k => if k = 0 then i0 else if k = 1 then i1 else if k = 2 then i2 else if k = 3 then i3 else if k = 4 then i4 else if k = 5 then i5 else if k = 6 then i6 else if k = 7 then i7 else if k = 8 then i8 else if k = 9 then i9 else if k = 100 then ad else if k = 101 then adK else if k = 102 then adV else fun _ => tA), ⟨?_, ?_⟩, hEn, hZA, hT, hS, hCS, hFM, ⟨hR 0 22 "ccdd;" (by decide) rfl (by decide +kernel), hR 1 24 "ddd;" (by decide) rfl (by decide +kernel), hR 2 26 "d;" (by decide) rfl (by decide +kernel), hR 3 28 "c;" (by decide) rfl (by decide +kernel), hR 4 30 "" (by decide) rfl (by decide +kernel)⟩, fun q hq => va_Nw.of rfl (htb _ (fm_in q hq)), fun q hq => va_Nw.of rfl (htb _ (ff_in q hq))⟩
  · intro k q hq
    match k, hq with
    | 0, hq => cases hq; exact hk0
    | 1, hq => cases hq; exact hk1
    | 2, hq => cases hq; exact hk2
    | 3, hq => cases hq; exact hk3
    | 4, hq => cases hq; exact hk4
    | 5, hq => cases hq; exact hk5
    | 6, hq => cases hq; exact hk6
    | 7, hq => cases hq; exact hk7
    | 8, hq => cases hq; exact hk8
    | 9, hq => cases hq; exact hk9
    | k + 10, hq => cases hq
  · intro k q hq
    match k, hq with
    | 0, hq => cases hq; exact ⟨aI1, aI2⟩
    | 1, hq => cases hq; exact ⟨aZ1, aZ2⟩
    | k + 2, hq => cases hq
