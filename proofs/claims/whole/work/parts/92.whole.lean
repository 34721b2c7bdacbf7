def A00 : Nat → Nat → Int32 := fun _ _ => 0
def I00 : Nat → Nat → Int32 := fun c k => if c = 46 ∧ k = 2 then 1000000 else if c = 57 ∧ k = 2 then 1 else 0
theorem z9_all {D : va_G} {q0 : Nat} {f : Nat → Nat} {q1 : Nat} {f2 : Nat → Nat} : z_X9 D q0 f ++ z_X10 D q1 f2 = wALL D (fun i => if i = 0 then q0 else if i < 65 then f i else if i = 65 then q1 else f2 (i - 65)) A00 I00 := rfl
set_option maxRecDepth 100000 in
set_option maxHeartbeats 4000000 in
theorem whole_start {p : Program} {e : Env} {s : State} {m : MethodId} {below : List Frame} {meth : Method} {c : Code} (l : Launch) (hflags : l.flags = flags0) {b L : Nat} {xs : Nat → Int32} (hL : L ≤ 2560) (C0 : lw_At p s m meth c b L xs) : W p l e room_1 s m #[Value.ref b] below meth c s.heap [] 0 0 (lw_Z below #[Value.ref b] s) (entryFrame m ([Value.ref b] : List Value).toArray 4) := by
  obtain ⟨hx, hb, hr, hml, hown, hts, hX, hbl, hlocks, hgv⟩ := C0
  obtain ⟨D, hK, hF⟩ := start_facts hts hgv
  have K : LC p s m meth c D b L xs := ⟨hx, hb, hr, hml, hown, hts, hX, hbl, hlocks, hK, hF⟩
  have hd := Drawn.sameBut.refl s.drawn lw_cs
  obtain ⟨N, hN⟩ : ∃ N : Nat, 8000000 ≤ N := ⟨8000000, Nat.le_refl _⟩
  refine W.base ?_
  have hl := lv_entry ([.ref b]) (n := 4) (Nat.le_of_ble_eq_true rfl)
  rw [lg_entry_eq]
  generalize (lg_sl ([.ref b]) ++ List.replicate (4 - (lg_sl ([.ref b])).length) Slot.unset).toArray = ls at hl ⊢
  have hR : Rm (gw p l e s m below meth c D b 0 0 s.drawn) 600000 7302250 := ⟨Nat.le_refl _, Nat.le_refl _⟩
  have Cb := K.cx l e below 0 0 (by decide) (by decide) s.drawn
  have main : J (gset (gw p l e s m below meth c D b 0 0 s.drawn) 0 0) [] [(0, .ref b)] 0 [] := by
    have C := Cb.set hR 0 0 (by decide) (by decide)
    refine j_new (c2 := 1) (s2 := 14) [.null, .null, .null, .int 0, .null, .null, .null, .null, .null, .null, .null, .null, .int 0, .null] C hR (ci := 8) rfl inX9 tyX9_ok kw_22 kw_23 kw_1 (fun j hj => by rcases (show j = 0 ∨ j = 1 ∨ j = 2 ∨ j = 3 ∨ j = 4 ∨ j = 5 ∨ j = 6 ∨ j = 7 ∨ j = 8 ∨ j = 9 ∨ j = 10 ∨ j = 11 ∨ j = 12 ∨ j = 13 by omega) with rfl | rfl | rfl | rfl | rfl | rfl | rfl | rfl | rfl | rfl | rfl | rfl | rfl | rfl <;> rfl) rfl rfl (by decide) (by decide) dL_law_0 (fun q0 => ?_)
    have C := Cb.set hR 1 14 (by decide) (by decide)
    refine j_dup C dL_law_3 rfl ?_
    refine j_callI (ws := []) (c2 := 65) (s2 := 2707) C hR mk_X9_init rfl rfl ms_X9_init kw_24 (c_X9_init l D q0) (by decide) rfl rfl (by decide) (by decide) (Nat.le_of_ble_eq_true rfl) dL_law_4 (fun f => ?_)
    have C := Cb.set hR 65 2707 (by decide) (by decide)
    refine j_astore_n C dL_law_7 (by decide) ?_
    refine j_new (c2 := 66) (s2 := 2733) [.null, .null, .null, .int 0, .null, .null, .int 0, .null, .int 0, .null, .null, .null, .int 0, .null, .null, .null, .int 0, .null, .null, .null, .null, .null, .null, .int 0, .int 0, .int 0] C hR (ci := 9) rfl inX10 tyX10_ok kw_975 kw_976 kw_10 (fun j hj => by rcases (show j = 0 ∨ j = 1 ∨ j = 2 ∨ j = 3 ∨ j = 4 ∨ j = 5 ∨ j = 6 ∨ j = 7 ∨ j = 8 ∨ j = 9 ∨ j = 10 ∨ j = 11 ∨ j = 12 ∨ j = 13 ∨ j = 14 ∨ j = 15 ∨ j = 16 ∨ j = 17 ∨ j = 18 ∨ j = 19 ∨ j = 20 ∨ j = 21 ∨ j = 22 ∨ j = 23 ∨ j = 24 ∨ j = 25 by omega) with rfl | rfl | rfl | rfl | rfl | rfl | rfl | rfl | rfl | rfl | rfl | rfl | rfl | rfl | rfl | rfl | rfl | rfl | rfl | rfl | rfl | rfl | rfl | rfl | rfl | rfl <;> rfl) rfl rfl (by decide) (by decide) dL_law_8 (fun q1 => ?_)
    have C := Cb.set hR 66 2733 (by decide) (by decide)
    refine j_dup C dL_law_11 rfl ?_
    refine j_callI (c2 := 84) (s2 := 5001) C hR mk_X10_init rfl rfl ms_X10_init kw_977 (c_X10_init l D q1) (by decide) rfl rfl (by decide) (by decide) (Nat.le_of_ble_eq_true rfl) dL_law_12 (fun f2 => ?_)
    have C := Cb.set hR 84 5001 (by decide) (by decide)
    refine j_astore_n C dL_law_15 (by decide) ?_
    refine j_iconst C 0 dL_law_16 ki_0 ?_
    refine j_istore_n C dL_law_17 (by decide) ?_
    refine j_ws (z9_all (D := D) (q0 := q0) (f := f) (q1 := q1) (f2 := f2)) ?_
    have h9 := law_loop (l := l) (e := e) (below := below) (cs := 84) (sl := 5001) (q := fun i => if i = 0 then q0 else if i < 65 then f i else if i = 65 then q1 else f2 (i - 65)) hL K (by decide) (by decide) hN (L + 1) 0 (by omega) (by omega) A00 I00 s.drawn Inv_start hd
    exact j_lw h9 rfl
  exact main s.heap [] ls (fun k q h => by simp at h) ⟨fun i j p q h => by simp at h, fun k q h => by simp at h⟩ va_S.rf hl
