theorem wz_0 : Cond.instantiable RX0 15 ∈ wsL_law := wr_1 _ (List.mem_of_getElem? (i := 21) rfl)
theorem wz_1 : Cond.instantiable RX1 12 ∈ wsL_law := wr_1 _ (List.mem_of_getElem? (i := 13) rfl)
theorem wz_2 : Cond.instantiable RX2 3 ∈ wsL_law := wr_2 _ (List.mem_of_getElem? (i := 2) rfl)
theorem wz_3 : Cond.instantiable RX3 4 ∈ wsL_law := wr_1 _ (List.mem_of_getElem? (i := 17) rfl)
theorem wz_4 : Cond.instantiable RX4 10 ∈ wsL_law := wr_1 _ (List.mem_of_getElem? (i := 1) rfl)
theorem wz_5 : Cond.instantiable RX5 37 ∈ wsL_law := wr_1 _ (List.mem_of_getElem? (i := 4) rfl)
theorem wz_i : Cond.arrayClass .int ∈ wsL_law := wr_2 _ (List.mem_of_getElem? (i := 10) rfl)
theorem wz_j : Cond.arrayClass .long ∈ wsL_law := wr_3 _ (List.mem_of_getElem? (i := 16) rfl)
theorem wn_0 : Cond.methodLinkNest RX4 18 yX3_init "BusThrees" ∈ lw_tbl := tq_1 _ (List.mem_of_getElem? (i := 80) rfl)
theorem wn_1 : Cond.methodLinkNest RX4 25 yX0_init "BusThrees" ∈ lw_tbl := tq_1 _ (List.mem_of_getElem? (i := 100) rfl)
theorem wn_2 : Cond.methodLinkNest RX4 35 yX2_init "BusThrees" ∈ lw_tbl := tq_1 _ (List.mem_of_getElem? (i := 159) rfl)
theorem wn_3 : Cond.methodLinkNest RX0 64 yX4_cell "BusThrees" ∈ lw_tbl := tq_2 _ (List.mem_of_getElem? (i := 44) rfl)
/-- the memory before the law has made anything -/
def sg0 : Sg := (0, fun _ _ => 0, fun _ _ => 0, fun _ _ => none)
theorem start_K {s : State} {args : Array Value} (hts : ∀ w ∈ lw_tbl, w.before args s = true) : ∃ (D : va_G) (cI cJ : ClassId), va_K D vwCl [(cI, .int), (cJ, .long)] s := by
  have hw : ∀ w ∈ wsL_law, w.before args s = true := fun w h => hts w (wsL_law_in w h)
  obtain ⟨c0, iS0, hKn0⟩ := u_known (C := RX0) (T := TX0) (N := 15) (n := 15) hts inX0 (hw _ wz_0)
  obtain ⟨c1, iS1, hKn1⟩ := u_known (C := RX1) (T := TX1) (N := 12) (n := 12) hts inX1 (hw _ wz_1)
  obtain ⟨c2, iS2, hKn2⟩ := u_known (C := RX2) (T := TX2) (N := 3) (n := 3) hts inX2 (hw _ wz_2)
  obtain ⟨c3, iS3, hKn3⟩ := u_known (C := RX3) (T := TX3) (N := 4) (n := 4) hts inX3 (hw _ wz_3)
  obtain ⟨c4, iS4, hKn4⟩ := u_known (C := RX4) (T := TX4) (N := 10) (n := 10) hts inX4 (hw _ wz_4)
  obtain ⟨c5, iS5, hKn5⟩ := u_known (C := RX5) (T := TX5) (N := 37) (n := 37) hts inX5 (hw _ wz_5)
  obtain ⟨cI, kI, compI, hfI, hkI, hkindI⟩ := Cond.arrayClass_spec (hw _ wz_i)
  obtain ⟨cJ, kJ, compJ, hfJ, hkJ, hkindJ⟩ := Cond.arrayClass_spec (hw _ wz_j)
  refine ⟨(fun k => match k with | 0 => c0 | 1 => c1 | 2 => c2 | 3 => c3 | 4 => c4 | _ => c5, fun k => match k with | 0 => iS0 | 1 => iS1 | 2 => iS2 | 3 => iS3 | 4 => iS4 | _ => iS5), cI, cJ, fun k q hq => ?_, fun k q hq => ?_⟩
  · match k, hq with
    | 0, hq => cases hq; exact hKn0
    | 1, hq => cases hq; exact hKn1
    | 2, hq => cases hq; exact hKn2
    | 3, hq => cases hq; exact hKn3
    | 4, hq => cases hq; exact hKn4
    | 5, hq => cases hq; exact hKn5
    | k + 6, hq => simp [vwCl] at hq
  · match k, hq with
    | 0, hq => cases hq; exact ⟨fun n z => ⟨fun k h => (by cases h), kI, hkI, compI, hkindI⟩, hfI⟩
    | 1, hq => cases hq; exact ⟨fun n z => ⟨fun k h => (by cases h), kJ, hkJ, compJ, hkindJ⟩, hfJ⟩
    | k + 2, hq => simp at hq
abbrev tmS : Term := .static "BusThrees" "MOST_OF_SETTING" "[I"
theorem start_T {s : State} {args : Array Value} (hts : ∀ w ∈ lw_tbl, w.before args s = true) (hgv : (Jvm.Cond.and given_1 narrow_1).before args s = true) : ∃ tS : Nat, va_Z "BusThrees" "MOST_OF_SETTING" "[I" (.ref tS) (fun q => s.heap.size ≤ q) s s.heap ∧ va_T .int tS 5 (fun j => .int (mosT j)) (fun q => s.heap.size ≤ q) s s.heap := by
  have hs := flat_of_before _ hgv
  have hA : ∀ a : Nat, a < s.heap.size → ¬ (fun q => s.heap.size ≤ q) a := fun a h => Nat.not_le.mpr h
  have e0 := va_eqt (hs (Cond.eq (.elem tmS (.int 0)) (.int 60)) (by decide +kernel))
  have e1 := va_eqt (hs (Cond.eq (.elem tmS (.int 1)) (.int 10)) (by decide +kernel))
  have e2 := va_eqt (hs (Cond.eq (.elem tmS (.int 2)) (.int 10)) (by decide +kernel))
  have e3 := va_eqt (hs (Cond.eq (.elem tmS (.int 3)) (.int 1)) (by decide +kernel))
  have e4 := va_eqt (hs (Cond.eq (.elem tmS (.int 4)) (.int 600)) (by decide +kernel))
  have el := va_eqt (hs (Cond.eq (.length tmS) (.int 5)) (by decide +kernel))
  obtain ⟨t, ht, hT⟩ := va_Tof (tm := tmS) (ty := .int) (N := 5) (f := fun j => .int (mosT j)) (A := fun q => s.heap.size ≤ q) (by decide) (hs (Cond.arrayOf tmS .int) (by decide +kernel)) el (fun j hj => by
    match j, hj with
    | 0, _ => exact e0
    | 1, _ => exact e1
    | 2, _ => exact e2
    | 3, _ => exact e3
    | 4, _ => exact e4
    | j + 5, hj => omega) hA
  exact ⟨t, va_Zref (hts (.laysStatic "BusThrees" "MOST_OF_SETTING" "[I") (tq_2 _ (by decide +kernel))) (hts (.initialized "BusThrees") (tq_1 _ (List.mem_of_getElem? (i := 1) rfl))) ht hA, hT⟩
set_option maxHeartbeats 4000000 in
set_option maxRecDepth 100000 in
/-- the law's walk, out of the pure run of it -/
theorem start_of {p : Program} {e : Env} {s : State} {m : MethodId} {below : List Frame} {meth : Method} {c : Code} (l : Launch) {b L : Nat} {xs : Nat → Int32} (C0 : lw_At p s m meth c b L xs) {n : Nat} (hf : f_L_law n L xs sg0 = some ()) : W p l e room_1 s m #[Value.ref b] below meth c s.heap [] 0 0 (lw_Z below #[Value.ref b] s) (entryFrame m ([Value.ref b] : List Value).toArray 4) := by
  obtain ⟨hx, hb, hr, hml, hown, hts, hX, hbl, hlocks, hgv⟩ := id C0
  obtain ⟨D, cI, cJ, hK⟩ := start_K hts
  obtain ⟨tS, hZ, hT⟩ := start_T hts hgv
  have hC : Cx p m c cL_law 4 s #[Value.ref b] RL s.heap.size D cI cJ tS := ⟨⟨hx, hb, hml, hown, fun w h => hts w (wsL_law_in w h)⟩, hK, ⟨va_Nw.of rfl (hts _ wn_0), va_Nw.of rfl (hts _ wn_1), va_Nw.of rfl (hts _ wn_2), va_Nw.of rfl (hts _ wn_3)⟩, hZ, hT⟩
  have hXX : lw_X s s.heap.size b L xs := ⟨rfl, hX, hbl, Nat.not_le.mpr hbl⟩
  have hl := lv_entry ([.ref b]) (n := 4) (Nat.le_of_ble_eq_true rfl)
  rw [lg_entry_eq]
  generalize (lg_sl ([.ref b]) ++ List.replicate (4 - (lg_sl ([.ref b])).length) Slot.unset).toArray = ls at hl ⊢
  have hP : Dy s.heap.size D cI cJ sg0 s.heap := ⟨fun k q h => by simp [wo, sg0] at h, rfl⟩
  exact L_law_k0 hC hr hlocks hXX (L_law_all hC hr hlocks hXX n) hf hP va_S.rf hl
