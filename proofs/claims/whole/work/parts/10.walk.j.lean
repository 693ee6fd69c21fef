section
variable {p : Program} {l : Launch} {e : Env} {s : State} {m : MethodId} {args : Array Value} {below : List Frame} {meth : Method} {c : Code} {base : Nat} {D : va_G} {cI cJ : ClassId} {tS : Nat}
-- ===== X0_sumOfGaps
set_option maxRecDepth 100000 in
set_option maxHeartbeats 4000000 in
theorem X0_sumOfGaps_k5 (hC : Cx p m c cX0_sumOfGaps 5 s args RX0 base D cI cJ tS) (hr : meth.sig.returnType = (some .int)) (hlocks : meth.locks = false) {n : Nat} (ih : (∀ {a0 : Nat} {i1 : Int32} {i2 : Int32} {i3 : Int32} {i4 : Int32} {σ : Sg} {r : Int32} {τ : Sg} {H : Heap} {locs : List Loc} {ls : Array Slot}, X0_sumOfGaps_run n a0 i1 i2 i3 i4 σ = some (r, τ) → Dy base D cI cJ σ H → va_S (fun q => base ≤ q) s.heap H locs → lv_has ls 5 [(0, .ref (base + a0)), (1, .int i1), (2, .int i2), (3, .int i3), (4, .int i4)] → W p l e (rmD 2 0 0) s m args below meth c H locs 0 0 (MQ below (QwI base D cI cJ r τ) args s 0 0 (fun q => base ≤ q)) (F0 m 5 ls []))) {a0 : Nat} {i1 : Int32} {i2 : Int32} {i3 : Int32} {i4 : Int32} {σ : Sg} {r : Int32} {τ : Sg} {H : Heap} {locs : List Loc} {ls : Array Slot} (h : X0_sumOfGaps_b5 n (X0_sumOfGaps_run n) a0 i1 i2 i3 i4 σ = some (r, τ)) : Dy base D cI cJ σ H → va_S (fun q => base ≤ q) s.heap H locs → lv_has ls 5 [(0, .ref (base + a0)), (1, .int i1), (2, .int i2), (3, .int i3), (4, .int i4)] → W p l e (rmD 2 0 0) s m args below meth c H locs 0 0 (MQ below (QwI base D cI cJ r τ) args s 0 0 (fun q => base ≤ q)) (F0 m 5 ls []) := by
  intro hP hS hl
  obtain ⟨hx, hb, hml, hown, hts⟩ := hC.1
  unfold X0_sumOfGaps_b5 at h
  refine lv_iload hx hb dX0_sumOfGaps_5 (lv_at hl 4 rfl) ?_
  refine lv_iload_n hx hb dX0_sumOfGaps_7 rfl (lv_at hl 2 rfl) ?_
  refine lv_icmp_ge (tgt := 27) hx hb dX0_sumOfGaps_8 (by decide) (fun c_1 => ?_) (fun c_1 => ?_)
  · rw [if_pos c_1] at h
    refine lv_iload_n hx hb dX0_sumOfGaps_27 rfl (lv_at hl 3 rfl) ?_
    obtain ⟨rfl, rfl⟩ := Prod.mk.inj (Option.some.inj h)
    exact w_iret hC hr hlocks hP hS dX0_sumOfGaps_28
  · rw [if_neg c_1] at h
    refine lv_iload_n hx hb dX0_sumOfGaps_11 rfl (lv_at hl 3 rfl) ?_
    refine lv_aload_n hx hb dX0_sumOfGaps_12 rfl (lv_at hl 0 rfl) ?_
    refine lv_iload_n hx hb dX0_sumOfGaps_13 rfl (lv_at hl 1 rfl) ?_
    refine lv_iload hx hb dX0_sumOfGaps_14 (lv_at hl 4 rfl) ?_
    obtain ⟨u_2, hu_2, h⟩ := obn h
    obtain ⟨w_3, hw_3, h⟩ := obn h
    refine k_I (r_virt (As := [.int i1, .int i4]) (rest := [.int i3]) hC hP hS (ci := 0) rfl (by decide) hu_2 (c_X0_gapAhead (l := l) (base := base) (D := D) (cI := cI) (cJ := cJ) (tS := tS) hw_3) wl_357 wl_345 wl_346 wl_52 wl_343 rfl rfl hd_X0_gapAhead ⟨Nat.le_of_ble_eq_true rfl, Nat.le_of_ble_eq_true rfl⟩ rfl hl.1 rfl (Nat.le_of_ble_eq_true rfl) dX0_sumOfGaps_16 ⟨Nat.le_of_ble_eq_true rfl, Nat.le_of_ble_eq_true rfl⟩) hS (fun H locs hP hS => ?_)
    refine lv_iadd hx hb dX0_sumOfGaps_19 ?_
    obtain ⟨i3_4, hi3_4, h⟩ := obn h
    refine w_eqi (Option.some.inj hi3_4) ?_
    refine lv_istore_n (lv' := [(3, .int i3_4), (0, .ref (base + a0)), (1, .int i1), (2, .int i2), (4, .int i4)]) hx hb dX0_sumOfGaps_20 rfl hl (by decide) rfl (fun ls hl => ?_)
    obtain ⟨i4_5, hi4_5, h⟩ := obn h
    refine lv_iinc (v := i4_5) (lv' := [(4, .int i4_5), (3, .int i3_4), (0, .ref (base + a0)), (1, .int i1), (2, .int i2)]) hx hb dX0_sumOfGaps_21 hl (k := 4) rfl (Option.some.inj hi4_5) (by decide) rfl (fun ls hl => ?_)
    refine lv_goto (tgt := 5) hx hb dX0_sumOfGaps_24 (by decide) ?_
    exact ih h hP hS (lv_sub hl [2, 3, 4, 1, 0] rfl)
set_option maxRecDepth 100000 in
set_option maxHeartbeats 4000000 in
theorem X0_sumOfGaps_k0 (hC : Cx p m c cX0_sumOfGaps 5 s args RX0 base D cI cJ tS) (hr : meth.sig.returnType = (some .int)) (hlocks : meth.locks = false) {n : Nat} (ih : (∀ {a0 : Nat} {i1 : Int32} {i2 : Int32} {i3 : Int32} {i4 : Int32} {σ : Sg} {r : Int32} {τ : Sg} {H : Heap} {locs : List Loc} {ls : Array Slot}, X0_sumOfGaps_run n a0 i1 i2 i3 i4 σ = some (r, τ) → Dy base D cI cJ σ H → va_S (fun q => base ≤ q) s.heap H locs → lv_has ls 5 [(0, .ref (base + a0)), (1, .int i1), (2, .int i2), (3, .int i3), (4, .int i4)] → W p l e (rmD 2 0 0) s m args below meth c H locs 0 0 (MQ below (QwI base D cI cJ r τ) args s 0 0 (fun q => base ≤ q)) (F0 m 5 ls []))) {a0 : Nat} {i1 : Int32} {i2 : Int32} {σ : Sg} {r : Int32} {τ : Sg} {H : Heap} {locs : List Loc} {ls : Array Slot} (h : X0_sumOfGaps_b0 n (X0_sumOfGaps_run n) a0 i1 i2 σ = some (r, τ)) : Dy base D cI cJ σ H → va_S (fun q => base ≤ q) s.heap H locs → lv_has ls 5 [(0, .ref (base + a0)), (1, .int i1), (2, .int i2)] → W p l e (rmD 2 0 0) s m args below meth c H locs 0 0 (MQ below (QwI base D cI cJ r τ) args s 0 0 (fun q => base ≤ q)) (F0 m 0 ls []) := by
  intro hP hS hl
  obtain ⟨hx, hb, hml, hown, hts⟩ := hC.1
  unfold X0_sumOfGaps_b0 at h
  refine lv_iconst (v := 0) hx hb dX0_sumOfGaps_0 (by decide) ?_
  refine lv_istore_n (lv' := [(3, .int 0), (0, .ref (base + a0)), (1, .int i1), (2, .int i2)]) hx hb dX0_sumOfGaps_1 rfl hl (by decide) rfl (fun ls hl => ?_)
  refine lv_iconst (v := 1) hx hb dX0_sumOfGaps_2 (by decide) ?_
  refine lv_istore (lv' := [(4, .int 1), (3, .int 0), (0, .ref (base + a0)), (1, .int i1), (2, .int i2)]) hx hb dX0_sumOfGaps_3 hl (by decide) rfl (fun ls hl => ?_)
  exact ih h hP hS (lv_sub hl [2, 3, 4, 1, 0] rfl)
set_option maxRecDepth 100000 in
set_option maxHeartbeats 4000000 in
theorem X0_sumOfGaps_all (hC : Cx p m c cX0_sumOfGaps 5 s args RX0 base D cI cJ tS) (hr : meth.sig.returnType = (some .int)) (hlocks : meth.locks = false) : ∀ n : Nat, (∀ {a0 : Nat} {i1 : Int32} {i2 : Int32} {i3 : Int32} {i4 : Int32} {σ : Sg} {r : Int32} {τ : Sg} {H : Heap} {locs : List Loc} {ls : Array Slot}, X0_sumOfGaps_run n a0 i1 i2 i3 i4 σ = some (r, τ) → Dy base D cI cJ σ H → va_S (fun q => base ≤ q) s.heap H locs → lv_has ls 5 [(0, .ref (base + a0)), (1, .int i1), (2, .int i2), (3, .int i3), (4, .int i4)] → W p l e (rmD 2 0 0) s m args below meth c H locs 0 0 (MQ below (QwI base D cI cJ r τ) args s 0 0 (fun q => base ≤ q)) (F0 m 5 ls [])) := by
  intro n
  induction n with
  | zero => exact fun h => (by cases h)
  | succ n ih => exact fun h => X0_sumOfGaps_k5 hC hr hlocks ih h
set_option maxRecDepth 100000 in
set_option maxHeartbeats 4000000 in
theorem c_X0_sumOfGaps {l : Launch} {base : Nat} {D : va_G} {cI cJ : ClassId} {tS : Nat} {n : Nat} {a0 : Nat} {i1 : Int32} {i2 : Int32} {σ : Sg} {r : Int32} {τ : Sg} (h : f_X0_sumOfGaps n a0 i1 i2 σ = some (r, τ)) : Met l yX0_sumOfGaps (.code yX0_sumOfGaps cX0_sumOfGaps 5 (some .int) :: wsL_law) (rmD 2 0 0) (Pw base D cI cJ tS σ [.ref (base + a0), .int i1, .int i2]) (QwI base D cI cJ r τ) 0 0 (fun q => base ≤ q) := by
  refine Met.ofW (cc := cX0_sumOfGaps) (maxL := 5) (ret := (some .int)) (by decide) rfl ?_
  intro p e s m args below meth c s₁ B hml hv
  obtain ⟨rfl, hSt, hP⟩ := hv
  have hC : Cx p m c cX0_sumOfGaps 5 s _ RX0 base D cI cJ tS := ⟨⟨B.exec, B.bytes, hml, findClass_of_methodNamed B.named, fun w hw => atoms_spec (ws := Cond.code yX0_sumOfGaps cX0_sumOfGaps 5 (some .int) :: wsL_law) B.pre w (List.mem_cons_of_mem _ hw)⟩, hSt⟩
  have hl := lv_entry ([.ref (base + a0), .int i1, .int i2]) (n := 5) (Nat.le_of_ble_eq_true rfl)
  rw [lg_entry_eq]
  generalize (lg_sl ([.ref (base + a0), .int i1, .int i2]) ++ List.replicate (5 - (lg_sl ([.ref (base + a0), .int i1, .int i2])).length) Slot.unset).toArray = ls at hl ⊢
  exact X0_sumOfGaps_k0 hC B.returns B.notSynchronized (X0_sumOfGaps_all hC B.returns B.notSynchronized n) h hP va_S.rf hl
-- ===== X4_mean
set_option maxRecDepth 100000 in
set_option maxHeartbeats 4000000 in
theorem X4_mean_k29 (hC : Cx p m c cX4_mean 6 s args RX4 base D cI cJ tS) (hr : meth.sig.returnType = (some .long)) (hlocks : meth.locks = false) {n : Nat} {σ : Sg} {r : Int64} {τ : Sg} {H : Heap} {locs : List Loc} {ls : Array Slot} (h : X4_mean_b29 n σ = some (r, τ)) : Dy base D cI cJ σ H → va_S (fun q => base ≤ q) s.heap H locs → lv_has ls 6 [] → W p l e (rmD 7 0 0) s m args below meth c H locs 0 0 (MQ below (QwJ base D cI cJ r τ) args s 0 0 (fun q => base ≤ q)) (F0 m 29 ls []) := by
  intro hP hS hl
  obtain ⟨hx, hb, hml, hown, hts⟩ := hC.1
  unfold X4_mean_b29 at h
  refine lv_ldc2 (v := (-1000000000000000002)) hx hb hown (hts _ wl_384) dX4_mean_29 ?_
  obtain ⟨rfl, rfl⟩ := Prod.mk.inj (Option.some.inj h)
  exact w_lret hC hr hlocks hP hS dX4_mean_32
set_option maxRecDepth 100000 in
set_option maxHeartbeats 4000000 in
theorem X4_mean_k0 (hC : Cx p m c cX4_mean 6 s args RX4 base D cI cJ tS) (hr : meth.sig.returnType = (some .long)) (hlocks : meth.locks = false) {n : Nat} {a0 : Nat} {i1 : Int32} {i2 : Int32} {i3 : Int32} {σ : Sg} {r : Int64} {τ : Sg} {H : Heap} {locs : List Loc} {ls : Array Slot} (h : f_X4_mean n a0 i1 i2 i3 σ = some (r, τ)) : Dy base D cI cJ σ H → va_S (fun q => base ≤ q) s.heap H locs → lv_has ls 6 [(0, .ref (base + a0)), (1, .int i1), (2, .int i2), (3, .int i3)] → W p l e (rmD 7 0 0) s m args below meth c H locs 0 0 (MQ below (QwJ base D cI cJ r τ) args s 0 0 (fun q => base ≤ q)) (F0 m 0 ls []) := by
  intro hP hS hl
  obtain ⟨hx, hb, hml, hown, hts⟩ := hC.1
  unfold f_X4_mean at h
  refine lv_iload_n hx hb dX4_mean_0 rfl (lv_at hl 1 rfl) ?_
  obtain ⟨w_1, hw_1, h⟩ := obn h
  refine k_I (r_stat (As := [.int i1]) (rest := []) hC hP hS (c_X4_isGoingStop (l := l) (base := base) (D := D) (cI := cI) (cJ := cJ) (tS := tS) hw_1) wl_96 wl_97 wl_98 wl_95 rfl rfl hd_X4_isGoingStop ⟨Nat.le_of_ble_eq_true rfl, Nat.le_of_ble_eq_true rfl⟩ rfl hl.1 rfl (Nat.le_of_ble_eq_true rfl) dX4_mean_1 ⟨Nat.le_of_ble_eq_true rfl, Nat.le_of_ble_eq_true rfl⟩) hS (fun H locs hP hS => ?_)
  refine lv_if_ne (tgt := 11) hx hb dX4_mean_4 (by decide) (fun c_2 => ?_) (fun c_2 => ?_)
  · rw [if_neg c_2] at h
    refine lv_iload_n hx hb dX4_mean_11 rfl (lv_at hl 2 rfl) ?_
    refine lv_if_lt (tgt := 29) hx hb dX4_mean_12 (by decide) (fun c_3 => ?_) (fun c_3 => ?_)
    · rw [if_pos c_3] at h
      exact X4_mean_k29 hC hr hlocks h hP hS (lv_sub hl [] rfl)
    · rw [if_neg c_3] at h
      refine lv_iload_n hx hb dX4_mean_15 rfl (lv_at hl 2 rfl) ?_
      refine lv_iconst (v := 1) hx hb dX4_mean_16 (by decide) ?_
      refine lv_icmp_gt (tgt := 29) hx hb dX4_mean_17 (by decide) (fun c_4 => ?_) (fun c_4 => ?_)
      · rw [if_pos c_4] at h
        exact X4_mean_k29 hC hr hlocks h hP hS (lv_sub hl [] rfl)
      · rw [if_neg c_4] at h
        refine lv_iload_n hx hb dX4_mean_20 rfl (lv_at hl 3 rfl) ?_
        refine lv_if_lt (tgt := 29) hx hb dX4_mean_21 (by decide) (fun c_5 => ?_) (fun c_5 => ?_)
        · rw [if_pos c_5] at h
          exact X4_mean_k29 hC hr hlocks h hP hS (lv_sub hl [] rfl)
        · rw [if_neg c_5] at h
          refine lv_iload_n hx hb dX4_mean_24 rfl (lv_at hl 3 rfl) ?_
          refine lv_iconst (v := 1) hx hb dX4_mean_25 (by decide) ?_
          refine lv_icmp_le (tgt := 33) hx hb dX4_mean_26 (by decide) (fun c_6 => ?_) (fun c_6 => ?_)
          · rw [if_pos c_6] at h
            refine lv_aload_n hx hb dX4_mean_33 rfl (lv_at hl 0 rfl) ?_
            obtain ⟨u_7, hu_7, h⟩ := obn h
            obtain ⟨w_8, hw_8, h⟩ := obn h
            refine k_A (r_virt (As := []) (rest := []) hC hP hS (ci := 4) rfl (by decide) hu_7 (c_X4_presentCourse (l := l) (base := base) (D := D) (cI := cI) (cJ := cJ) (tS := tS) hw_8) wl_248 wl_249 wl_250 wl_98 wl_247 rfl rfl hd_X4_presentCourse ⟨Nat.le_of_ble_eq_true rfl, Nat.le_of_ble_eq_true rfl⟩ rfl hl.1 rfl (Nat.le_of_ble_eq_true rfl) dX4_mean_34 ⟨Nat.le_of_ble_eq_true rfl, Nat.le_of_ble_eq_true rfl⟩) hS (fun H locs hP hS => ?_)
            refine lv_astore (lv' := [(4, .ref (base + w_8.1)), (0, .ref (base + a0)), (1, .int i1), (2, .int i2), (3, .int i3)]) hx hb dX4_mean_37 hl (by decide) rfl (fun ls hl => ?_)
            refine lv_iload_n hx hb dX4_mean_39 rfl (lv_at hl 3 rfl) ?_
            refine lv_if_ne (tgt := 63) hx hb dX4_mean_40 (by decide) (fun c_9 => ?_) (fun c_9 => ?_)
            · rw [if_neg c_9] at h
              refine lv_aload hx hb dX4_mean_63 (lv_at hl 0 rfl) ?_
              refine lv_aload_n hx hb dX4_mean_65 rfl (lv_at hl 1 rfl) ?_
              obtain ⟨q_10, hq_10, h⟩ := obn h
              refine w_getR (ci := 4) (j := 0) hC hP rfl inlX4 (by decide) (by decide) rfl hq_10 wl_43 dX4_mean_66 ?_
              refine lv_iload_n hx hb dX4_mean_69 rfl (lv_at hl 2 rfl) ?_
              obtain ⟨u_11, hu_11, h⟩ := obn h
              obtain ⟨w_12, hw_12, h⟩ := obn h
              refine k_I (r_virt (As := [.ref (base + q_10), .int i1]) (rest := []) hC hP hS (ci := 0) rfl (by decide) hu_11 (c_X0_orderLeaving (l := l) (base := base) (D := D) (cI := cI) (cJ := cJ) (tS := tS) hw_12) wl_340 wl_341 wl_342 wl_52 wl_339 rfl rfl hd_X0_orderLeaving ⟨Nat.le_of_ble_eq_true rfl, Nat.le_of_ble_eq_true rfl⟩ rfl hl.1 rfl (Nat.le_of_ble_eq_true rfl) dX4_mean_70 ⟨Nat.le_of_ble_eq_true rfl, Nat.le_of_ble_eq_true rfl⟩) hS (fun H locs hP hS => ?_)
              refine lv_istore (lv' := [(5, .int w_12.1), (4, .ref (base + w_8.1)), (0, .ref (base + a0)), (1, .int i1), (2, .int i2), (3, .int i3)]) hx hb dX4_mean_73 hl (by decide) rfl (fun ls hl => ?_)
              refine lv_aload hx hb dX4_mean_75 (lv_at hl 1 rfl) ?_
              refine lv_iload_n hx hb dX4_mean_77 rfl (lv_at hl 3 rfl) ?_
              refine lv_iload hx hb dX4_mean_78 (lv_at hl 0 rfl) ?_
              obtain ⟨u_13, hu_13, h⟩ := obn h
              obtain ⟨w_14, hw_14, h⟩ := obn h
              refine k_I (r_virt (As := [.int i1, .int w_12.1]) (rest := []) hC hP hS (ci := 0) rfl (by decide) hu_13 (c_X0_sumOfGaps (l := l) (base := base) (D := D) (cI := cI) (cJ := cJ) (tS := tS) hw_14) wl_386 wl_387 wl_388 wl_52 wl_385 rfl rfl hd_X0_sumOfGaps ⟨Nat.le_of_ble_eq_true rfl, Nat.le_of_ble_eq_true rfl⟩ rfl hl.1 rfl (Nat.le_of_ble_eq_true rfl) dX4_mean_80 ⟨Nat.le_of_ble_eq_true rfl, Nat.le_of_ble_eq_true rfl⟩) hS (fun H locs hP hS => ?_)
              refine lv_i2l hx hb dX4_mean_83 rfl ?_
              refine lv_ldc2 (v := 2) hx hb hown (hts _ wl_389) dX4_mean_84 ?_
              refine lv_iload hx hb dX4_mean_87 (lv_at hl 0 rfl) ?_
              refine lv_iconst (v := 1) hx hb dX4_mean_89 (by decide) ?_
              refine lv_isub hx hb dX4_mean_90 ?_
              refine lv_i2l hx hb dX4_mean_91 rfl ?_
              refine lv_lmul hx hb dX4_mean_92 ?_
              refine lv_iload_n hx hb dX4_mean_93 rfl (lv_at hl 5 rfl) ?_
              obtain ⟨w_15, hw_15, h⟩ := obn h
              refine k_J (r_stat (As := [.long w_14.1.toInt64, .long (2 * ((w_12.1 - 1).toInt64)), .int i3]) (rest := []) hC hP hS (c_X4_partOfFraction (l := l) (base := base) (D := D) (cI := cI) (cJ := cJ) (tS := tS) hw_15) wl_391 wl_392 wl_98 wl_390 rfl rfl hd_X4_partOfFraction ⟨Nat.le_of_ble_eq_true rfl, Nat.le_of_ble_eq_true rfl⟩ rfl hl.1 rfl (Nat.le_of_ble_eq_true rfl) dX4_mean_94 ⟨Nat.le_of_ble_eq_true rfl, Nat.le_of_ble_eq_true rfl⟩) hS (fun H locs hP hS => ?_)
              obtain ⟨rfl, rfl⟩ := Prod.mk.inj (Option.some.inj h)
              exact w_lret hC hr hlocks hP hS dX4_mean_97
            · rw [if_pos c_9] at h
              refine lv_aload hx hb dX4_mean_43 (lv_at hl 0 rfl) ?_
              obtain ⟨q_16, hq_16, h⟩ := obn h
              refine w_getR (ci := 0) (j := 8) hC hP rfl inlX0 (by decide) (by decide) rfl hq_16 wl_393 dX4_mean_45 ?_
              refine lv_iload_n hx hb dX4_mean_48 rfl (lv_at hl 2 rfl) ?_
              obtain ⟨v_17, hv_17, h⟩ := obn h
              refine w_lald hC hP hv_17 dX4_mean_49 ?_
              refine lv_aload hx hb dX4_mean_50 (lv_at hl 0 rfl) ?_
              obtain ⟨q_18, hq_18, h⟩ := obn h
              refine w_getR (ci := 0) (j := 7) hC hP rfl inlX0 (by decide) (by decide) rfl hq_18 wl_394 dX4_mean_52 ?_
              refine lv_iload_n hx hb dX4_mean_55 rfl (lv_at hl 2 rfl) ?_
              obtain ⟨v_19, hv_19, h⟩ := obn h
              refine w_iald hC hP hv_19 dX4_mean_56 ?_
              refine lv_i2l hx hb dX4_mean_57 rfl ?_
              refine lv_iload_n hx hb dX4_mean_58 rfl (lv_at hl 4 rfl) ?_
              obtain ⟨w_20, hw_20, h⟩ := obn h
              refine k_J (r_stat (As := [.long v_17, .long v_19.toInt64, .int i3]) (rest := []) hC hP hS (c_X4_partOfFraction (l := l) (base := base) (D := D) (cI := cI) (cJ := cJ) (tS := tS) hw_20) wl_391 wl_392 wl_98 wl_390 rfl rfl hd_X4_partOfFraction ⟨Nat.le_of_ble_eq_true rfl, Nat.le_of_ble_eq_true rfl⟩ rfl hl.1 rfl (Nat.le_of_ble_eq_true rfl) dX4_mean_59 ⟨Nat.le_of_ble_eq_true rfl, Nat.le_of_ble_eq_true rfl⟩) hS (fun H locs hP hS => ?_)
              obtain ⟨rfl, rfl⟩ := Prod.mk.inj (Option.some.inj h)
              exact w_lret hC hr hlocks hP hS dX4_mean_62
          · rw [if_neg c_6] at h
            exact X4_mean_k29 hC hr hlocks h hP hS (lv_sub hl [] rfl)
  · rw [if_pos c_2] at h
    refine lv_ldc2 (v := (-1000000000000000001)) hx hb hown (hts _ wl_395) dX4_mean_7 ?_
    obtain ⟨rfl, rfl⟩ := Prod.mk.inj (Option.some.inj h)
    exact w_lret hC hr hlocks hP hS dX4_mean_10
set_option maxRecDepth 100000 in
set_option maxHeartbeats 4000000 in
theorem c_X4_mean {l : Launch} {base : Nat} {D : va_G} {cI cJ : ClassId} {tS : Nat} {n : Nat} {a0 : Nat} {i1 : Int32} {i2 : Int32} {i3 : Int32} {σ : Sg} {r : Int64} {τ : Sg} (h : f_X4_mean n a0 i1 i2 i3 σ = some (r, τ)) : Met l yX4_mean (.code yX4_mean cX4_mean 6 (some .long) :: wsL_law) (rmD 7 0 0) (Pw base D cI cJ tS σ [.ref (base + a0), .int i1, .int i2, .int i3]) (QwJ base D cI cJ r τ) 0 0 (fun q => base ≤ q) := by
  refine Met.ofW (cc := cX4_mean) (maxL := 6) (ret := (some .long)) (by decide) rfl ?_
  intro p e s m args below meth c s₁ B hml hv
  obtain ⟨rfl, hSt, hP⟩ := hv
  have hC : Cx p m c cX4_mean 6 s _ RX4 base D cI cJ tS := ⟨⟨B.exec, B.bytes, hml, findClass_of_methodNamed B.named, fun w hw => atoms_spec (ws := Cond.code yX4_mean cX4_mean 6 (some .long) :: wsL_law) B.pre w (List.mem_cons_of_mem _ hw)⟩, hSt⟩
  have hl := lv_entry ([.ref (base + a0), .int i1, .int i2, .int i3]) (n := 6) (Nat.le_of_ble_eq_true rfl)
  rw [lg_entry_eq]
  generalize (lg_sl ([.ref (base + a0), .int i1, .int i2, .int i3]) ++ List.replicate (6 - (lg_sl ([.ref (base + a0), .int i1, .int i2, .int i3])).length) Slot.unset).toArray = ls at hl ⊢
  exact X4_mean_k0 hC B.returns B.notSynchronized h hP va_S.rf hl
-- ===== X5_term
set_option maxRecDepth 100000 in
set_option maxHeartbeats 4000000 in
theorem X5_term_k16 (hC : Cx p m c cX5_term 11 s args RX5 base D cI cJ tS) (hr : meth.sig.returnType = (some .long)) (hlocks : meth.locks = false) {n : Nat} (ih : (∀ {j0 : Int64} {j2 : Int64} {i4 : Int32} {j5 : Int64} {j7 : Int64} {σ : Sg} {r : Int64} {τ : Sg} {H : Heap} {locs : List Loc} {ls : Array Slot}, X5_term_run n j0 j2 i4 j5 j7 σ = some (r, τ) → Dy base D cI cJ σ H → va_S (fun q => base ≤ q) s.heap H locs → lv_has ls 11 [(0, .long j0), (2, .long j2), (4, .int i4), (5, .long j5), (7, .long j7)] → W p l e (rmD 0 0 0) s m args below meth c H locs 0 0 (MQ below (QwJ base D cI cJ r τ) args s 0 0 (fun q => base ≤ q)) (F0 m 16 ls []))) {j0 : Int64} {j2 : Int64} {i4 : Int32} {j5 : Int64} {j7 : Int64} {σ : Sg} {r : Int64} {τ : Sg} {H : Heap} {locs : List Loc} {ls : Array Slot} (h : X5_term_b16 n (X5_term_run n) j0 j2 i4 j5 j7 σ = some (r, τ)) : Dy base D cI cJ σ H → va_S (fun q => base ≤ q) s.heap H locs → lv_has ls 11 [(0, .long j0), (2, .long j2), (4, .int i4), (5, .long j5), (7, .long j7)] → W p l e (rmD 0 0 0) s m args below meth c H locs 0 0 (MQ below (QwJ base D cI cJ r τ) args s 0 0 (fun q => base ≤ q)) (F0 m 16 ls []) := by
  intro hP hS hl
  obtain ⟨hx, hb, hml, hown, hts⟩ := hC.1
  unfold X5_term_b16 at h
  refine lv_lload hx hb dX5_term_16 (lv_at hl 4 rfl) ?_
  refine lv_lconst (v := 0) hx hb dX5_term_18 (by decide) ?_
  refine W.lcmp hx hb dX5_term_19 ?_
  refine lv_if_eq (tgt := 41) hx hb dX5_term_20 (by decide) (fun c_1 => ?_) (fun c_1 => ?_)
  · rw [if_pos c_1] at h
    refine lv_iload hx hb dX5_term_41 (lv_at hl 2 rfl) ?_
    refine lv_if_ne (tgt := 53) hx hb dX5_term_43 (by decide) (fun c_2 => ?_) (fun c_2 => ?_)
    · rw [if_neg c_2] at h
      refine lv_lload_n hx hb dX5_term_53 rfl (lv_at hl 1 rfl) ?_
      refine lv_lload hx hb dX5_term_54 (lv_at hl 3 rfl) ?_
      obtain ⟨u_3, hu_3, h⟩ := obn h
      refine lv_ldiv hx hb dX5_term_56 (ifn hu_3).1 ?_
      obtain ⟨rfl, rfl⟩ := Prod.mk.inj (Option.some.inj h)
      exact w_lret hC hr hlocks hP hS dX5_term_57
    · rw [if_pos c_2] at h
      refine lv_lload_n hx hb dX5_term_46 rfl (lv_at hl 0 rfl) ?_
      refine lv_lload hx hb dX5_term_47 (lv_at hl 3 rfl) ?_
      obtain ⟨u_4, hu_4, h⟩ := obn h
      refine lv_ldiv hx hb dX5_term_49 (ifn hu_4).1 ?_
      refine lv_goto (tgt := 57) hx hb dX5_term_50 (by decide) ?_
      obtain ⟨rfl, rfl⟩ := Prod.mk.inj (Option.some.inj h)
      exact w_lret hC hr hlocks hP hS dX5_term_57
  · rw [if_neg c_1] at h
    refine lv_lload hx hb dX5_term_23 (lv_at hl 3 rfl) ?_
    refine lv_lload hx hb dX5_term_25 (lv_at hl 4 rfl) ?_
    obtain ⟨u_5, hu_5, h⟩ := obn h
    refine lv_lrem hx hb dX5_term_27 (ifn hu_5).1 ?_
    obtain ⟨j9_6, hj9_6, h⟩ := obn h
    refine w_eqj (Option.some.inj hj9_6) ?_
    refine lv_lstore (lv' := [(9, .long j9_6), (0, .long j0), (2, .long j2), (4, .int i4), (5, .long j5), (7, .long j7)]) hx hb dX5_term_28 hl (by decide) rfl (fun ls hl => ?_)
    refine lv_lload hx hb dX5_term_30 (lv_at hl 5 rfl) ?_
    refine lv_lstore (lv' := [(5, .long j7), (9, .long j9_6), (0, .long j0), (2, .long j2), (4, .int i4), (7, .long j7)]) hx hb dX5_term_32 hl (by decide) rfl (fun ls hl => ?_)
    refine lv_lload hx hb dX5_term_34 (lv_at hl 1 rfl) ?_
    refine lv_lstore (lv' := [(7, .long j9_6), (5, .long j7), (9, .long j9_6), (0, .long j0), (2, .long j2), (4, .int i4)]) hx hb dX5_term_36 hl (by decide) rfl (fun ls hl => ?_)
    refine lv_goto (tgt := 16) hx hb dX5_term_38 (by decide) ?_
    exact ih h hP hS (lv_sub hl [3, 4, 5, 1, 0] rfl)
set_option maxRecDepth 100000 in
set_option maxHeartbeats 4000000 in
theorem X5_term_k0 (hC : Cx p m c cX5_term 11 s args RX5 base D cI cJ tS) (hr : meth.sig.returnType = (some .long)) (hlocks : meth.locks = false) {n : Nat} (ih : (∀ {j0 : Int64} {j2 : Int64} {i4 : Int32} {j5 : Int64} {j7 : Int64} {σ : Sg} {r : Int64} {τ : Sg} {H : Heap} {locs : List Loc} {ls : Array Slot}, X5_term_run n j0 j2 i4 j5 j7 σ = some (r, τ) → Dy base D cI cJ σ H → va_S (fun q => base ≤ q) s.heap H locs → lv_has ls 11 [(0, .long j0), (2, .long j2), (4, .int i4), (5, .long j5), (7, .long j7)] → W p l e (rmD 0 0 0) s m args below meth c H locs 0 0 (MQ below (QwJ base D cI cJ r τ) args s 0 0 (fun q => base ≤ q)) (F0 m 16 ls []))) {j0 : Int64} {j2 : Int64} {i4 : Int32} {σ : Sg} {r : Int64} {τ : Sg} {H : Heap} {locs : List Loc} {ls : Array Slot} (h : X5_term_b0 n (X5_term_run n) j0 j2 i4 σ = some (r, τ)) : Dy base D cI cJ σ H → va_S (fun q => base ≤ q) s.heap H locs → lv_has ls 11 [(0, .long j0), (2, .long j2), (4, .int i4)] → W p l e (rmD 0 0 0) s m args below meth c H locs 0 0 (MQ below (QwJ base D cI cJ r τ) args s 0 0 (fun q => base ≤ q)) (F0 m 0 ls []) := by
  intro hP hS hl
  obtain ⟨hx, hb, hml, hown, hts⟩ := hC.1
  unfold X5_term_b0 at h
  refine lv_lload_n hx hb dX5_term_0 rfl (lv_at hl 1 rfl) ?_
  refine lv_lconst (v := 0) hx hb dX5_term_1 (by decide) ?_
  refine W.lcmp hx hb dX5_term_2 ?_
  refine lv_if_ne (tgt := 10) hx hb dX5_term_3 (by decide) (fun c_7 => ?_) (fun c_7 => ?_)
  · rw [if_neg c_7] at h
    refine lv_lload_n hx hb dX5_term_10 rfl (lv_at hl 0 rfl) ?_
    refine lv_lstore (lv' := [(5, .long j0), (0, .long j0), (2, .long j2), (4, .int i4)]) hx hb dX5_term_11 hl (by decide) rfl (fun ls hl => ?_)
    refine lv_lload_n hx hb dX5_term_13 rfl (lv_at hl 2 rfl) ?_
    refine lv_lstore (lv' := [(7, .long j2), (5, .long j0), (0, .long j0), (2, .long j2), (4, .int i4)]) hx hb dX5_term_14 hl (by decide) rfl (fun ls hl => ?_)
    exact ih h hP hS (lv_sub hl [2, 3, 4, 1, 0] rfl)
  · rw [if_pos c_7] at h
    refine lv_iload hx hb dX5_term_6 (lv_at hl 2 rfl) ?_
    refine lv_i2l hx hb dX5_term_8 rfl ?_
    obtain ⟨rfl, rfl⟩ := Prod.mk.inj (Option.some.inj h)
    exact w_lret hC hr hlocks hP hS dX5_term_9
set_option maxRecDepth 100000 in
set_option maxHeartbeats 4000000 in
theorem X5_term_all (hC : Cx p m c cX5_term 11 s args RX5 base D cI cJ tS) (hr : meth.sig.returnType = (some .long)) (hlocks : meth.locks = false) : ∀ n : Nat, (∀ {j0 : Int64} {j2 : Int64} {i4 : Int32} {j5 : Int64} {j7 : Int64} {σ : Sg} {r : Int64} {τ : Sg} {H : Heap} {locs : List Loc} {ls : Array Slot}, X5_term_run n j0 j2 i4 j5 j7 σ = some (r, τ) → Dy base D cI cJ σ H → va_S (fun q => base ≤ q) s.heap H locs → lv_has ls 11 [(0, .long j0), (2, .long j2), (4, .int i4), (5, .long j5), (7, .long j7)] → W p l e (rmD 0 0 0) s m args below meth c H locs 0 0 (MQ below (QwJ base D cI cJ r τ) args s 0 0 (fun q => base ≤ q)) (F0 m 16 ls [])) := by
  intro n
  induction n with
  | zero => exact fun h => (by cases h)
  | succ n ih => exact fun h => X5_term_k16 hC hr hlocks ih h
set_option maxRecDepth 100000 in
set_option maxHeartbeats 4000000 in
theorem c_X5_term {l : Launch} {base : Nat} {D : va_G} {cI cJ : ClassId} {tS : Nat} {n : Nat} {j0 : Int64} {j2 : Int64} {i4 : Int32} {σ : Sg} {r : Int64} {τ : Sg} (h : f_X5_term n j0 j2 i4 σ = some (r, τ)) : Met l yX5_term (.code yX5_term cX5_term 11 (some .long) :: wsL_law) (rmD 0 0 0) (Pw base D cI cJ tS σ [.long j0, .long j2, .int i4]) (QwJ base D cI cJ r τ) 0 0 (fun q => base ≤ q) := by
  refine Met.ofW (cc := cX5_term) (maxL := 11) (ret := (some .long)) (by decide) rfl ?_
  intro p e s m args below meth c s₁ B hml hv
  obtain ⟨rfl, hSt, hP⟩ := hv
  have hC : Cx p m c cX5_term 11 s _ RX5 base D cI cJ tS := ⟨⟨B.exec, B.bytes, hml, findClass_of_methodNamed B.named, fun w hw => atoms_spec (ws := Cond.code yX5_term cX5_term 11 (some .long) :: wsL_law) B.pre w (List.mem_cons_of_mem _ hw)⟩, hSt⟩
  have hl := lv_entry ([.long j0, .long j2, .int i4]) (n := 11) (Nat.le_of_ble_eq_true rfl)
  rw [lg_entry_eq]
  generalize (lg_sl ([.long j0, .long j2, .int i4]) ++ List.replicate (11 - (lg_sl ([.long j0, .long j2, .int i4])).length) Slot.unset).toArray = ls at hl ⊢
  exact X5_term_k0 hC B.returns B.notSynchronized (X5_term_all hC B.returns B.notSynchronized n) h hP va_S.rf hl
-- ===== X5_mean
set_option maxRecDepth 100000 in
set_option maxHeartbeats 4000000 in
theorem X5_mean_k29 (hC : Cx p m c cX5_mean 6 s args RX5 base D cI cJ tS) (hr : meth.sig.returnType = (some .long)) (hlocks : meth.locks = false) {n : Nat} {σ : Sg} {r : Int64} {τ : Sg} {H : Heap} {locs : List Loc} {ls : Array Slot} (h : X5_mean_b29 n σ = some (r, τ)) : Dy base D cI cJ σ H → va_S (fun q => base ≤ q) s.heap H locs → lv_has ls 6 [] → W p l e (rmD 3 0 0) s m args below meth c H locs 0 0 (MQ below (QwJ base D cI cJ r τ) args s 0 0 (fun q => base ≤ q)) (F0 m 29 ls []) := by
  intro hP hS hl
  obtain ⟨hx, hb, hml, hown, hts⟩ := hC.1
  unfold X5_mean_b29 at h
  refine lv_ldc2 (v := (-1000000000000000002)) hx hb hown (hts _ wl_396) dX5_mean_29 ?_
  obtain ⟨rfl, rfl⟩ := Prod.mk.inj (Option.some.inj h)
  exact w_lret hC hr hlocks hP hS dX5_mean_32
set_option maxRecDepth 100000 in
set_option maxHeartbeats 4000000 in
theorem X5_mean_k0 (hC : Cx p m c cX5_mean 6 s args RX5 base D cI cJ tS) (hr : meth.sig.returnType = (some .long)) (hlocks : meth.locks = false) {n : Nat} {a0 : Nat} {i1 : Int32} {i2 : Int32} {i3 : Int32} {σ : Sg} {r : Int64} {τ : Sg} {H : Heap} {locs : List Loc} {ls : Array Slot} (h : f_X5_mean n a0 i1 i2 i3 σ = some (r, τ)) : Dy base D cI cJ σ H → va_S (fun q => base ≤ q) s.heap H locs → lv_has ls 6 [(0, .ref (base + a0)), (1, .int i1), (2, .int i2), (3, .int i3)] → W p l e (rmD 3 0 0) s m args below meth c H locs 0 0 (MQ below (QwJ base D cI cJ r τ) args s 0 0 (fun q => base ≤ q)) (F0 m 0 ls []) := by
  intro hP hS hl
  obtain ⟨hx, hb, hml, hown, hts⟩ := hC.1
  unfold f_X5_mean at h
  refine lv_iload_n hx hb dX5_mean_0 rfl (lv_at hl 1 rfl) ?_
  obtain ⟨w_1, hw_1, h⟩ := obn h
  refine k_I (r_stat (As := [.int i1]) (rest := []) hC hP hS (c_X5_isOn (l := l) (base := base) (D := D) (cI := cI) (cJ := cJ) (tS := tS) hw_1) wl_115 wl_116 wl_113 wl_114 rfl rfl hd_X5_isOn ⟨Nat.le_of_ble_eq_true rfl, Nat.le_of_ble_eq_true rfl⟩ rfl hl.1 rfl (Nat.le_of_ble_eq_true rfl) dX5_mean_1 ⟨Nat.le_of_ble_eq_true rfl, Nat.le_of_ble_eq_true rfl⟩) hS (fun H locs hP hS => ?_)
  refine lv_if_ne (tgt := 11) hx hb dX5_mean_4 (by decide) (fun c_2 => ?_) (fun c_2 => ?_)
  · rw [if_neg c_2] at h
    refine lv_iload_n hx hb dX5_mean_11 rfl (lv_at hl 2 rfl) ?_
    refine lv_iconst (v := 0) hx hb dX5_mean_12 (by decide) ?_
    refine lv_iconst (v := 1) hx hb dX5_mean_13 (by decide) ?_
    obtain ⟨w_3, hw_3, h⟩ := obn h
    refine k_I (r_stat (As := [.int i2, .int 0, .int 1]) (rest := []) hC hP hS (c_X5_in (l := l) (base := base) (D := D) (cI := cI) (cJ := cJ) (tS := tS) hw_3) wl_111 wl_112 wl_113 wl_110 rfl rfl hd_X5_in ⟨Nat.le_of_ble_eq_true rfl, Nat.le_of_ble_eq_true rfl⟩ rfl hl.1 rfl (Nat.le_of_ble_eq_true rfl) dX5_mean_14 ⟨Nat.le_of_ble_eq_true rfl, Nat.le_of_ble_eq_true rfl⟩) hS (fun H locs hP hS => ?_)
    refine lv_if_eq (tgt := 29) hx hb dX5_mean_17 (by decide) (fun c_4 => ?_) (fun c_4 => ?_)
    · rw [if_pos c_4] at h
      exact X5_mean_k29 hC hr hlocks h hP hS (lv_sub hl [] rfl)
    · rw [if_neg c_4] at h
      refine lv_iload_n hx hb dX5_mean_20 rfl (lv_at hl 3 rfl) ?_
      refine lv_iconst (v := 0) hx hb dX5_mean_21 (by decide) ?_
      refine lv_iconst (v := 1) hx hb dX5_mean_22 (by decide) ?_
      obtain ⟨w_5, hw_5, h⟩ := obn h
      refine k_I (r_stat (As := [.int i3, .int 0, .int 1]) (rest := []) hC hP hS (c_X5_in (l := l) (base := base) (D := D) (cI := cI) (cJ := cJ) (tS := tS) hw_5) wl_111 wl_112 wl_113 wl_110 rfl rfl hd_X5_in ⟨Nat.le_of_ble_eq_true rfl, Nat.le_of_ble_eq_true rfl⟩ rfl hl.1 rfl (Nat.le_of_ble_eq_true rfl) dX5_mean_23 ⟨Nat.le_of_ble_eq_true rfl, Nat.le_of_ble_eq_true rfl⟩) hS (fun H locs hP hS => ?_)
      refine lv_if_ne (tgt := 33) hx hb dX5_mean_26 (by decide) (fun c_6 => ?_) (fun c_6 => ?_)
      · rw [if_neg c_6] at h
        refine lv_aload_n hx hb dX5_mean_33 rfl (lv_at hl 0 rfl) ?_
        refine lv_bipush (v := (-6)) hx hb dX5_mean_34 (by decide) ?_
        obtain ⟨u_7, hu_7, h⟩ := obn h
        obtain ⟨w_8, hw_8, h⟩ := obn h
        refine k_V (r_virt (As := [.int (-6)]) (rest := []) hC hP hS (ci := 5) rfl (by decide) hu_7 (c_X5_lay (l := l) (base := base) (D := D) (cI := cI) (cJ := cJ) (tS := tS) hw_8) wl_280 wl_281 wl_282 wl_113 wl_279 rfl rfl hd_X5_lay ⟨Nat.le_of_ble_eq_true rfl, Nat.le_of_ble_eq_true rfl⟩ rfl hl.1 rfl (Nat.le_of_ble_eq_true rfl) dX5_mean_36 ⟨Nat.le_of_ble_eq_true rfl, Nat.le_of_ble_eq_true rfl⟩) hS (fun H locs hP hS => ?_)
        refine lv_iload_n hx hb dX5_mean_39 rfl (lv_at hl 2 rfl) ?_
        refine lv_if_ne (tgt := 62) hx hb dX5_mean_40 (by decide) (fun c_9 => ?_) (fun c_9 => ?_)
        · rw [if_neg c_9] at h
          refine lv_aload_n hx hb dX5_mean_62 rfl (lv_at hl 0 rfl) ?_
          refine lv_iload_n hx hb dX5_mean_63 rfl (lv_at hl 1 rfl) ?_
          obtain ⟨u_10, hu_10, h⟩ := obn h
          obtain ⟨w_11, hw_11, h⟩ := obn h
          refine k_V (r_virt (As := [.int i1]) (rest := []) hC hP hS (ci := 5) rfl (by decide) hu_10 (c_X5_layGoing (l := l) (base := base) (D := D) (cI := cI) (cJ := cJ) (tS := tS) hw_11) wl_354 wl_355 wl_356 wl_113 wl_353 rfl rfl hd_X5_layGoing ⟨Nat.le_of_ble_eq_true rfl, Nat.le_of_ble_eq_true rfl⟩ rfl hl.1 rfl (Nat.le_of_ble_eq_true rfl) dX5_mean_64 ⟨Nat.le_of_ble_eq_true rfl, Nat.le_of_ble_eq_true rfl⟩) hS (fun H locs hP hS => ?_)
          refine lv_aload_n hx hb dX5_mean_67 rfl (lv_at hl 0 rfl) ?_
          obtain ⟨v_12, hv_12, h⟩ := obn h
          refine w_getI (ci := 5) (j := 32) hC hP rfl inlX5 (by decide) (by decide) rfl hv_12 wl_348 dX5_mean_68 ?_
          refine lv_iconst (v := 2) hx hb dX5_mean_71 (by decide) ?_
          refine lv_icmp_ge (tgt := 78) hx hb dX5_mean_72 (by decide) (fun c_13 => ?_) (fun c_13 => ?_)
          · rw [if_pos c_13] at h
            refine lv_aload_n hx hb dX5_mean_78 rfl (lv_at hl 0 rfl) ?_
            obtain ⟨q_14, hq_14, h⟩ := obn h
            refine w_getR (ci := 5) (j := 18) hC hP rfl inlX5 (by decide) (by decide) rfl hq_14 wl_79 dX5_mean_79 ?_
            refine lv_bipush (v := 10) hx hb dX5_mean_82 (by decide) ?_
            refine lv_aload_n hx hb dX5_mean_84 rfl (lv_at hl 0 rfl) ?_
            obtain ⟨q_15, hq_15, h⟩ := obn h
            refine w_getR (ci := 5) (j := 33) hC hP rfl inlX5 (by decide) (by decide) rfl hq_15 wl_90 dX5_mean_85 ?_
            refine lv_aload_n hx hb dX5_mean_88 rfl (lv_at hl 0 rfl) ?_
            obtain ⟨v_16, hv_16, h⟩ := obn h
            refine w_getI (ci := 5) (j := 32) hC hP rfl inlX5 (by decide) (by decide) rfl hv_16 wl_348 dX5_mean_89 ?_
            refine lv_iconst (v := 1) hx hb dX5_mean_92 (by decide) ?_
            refine lv_isub hx hb dX5_mean_93 ?_
            obtain ⟨v_17, hv_17, h⟩ := obn h
            refine w_iald hC hP hv_17 dX5_mean_94 ?_
            refine lv_imul hx hb dX5_mean_95 ?_
            refine lv_iload_n hx hb dX5_mean_96 rfl (lv_at hl 1 rfl) ?_
            refine lv_iadd hx hb dX5_mean_97 ?_
            obtain ⟨v_18, hv_18, h⟩ := obn h
            refine w_iald hC hP hv_18 dX5_mean_98 ?_
            refine lv_aload_n hx hb dX5_mean_99 rfl (lv_at hl 0 rfl) ?_
            obtain ⟨q_19, hq_19, h⟩ := obn h
            refine w_getR (ci := 5) (j := 18) hC hP rfl inlX5 (by decide) (by decide) rfl hq_19 wl_79 dX5_mean_100 ?_
            refine lv_bipush (v := 10) hx hb dX5_mean_103 (by decide) ?_
            refine lv_aload_n hx hb dX5_mean_105 rfl (lv_at hl 0 rfl) ?_
            obtain ⟨q_20, hq_20, h⟩ := obn h
            refine w_getR (ci := 5) (j := 33) hC hP rfl inlX5 (by decide) (by decide) rfl hq_20 wl_90 dX5_mean_106 ?_
            refine lv_iconst (v := 0) hx hb dX5_mean_109 (by decide) ?_
            obtain ⟨v_21, hv_21, h⟩ := obn h
            refine w_iald hC hP hv_21 dX5_mean_110 ?_
            refine lv_imul hx hb dX5_mean_111 ?_
            refine lv_iload_n hx hb dX5_mean_112 rfl (lv_at hl 1 rfl) ?_
            refine lv_iadd hx hb dX5_mean_113 ?_
            obtain ⟨v_22, hv_22, h⟩ := obn h
            refine w_iald hC hP hv_22 dX5_mean_114 ?_
            refine lv_isub hx hb dX5_mean_115 ?_
            refine lv_i2l hx hb dX5_mean_116 rfl ?_
            obtain ⟨j4_23, hj4_23, h⟩ := obn h
            refine w_eqj (Option.some.inj hj4_23) ?_
            refine lv_lstore (lv' := [(4, .long j4_23), (0, .ref (base + a0)), (1, .int i1), (2, .int i2), (3, .int i3)]) hx hb dX5_mean_117 hl (by decide) rfl (fun ls hl => ?_)
            refine lv_lload hx hb dX5_mean_119 (lv_at hl 0 rfl) ?_
            refine lv_ldc2 (v := 2) hx hb hown (hts _ wl_397) dX5_mean_121 ?_
            refine lv_aload_n hx hb dX5_mean_124 rfl (lv_at hl 1 rfl) ?_
            obtain ⟨v_24, hv_24, h⟩ := obn h
            refine w_getI (ci := 5) (j := 32) hC hP rfl inlX5 (by decide) (by decide) rfl hv_24 wl_348 dX5_mean_125 ?_
            refine lv_iconst (v := 1) hx hb dX5_mean_128 (by decide) ?_
            refine lv_isub hx hb dX5_mean_129 ?_
            refine lv_i2l hx hb dX5_mean_130 rfl ?_
            refine lv_lmul hx hb dX5_mean_131 ?_
            refine lv_iload_n hx hb dX5_mean_132 rfl (lv_at hl 4 rfl) ?_
            obtain ⟨w_25, hw_25, h⟩ := obn h
            refine k_J (r_stat (As := [.long j4_23, .long (2 * ((v_24 - 1).toInt64)), .int i3]) (rest := []) hC hP hS (c_X5_term (l := l) (base := base) (D := D) (cI := cI) (cJ := cJ) (tS := tS) hw_25) wl_399 wl_400 wl_113 wl_398 rfl rfl hd_X5_term ⟨Nat.le_of_ble_eq_true rfl, Nat.le_of_ble_eq_true rfl⟩ rfl hl.1 rfl (Nat.le_of_ble_eq_true rfl) dX5_mean_133 ⟨Nat.le_of_ble_eq_true rfl, Nat.le_of_ble_eq_true rfl⟩) hS (fun H locs hP hS => ?_)
            obtain ⟨rfl, rfl⟩ := Prod.mk.inj (Option.some.inj h)
            exact w_lret hC hr hlocks hP hS dX5_mean_136
          · rw [if_neg c_13] at h
            refine lv_iload_n hx hb dX5_mean_75 rfl (lv_at hl 3 rfl) ?_
            refine lv_i2l hx hb dX5_mean_76 rfl ?_
            obtain ⟨rfl, rfl⟩ := Prod.mk.inj (Option.some.inj h)
            exact w_lret hC hr hlocks hP hS dX5_mean_77
        · rw [if_pos c_9] at h
          refine lv_aload_n hx hb dX5_mean_43 rfl (lv_at hl 0 rfl) ?_
          obtain ⟨q_26, hq_26, h⟩ := obn h
          refine w_getR (ci := 5) (j := 26) hC hP rfl inlX5 (by decide) (by decide) rfl hq_26 wl_87 dX5_mean_44 ?_
          refine lv_iload_n hx hb dX5_mean_47 rfl (lv_at hl 1 rfl) ?_
          obtain ⟨v_27, hv_27, h⟩ := obn h
          refine w_iald hC hP hv_27 dX5_mean_48 ?_
          refine lv_i2l hx hb dX5_mean_49 rfl ?_
          refine lv_aload_n hx hb dX5_mean_50 rfl (lv_at hl 0 rfl) ?_
          obtain ⟨q_28, hq_28, h⟩ := obn h
          refine w_getR (ci := 5) (j := 25) hC hP rfl inlX5 (by decide) (by decide) rfl hq_28 wl_86 dX5_mean_51 ?_
          refine lv_iload_n hx hb dX5_mean_54 rfl (lv_at hl 1 rfl) ?_
          obtain ⟨v_29, hv_29, h⟩ := obn h
          refine w_iald hC hP hv_29 dX5_mean_55 ?_
          refine lv_i2l hx hb dX5_mean_56 rfl ?_
          refine lv_iload_n hx hb dX5_mean_57 rfl (lv_at hl 3 rfl) ?_
          obtain ⟨w_30, hw_30, h⟩ := obn h
          refine k_J (r_stat (As := [.long v_27.toInt64, .long v_29.toInt64, .int i3]) (rest := []) hC hP hS (c_X5_term (l := l) (base := base) (D := D) (cI := cI) (cJ := cJ) (tS := tS) hw_30) wl_399 wl_400 wl_113 wl_398 rfl rfl hd_X5_term ⟨Nat.le_of_ble_eq_true rfl, Nat.le_of_ble_eq_true rfl⟩ rfl hl.1 rfl (Nat.le_of_ble_eq_true rfl) dX5_mean_58 ⟨Nat.le_of_ble_eq_true rfl, Nat.le_of_ble_eq_true rfl⟩) hS (fun H locs hP hS => ?_)
          obtain ⟨rfl, rfl⟩ := Prod.mk.inj (Option.some.inj h)
          exact w_lret hC hr hlocks hP hS dX5_mean_61
      · rw [if_pos c_6] at h
        exact X5_mean_k29 hC hr hlocks h hP hS (lv_sub hl [] rfl)
  · rw [if_pos c_2] at h
    refine lv_ldc2 (v := (-1000000000000000001)) hx hb hown (hts _ wl_401) dX5_mean_7 ?_
    obtain ⟨rfl, rfl⟩ := Prod.mk.inj (Option.some.inj h)
    exact w_lret hC hr hlocks hP hS dX5_mean_10
set_option maxRecDepth 100000 in
set_option maxHeartbeats 4000000 in
theorem c_X5_mean {l : Launch} {base : Nat} {D : va_G} {cI cJ : ClassId} {tS : Nat} {n : Nat} {a0 : Nat} {i1 : Int32} {i2 : Int32} {i3 : Int32} {σ : Sg} {r : Int64} {τ : Sg} (h : f_X5_mean n a0 i1 i2 i3 σ = some (r, τ)) : Met l yX5_mean (.code yX5_mean cX5_mean 6 (some .long) :: wsL_law) (rmD 3 0 0) (Pw base D cI cJ tS σ [.ref (base + a0), .int i1, .int i2, .int i3]) (QwJ base D cI cJ r τ) 0 0 (fun q => base ≤ q) := by
  refine Met.ofW (cc := cX5_mean) (maxL := 6) (ret := (some .long)) (by decide) rfl ?_
  intro p e s m args below meth c s₁ B hml hv
  obtain ⟨rfl, hSt, hP⟩ := hv
  have hC : Cx p m c cX5_mean 6 s _ RX5 base D cI cJ tS := ⟨⟨B.exec, B.bytes, hml, findClass_of_methodNamed B.named, fun w hw => atoms_spec (ws := Cond.code yX5_mean cX5_mean 6 (some .long) :: wsL_law) B.pre w (List.mem_cons_of_mem _ hw)⟩, hSt⟩
  have hl := lv_entry ([.ref (base + a0), .int i1, .int i2, .int i3]) (n := 6) (Nat.le_of_ble_eq_true rfl)
  rw [lg_entry_eq]
  generalize (lg_sl ([.ref (base + a0), .int i1, .int i2, .int i3]) ++ List.replicate (6 - (lg_sl ([.ref (base + a0), .int i1, .int i2, .int i3])).length) Slot.unset).toArray = ls at hl ⊢
  exact X5_mean_k0 hC B.returns B.notSynchronized h hP va_S.rf hl
-- ===== X0_sumOfWaits
set_option maxRecDepth 100000 in
set_option maxHeartbeats 4000000 in
theorem X0_sumOfWaits_k4 (hC : Cx p m c cX0_sumOfWaits 4 s args RX0 base D cI cJ tS) (hr : meth.sig.returnType = (some .long)) (hlocks : meth.locks = false) {n : Nat} (ih : (∀ {a0 : Nat} {j1 : Int64} {i3 : Int32} {σ : Sg} {r : Int64} {τ : Sg} {H : Heap} {locs : List Loc} {ls : Array Slot}, X0_sumOfWaits_run n a0 j1 i3 σ = some (r, τ) → Dy base D cI cJ σ H → va_S (fun q => base ≤ q) s.heap H locs → lv_has ls 4 [(0, .ref (base + a0)), (1, .long j1), (3, .int i3)] → W p l e (rmD 0 0 0) s m args below meth c H locs 0 0 (MQ below (QwJ base D cI cJ r τ) args s 0 0 (fun q => base ≤ q)) (F0 m 4 ls []))) {a0 : Nat} {j1 : Int64} {i3 : Int32} {σ : Sg} {r : Int64} {τ : Sg} {H : Heap} {locs : List Loc} {ls : Array Slot} (h : X0_sumOfWaits_b4 n (X0_sumOfWaits_run n) a0 j1 i3 σ = some (r, τ)) : Dy base D cI cJ σ H → va_S (fun q => base ≤ q) s.heap H locs → lv_has ls 4 [(0, .ref (base + a0)), (1, .long j1), (3, .int i3)] → W p l e (rmD 0 0 0) s m args below meth c H locs 0 0 (MQ below (QwJ base D cI cJ r τ) args s 0 0 (fun q => base ≤ q)) (F0 m 4 ls []) := by
  intro hP hS hl
  obtain ⟨hx, hb, hml, hown, hts⟩ := hC.1
  unfold X0_sumOfWaits_b4 at h
  refine lv_iload_n hx hb dX0_sumOfWaits_4 rfl (lv_at hl 2 rfl) ?_
  refine lv_bipush (v := 10) hx hb dX0_sumOfWaits_5 (by decide) ?_
  refine lv_icmp_ge (tgt := 25) hx hb dX0_sumOfWaits_7 (by decide) (fun c_1 => ?_) (fun c_1 => ?_)
  · rw [if_pos c_1] at h
    refine lv_lload_n hx hb dX0_sumOfWaits_25 rfl (lv_at hl 1 rfl) ?_
    obtain ⟨rfl, rfl⟩ := Prod.mk.inj (Option.some.inj h)
    exact w_lret hC hr hlocks hP hS dX0_sumOfWaits_26
  · rw [if_neg c_1] at h
    refine lv_lload_n hx hb dX0_sumOfWaits_10 rfl (lv_at hl 1 rfl) ?_
    refine lv_aload_n hx hb dX0_sumOfWaits_11 rfl (lv_at hl 0 rfl) ?_
    obtain ⟨q_2, hq_2, h⟩ := obn h
    refine w_getR (ci := 0) (j := 8) hC hP rfl inlX0 (by decide) (by decide) rfl hq_2 wl_30 dX0_sumOfWaits_12 ?_
    refine lv_iload_n hx hb dX0_sumOfWaits_15 rfl (lv_at hl 2 rfl) ?_
    obtain ⟨v_3, hv_3, h⟩ := obn h
    refine w_lald hC hP hv_3 dX0_sumOfWaits_16 ?_
    refine lv_ladd hx hb dX0_sumOfWaits_17 ?_
    obtain ⟨j1_4, hj1_4, h⟩ := obn h
    refine w_eqj (Option.some.inj hj1_4) ?_
    refine lv_lstore_n (lv' := [(1, .long j1_4), (0, .ref (base + a0)), (3, .int i3)]) hx hb dX0_sumOfWaits_18 rfl hl (by decide) rfl (fun ls hl => ?_)
    obtain ⟨i3_5, hi3_5, h⟩ := obn h
    refine lv_iinc (v := i3_5) (lv' := [(3, .int i3_5), (1, .long j1_4), (0, .ref (base + a0))]) hx hb dX0_sumOfWaits_19 hl (k := 2) rfl (Option.some.inj hi3_5) (by decide) rfl (fun ls hl => ?_)
    refine lv_goto (tgt := 4) hx hb dX0_sumOfWaits_22 (by decide) ?_
    exact ih h hP hS (lv_sub hl [2, 1, 0] rfl)
set_option maxRecDepth 100000 in
set_option maxHeartbeats 4000000 in
theorem X0_sumOfWaits_k0 (hC : Cx p m c cX0_sumOfWaits 4 s args RX0 base D cI cJ tS) (hr : meth.sig.returnType = (some .long)) (hlocks : meth.locks = false) {n : Nat} (ih : (∀ {a0 : Nat} {j1 : Int64} {i3 : Int32} {σ : Sg} {r : Int64} {τ : Sg} {H : Heap} {locs : List Loc} {ls : Array Slot}, X0_sumOfWaits_run n a0 j1 i3 σ = some (r, τ) → Dy base D cI cJ σ H → va_S (fun q => base ≤ q) s.heap H locs → lv_has ls 4 [(0, .ref (base + a0)), (1, .long j1), (3, .int i3)] → W p l e (rmD 0 0 0) s m args below meth c H locs 0 0 (MQ below (QwJ base D cI cJ r τ) args s 0 0 (fun q => base ≤ q)) (F0 m 4 ls []))) {a0 : Nat} {σ : Sg} {r : Int64} {τ : Sg} {H : Heap} {locs : List Loc} {ls : Array Slot} (h : X0_sumOfWaits_b0 n (X0_sumOfWaits_run n) a0 σ = some (r, τ)) : Dy base D cI cJ σ H → va_S (fun q => base ≤ q) s.heap H locs → lv_has ls 4 [(0, .ref (base + a0))] → W p l e (rmD 0 0 0) s m args below meth c H locs 0 0 (MQ below (QwJ base D cI cJ r τ) args s 0 0 (fun q => base ≤ q)) (F0 m 0 ls []) := by
  intro hP hS hl
  obtain ⟨hx, hb, hml, hown, hts⟩ := hC.1
  unfold X0_sumOfWaits_b0 at h
  refine lv_lconst (v := 0) hx hb dX0_sumOfWaits_0 (by decide) ?_
  refine lv_lstore_n (lv' := [(1, .long 0), (0, .ref (base + a0))]) hx hb dX0_sumOfWaits_1 rfl hl (by decide) rfl (fun ls hl => ?_)
  refine lv_iconst (v := 0) hx hb dX0_sumOfWaits_2 (by decide) ?_
  refine lv_istore_n (lv' := [(3, .int 0), (1, .long 0), (0, .ref (base + a0))]) hx hb dX0_sumOfWaits_3 rfl hl (by decide) rfl (fun ls hl => ?_)
  exact ih h hP hS (lv_sub hl [2, 1, 0] rfl)
set_option maxRecDepth 100000 in
set_option maxHeartbeats 4000000 in
theorem X0_sumOfWaits_all (hC : Cx p m c cX0_sumOfWaits 4 s args RX0 base D cI cJ tS) (hr : meth.sig.returnType = (some .long)) (hlocks : meth.locks = false) : ∀ n : Nat, (∀ {a0 : Nat} {j1 : Int64} {i3 : Int32} {σ : Sg} {r : Int64} {τ : Sg} {H : Heap} {locs : List Loc} {ls : Array Slot}, X0_sumOfWaits_run n a0 j1 i3 σ = some (r, τ) → Dy base D cI cJ σ H → va_S (fun q => base ≤ q) s.heap H locs → lv_has ls 4 [(0, .ref (base + a0)), (1, .long j1), (3, .int i3)] → W p l e (rmD 0 0 0) s m args below meth c H locs 0 0 (MQ below (QwJ base D cI cJ r τ) args s 0 0 (fun q => base ≤ q)) (F0 m 4 ls [])) := by
  intro n
  induction n with
  | zero => exact fun h => (by cases h)
  | succ n ih => exact fun h => X0_sumOfWaits_k4 hC hr hlocks ih h
set_option maxRecDepth 100000 in
set_option maxHeartbeats 4000000 in
theorem c_X0_sumOfWaits {l : Launch} {base : Nat} {D : va_G} {cI cJ : ClassId} {tS : Nat} {n : Nat} {a0 : Nat} {σ : Sg} {r : Int64} {τ : Sg} (h : f_X0_sumOfWaits n a0 σ = some (r, τ)) : Met l yX0_sumOfWaits (.code yX0_sumOfWaits cX0_sumOfWaits 4 (some .long) :: wsL_law) (rmD 0 0 0) (Pw base D cI cJ tS σ [.ref (base + a0)]) (QwJ base D cI cJ r τ) 0 0 (fun q => base ≤ q) := by
  refine Met.ofW (cc := cX0_sumOfWaits) (maxL := 4) (ret := (some .long)) (by decide) rfl ?_
  intro p e s m args below meth c s₁ B hml hv
  obtain ⟨rfl, hSt, hP⟩ := hv
  have hC : Cx p m c cX0_sumOfWaits 4 s _ RX0 base D cI cJ tS := ⟨⟨B.exec, B.bytes, hml, findClass_of_methodNamed B.named, fun w hw => atoms_spec (ws := Cond.code yX0_sumOfWaits cX0_sumOfWaits 4 (some .long) :: wsL_law) B.pre w (List.mem_cons_of_mem _ hw)⟩, hSt⟩
  have hl := lv_entry ([.ref (base + a0)]) (n := 4) (Nat.le_of_ble_eq_true rfl)
  rw [lg_entry_eq]
  generalize (lg_sl ([.ref (base + a0)]) ++ List.replicate (4 - (lg_sl ([.ref (base + a0)])).length) Slot.unset).toArray = ls at hl ⊢
  exact X0_sumOfWaits_k0 hC B.returns B.notSynchronized (X0_sumOfWaits_all hC B.returns B.notSynchronized n) h hP va_S.rf hl
-- ===== X4_all
set_option maxRecDepth 100000 in
set_option maxHeartbeats 4000000 in
theorem X4_all_k9 (hC : Cx p m c cX4_all 3 s args RX4 base D cI cJ tS) (hr : meth.sig.returnType = (some .int)) (hlocks : meth.locks = false) {n : Nat} {σ : Sg} {r : Int32} {τ : Sg} {H : Heap} {locs : List Loc} {ls : Array Slot} (h : X4_all_b9 n σ = some (r, τ)) : Dy base D cI cJ σ H → va_S (fun q => base ≤ q) s.heap H locs → lv_has ls 3 [] → W p l e (rmD 7 0 0) s m args below meth c H locs 0 0 (MQ below (QwI base D cI cJ r τ) args s 0 0 (fun q => base ≤ q)) (F0 m 9 ls []) := by
  intro hP hS hl
  obtain ⟨hx, hb, hml, hown, hts⟩ := hC.1
  unfold X4_all_b9 at h
  refine lv_bipush (v := (-2)) hx hb dX4_all_9 (by decide) ?_
  obtain ⟨rfl, rfl⟩ := Prod.mk.inj (Option.some.inj h)
  exact w_iret hC hr hlocks hP hS dX4_all_11
set_option maxRecDepth 100000 in
set_option maxHeartbeats 4000000 in
theorem X4_all_k0 (hC : Cx p m c cX4_all 3 s args RX4 base D cI cJ tS) (hr : meth.sig.returnType = (some .int)) (hlocks : meth.locks = false) {n : Nat} {a0 : Nat} {i1 : Int32} {σ : Sg} {r : Int32} {τ : Sg} {H : Heap} {locs : List Loc} {ls : Array Slot} (h : f_X4_all n a0 i1 σ = some (r, τ)) : Dy base D cI cJ σ H → va_S (fun q => base ≤ q) s.heap H locs → lv_has ls 3 [(0, .ref (base + a0)), (1, .int i1)] → W p l e (rmD 7 0 0) s m args below meth c H locs 0 0 (MQ below (QwI base D cI cJ r τ) args s 0 0 (fun q => base ≤ q)) (F0 m 0 ls []) := by
  intro hP hS hl
  obtain ⟨hx, hb, hml, hown, hts⟩ := hC.1
  unfold f_X4_all at h
  refine lv_iload_n hx hb dX4_all_0 rfl (lv_at hl 1 rfl) ?_
  refine lv_if_lt (tgt := 9) hx hb dX4_all_1 (by decide) (fun c_1 => ?_) (fun c_1 => ?_)
  · rw [if_pos c_1] at h
    exact X4_all_k9 hC hr hlocks h hP hS (lv_sub hl [] rfl)
  · rw [if_neg c_1] at h
    refine lv_iload_n hx hb dX4_all_4 rfl (lv_at hl 1 rfl) ?_
    refine lv_iconst (v := 2) hx hb dX4_all_5 (by decide) ?_
    refine lv_icmp_le (tgt := 12) hx hb dX4_all_6 (by decide) (fun c_2 => ?_) (fun c_2 => ?_)
    · rw [if_pos c_2] at h
      refine lv_aload_n hx hb dX4_all_12 rfl (lv_at hl 0 rfl) ?_
      obtain ⟨u_3, hu_3, h⟩ := obn h
      obtain ⟨w_4, hw_4, h⟩ := obn h
      refine k_A (r_virt (As := []) (rest := []) hC hP hS (ci := 4) rfl (by decide) hu_3 (c_X4_presentCourse (l := l) (base := base) (D := D) (cI := cI) (cJ := cJ) (tS := tS) hw_4) wl_248 wl_249 wl_250 wl_98 wl_247 rfl rfl hd_X4_presentCourse ⟨Nat.le_of_ble_eq_true rfl, Nat.le_of_ble_eq_true rfl⟩ rfl hl.1 rfl (Nat.le_of_ble_eq_true rfl) dX4_all_13 ⟨Nat.le_of_ble_eq_true rfl, Nat.le_of_ble_eq_true rfl⟩) hS (fun H locs hP hS => ?_)
      refine lv_astore_n (lv' := [(2, .ref (base + w_4.1)), (0, .ref (base + a0)), (1, .int i1)]) hx hb dX4_all_16 rfl hl (by decide) rfl (fun ls hl => ?_)
      refine lv_iload_n hx hb dX4_all_17 rfl (lv_at hl 2 rfl) ?_
      obtain ⟨x_5, hx_5, h⟩ := obn h
      refine w_eqi (Option.some.inj hx_5) ?_
      by_cases c_8 : x_5 = 0
      · rw [if_pos c_8] at h
        refine lv_lookup (off := 26) (tgt := 44) hx hb dX4_all_18 (by decide) (by rw [c_8]; decide) (by decide) ?_
        refine lv_aload_n hx hb dX4_all_44 rfl (lv_at hl 0 rfl) ?_
        obtain ⟨u_6, hu_6, h⟩ := obn h
        obtain ⟨w_7, hw_7, h⟩ := obn h
        refine k_J (r_virt (As := []) (rest := []) hC hP hS (ci := 0) rfl (by decide) hu_6 (c_X0_sumOfWaits (l := l) (base := base) (D := D) (cI := cI) (cJ := cJ) (tS := tS) hw_7) wl_403 wl_404 wl_405 wl_52 wl_402 rfl rfl hd_X0_sumOfWaits ⟨Nat.le_of_ble_eq_true rfl, Nat.le_of_ble_eq_true rfl⟩ rfl hl.1 rfl (Nat.le_of_ble_eq_true rfl) dX4_all_45 ⟨Nat.le_of_ble_eq_true rfl, Nat.le_of_ble_eq_true rfl⟩) hS (fun H locs hP hS => ?_)
        refine lv_l2i hx hb dX4_all_48 rfl ?_
        obtain ⟨rfl, rfl⟩ := Prod.mk.inj (Option.some.inj h)
        exact w_iret hC hr hlocks hP hS dX4_all_49
      rw [if_neg c_8] at h
      by_cases c_10 : x_5 = 1
      · rw [if_pos c_10] at h
        refine lv_lookup (off := 32) (tgt := 50) hx hb dX4_all_18 (by decide) (by rw [c_10]; decide) (by decide) ?_
        refine lv_aload_n hx hb dX4_all_50 rfl (lv_at hl 0 rfl) ?_
        obtain ⟨v_9, hv_9, h⟩ := obn h
        refine w_getJ (ci := 0) (j := 10) hC hP rfl inlX0 (by decide) (by decide) rfl hv_9 wl_406 dX4_all_51 ?_
        refine lv_l2i hx hb dX4_all_54 rfl ?_
        obtain ⟨rfl, rfl⟩ := Prod.mk.inj (Option.some.inj h)
        exact w_iret hC hr hlocks hP hS dX4_all_55
      rw [if_neg c_10] at h
      refine lv_lookup (off := 38) (tgt := 56) hx hb dX4_all_18 (by decide) ((lv_osw c_8 (by decide)).trans ((lv_osw c_10 (by decide)).trans (rfl))) (by decide) ?_
      refine lv_aload_n hx hb dX4_all_56 rfl (lv_at hl 0 rfl) ?_
      obtain ⟨v_11, hv_11, h⟩ := obn h
      refine w_getI (ci := 0) (j := 11) hC hP rfl inlX0 (by decide) (by decide) rfl hv_11 wl_407 dX4_all_57 ?_
      obtain ⟨rfl, rfl⟩ := Prod.mk.inj (Option.some.inj h)
      exact w_iret hC hr hlocks hP hS dX4_all_60
    · rw [if_neg c_2] at h
      exact X4_all_k9 hC hr hlocks h hP hS (lv_sub hl [] rfl)
set_option maxRecDepth 100000 in
set_option maxHeartbeats 4000000 in
theorem c_X4_all {l : Launch} {base : Nat} {D : va_G} {cI cJ : ClassId} {tS : Nat} {n : Nat} {a0 : Nat} {i1 : Int32} {σ : Sg} {r : Int32} {τ : Sg} (h : f_X4_all n a0 i1 σ = some (r, τ)) : Met l yX4_all (.code yX4_all cX4_all 3 (some .int) :: wsL_law) (rmD 7 0 0) (Pw base D cI cJ tS σ [.ref (base + a0), .int i1]) (QwI base D cI cJ r τ) 0 0 (fun q => base ≤ q) := by
  refine Met.ofW (cc := cX4_all) (maxL := 3) (ret := (some .int)) (by decide) rfl ?_
  intro p e s m args below meth c s₁ B hml hv
  obtain ⟨rfl, hSt, hP⟩ := hv
  have hC : Cx p m c cX4_all 3 s _ RX4 base D cI cJ tS := ⟨⟨B.exec, B.bytes, hml, findClass_of_methodNamed B.named, fun w hw => atoms_spec (ws := Cond.code yX4_all cX4_all 3 (some .int) :: wsL_law) B.pre w (List.mem_cons_of_mem _ hw)⟩, hSt⟩
  have hl := lv_entry ([.ref (base + a0), .int i1]) (n := 3) (Nat.le_of_ble_eq_true rfl)
  rw [lg_entry_eq]
  generalize (lg_sl ([.ref (base + a0), .int i1]) ++ List.replicate (3 - (lg_sl ([.ref (base + a0), .int i1])).length) Slot.unset).toArray = ls at hl ⊢
  exact X4_all_k0 hC B.returns B.notSynchronized h hP va_S.rf hl
-- ===== X5_allWaited
set_option maxRecDepth 100000 in
set_option maxHeartbeats 4000000 in
theorem X5_allWaited_k4 (hC : Cx p m c cX5_allWaited 3 s args RX5 base D cI cJ tS) (hr : meth.sig.returnType = (some .int)) (hlocks : meth.locks = false) {n : Nat} (ih : (∀ {a0 : Nat} {i1 : Int32} {i2 : Int32} {σ : Sg} {r : Int32} {τ : Sg} {H : Heap} {locs : List Loc} {ls : Array Slot}, X5_allWaited_run n a0 i1 i2 σ = some (r, τ) → Dy base D cI cJ σ H → va_S (fun q => base ≤ q) s.heap H locs → lv_has ls 3 [(0, .ref (base + a0)), (1, .int i1), (2, .int i2)] → W p l e (rmD 0 0 0) s m args below meth c H locs 0 0 (MQ below (QwI base D cI cJ r τ) args s 0 0 (fun q => base ≤ q)) (F0 m 4 ls []))) {a0 : Nat} {i1 : Int32} {i2 : Int32} {σ : Sg} {r : Int32} {τ : Sg} {H : Heap} {locs : List Loc} {ls : Array Slot} (h : X5_allWaited_b4 n (X5_allWaited_run n) a0 i1 i2 σ = some (r, τ)) : Dy base D cI cJ σ H → va_S (fun q => base ≤ q) s.heap H locs → lv_has ls 3 [(0, .ref (base + a0)), (1, .int i1), (2, .int i2)] → W p l e (rmD 0 0 0) s m args below meth c H locs 0 0 (MQ below (QwI base D cI cJ r τ) args s 0 0 (fun q => base ≤ q)) (F0 m 4 ls []) := by
  intro hP hS hl
  obtain ⟨hx, hb, hml, hown, hts⟩ := hC.1
  unfold X5_allWaited_b4 at h
  refine lv_iload_n hx hb dX5_allWaited_4 rfl (lv_at hl 2 rfl) ?_
  refine lv_bipush (v := 9) hx hb dX5_allWaited_5 (by decide) ?_
  refine lv_icmp_ge (tgt := 25) hx hb dX5_allWaited_7 (by decide) (fun c_1 => ?_) (fun c_1 => ?_)
  · rw [if_pos c_1] at h
    refine lv_iload_n hx hb dX5_allWaited_25 rfl (lv_at hl 1 rfl) ?_
    obtain ⟨rfl, rfl⟩ := Prod.mk.inj (Option.some.inj h)
    exact w_iret hC hr hlocks hP hS dX5_allWaited_26
  · rw [if_neg c_1] at h
    refine lv_iload_n hx hb dX5_allWaited_10 rfl (lv_at hl 1 rfl) ?_
    refine lv_aload_n hx hb dX5_allWaited_11 rfl (lv_at hl 0 rfl) ?_
    obtain ⟨q_2, hq_2, h⟩ := obn h
    refine w_getR (ci := 5) (j := 26) hC hP rfl inlX5 (by decide) (by decide) rfl hq_2 wl_87 dX5_allWaited_12 ?_
    refine lv_iload_n hx hb dX5_allWaited_15 rfl (lv_at hl 2 rfl) ?_
    obtain ⟨v_3, hv_3, h⟩ := obn h
    refine w_iald hC hP hv_3 dX5_allWaited_16 ?_
    refine lv_iadd hx hb dX5_allWaited_17 ?_
    obtain ⟨i1_4, hi1_4, h⟩ := obn h
    refine w_eqi (Option.some.inj hi1_4) ?_
    refine lv_istore_n (lv' := [(1, .int i1_4), (0, .ref (base + a0)), (2, .int i2)]) hx hb dX5_allWaited_18 rfl hl (by decide) rfl (fun ls hl => ?_)
    obtain ⟨i2_5, hi2_5, h⟩ := obn h
    refine lv_iinc (v := i2_5) (lv' := [(2, .int i2_5), (1, .int i1_4), (0, .ref (base + a0))]) hx hb dX5_allWaited_19 hl (k := 2) rfl (Option.some.inj hi2_5) (by decide) rfl (fun ls hl => ?_)
    refine lv_goto (tgt := 4) hx hb dX5_allWaited_22 (by decide) ?_
    exact ih h hP hS (lv_sub hl [2, 1, 0] rfl)
set_option maxRecDepth 100000 in
set_option maxHeartbeats 4000000 in
theorem X5_allWaited_k0 (hC : Cx p m c cX5_allWaited 3 s args RX5 base D cI cJ tS) (hr : meth.sig.returnType = (some .int)) (hlocks : meth.locks = false) {n : Nat} (ih : (∀ {a0 : Nat} {i1 : Int32} {i2 : Int32} {σ : Sg} {r : Int32} {τ : Sg} {H : Heap} {locs : List Loc} {ls : Array Slot}, X5_allWaited_run n a0 i1 i2 σ = some (r, τ) → Dy base D cI cJ σ H → va_S (fun q => base ≤ q) s.heap H locs → lv_has ls 3 [(0, .ref (base + a0)), (1, .int i1), (2, .int i2)] → W p l e (rmD 0 0 0) s m args below meth c H locs 0 0 (MQ below (QwI base D cI cJ r τ) args s 0 0 (fun q => base ≤ q)) (F0 m 4 ls []))) {a0 : Nat} {σ : Sg} {r : Int32} {τ : Sg} {H : Heap} {locs : List Loc} {ls : Array Slot} (h : X5_allWaited_b0 n (X5_allWaited_run n) a0 σ = some (r, τ)) : Dy base D cI cJ σ H → va_S (fun q => base ≤ q) s.heap H locs → lv_has ls 3 [(0, .ref (base + a0))] → W p l e (rmD 0 0 0) s m args below meth c H locs 0 0 (MQ below (QwI base D cI cJ r τ) args s 0 0 (fun q => base ≤ q)) (F0 m 0 ls []) := by
  intro hP hS hl
  obtain ⟨hx, hb, hml, hown, hts⟩ := hC.1
  unfold X5_allWaited_b0 at h
  refine lv_iconst (v := 0) hx hb dX5_allWaited_0 (by decide) ?_
  refine lv_istore_n (lv' := [(1, .int 0), (0, .ref (base + a0))]) hx hb dX5_allWaited_1 rfl hl (by decide) rfl (fun ls hl => ?_)
  refine lv_iconst (v := 0) hx hb dX5_allWaited_2 (by decide) ?_
  refine lv_istore_n (lv' := [(2, .int 0), (1, .int 0), (0, .ref (base + a0))]) hx hb dX5_allWaited_3 rfl hl (by decide) rfl (fun ls hl => ?_)
  exact ih h hP hS (lv_sub hl [2, 1, 0] rfl)
set_option maxRecDepth 100000 in
set_option maxHeartbeats 4000000 in
theorem X5_allWaited_all (hC : Cx p m c cX5_allWaited 3 s args RX5 base D cI cJ tS) (hr : meth.sig.returnType = (some .int)) (hlocks : meth.locks = false) : ∀ n : Nat, (∀ {a0 : Nat} {i1 : Int32} {i2 : Int32} {σ : Sg} {r : Int32} {τ : Sg} {H : Heap} {locs : List Loc} {ls : Array Slot}, X5_allWaited_run n a0 i1 i2 σ = some (r, τ) → Dy base D cI cJ σ H → va_S (fun q => base ≤ q) s.heap H locs → lv_has ls 3 [(0, .ref (base + a0)), (1, .int i1), (2, .int i2)] → W p l e (rmD 0 0 0) s m args below meth c H locs 0 0 (MQ below (QwI base D cI cJ r τ) args s 0 0 (fun q => base ≤ q)) (F0 m 4 ls [])) := by
  intro n
  induction n with
  | zero => exact fun h => (by cases h)
  | succ n ih => exact fun h => X5_allWaited_k4 hC hr hlocks ih h
set_option maxRecDepth 100000 in
set_option maxHeartbeats 4000000 in
theorem c_X5_allWaited {l : Launch} {base : Nat} {D : va_G} {cI cJ : ClassId} {tS : Nat} {n : Nat} {a0 : Nat} {σ : Sg} {r : Int32} {τ : Sg} (h : f_X5_allWaited n a0 σ = some (r, τ)) : Met l yX5_allWaited (.code yX5_allWaited cX5_allWaited 3 (some .int) :: wsL_law) (rmD 0 0 0) (Pw base D cI cJ tS σ [.ref (base + a0)]) (QwI base D cI cJ r τ) 0 0 (fun q => base ≤ q) := by
  refine Met.ofW (cc := cX5_allWaited) (maxL := 3) (ret := (some .int)) (by decide) rfl ?_
  intro p e s m args below meth c s₁ B hml hv
  obtain ⟨rfl, hSt, hP⟩ := hv
  have hC : Cx p m c cX5_allWaited 3 s _ RX5 base D cI cJ tS := ⟨⟨B.exec, B.bytes, hml, findClass_of_methodNamed B.named, fun w hw => atoms_spec (ws := Cond.code yX5_allWaited cX5_allWaited 3 (some .int) :: wsL_law) B.pre w (List.mem_cons_of_mem _ hw)⟩, hSt⟩
  have hl := lv_entry ([.ref (base + a0)]) (n := 3) (Nat.le_of_ble_eq_true rfl)
  rw [lg_entry_eq]
  generalize (lg_sl ([.ref (base + a0)]) ++ List.replicate (3 - (lg_sl ([.ref (base + a0)])).length) Slot.unset).toArray = ls at hl ⊢
  exact X5_allWaited_k0 hC B.returns B.notSynchronized (X5_allWaited_all hC B.returns B.notSynchronized n) h hP va_S.rf hl
-- ===== X5_all
set_option maxRecDepth 100000 in
set_option maxHeartbeats 4000000 in
theorem X5_all_k0 (hC : Cx p m c cX5_all 2 s args RX5 base D cI cJ tS) (hr : meth.sig.returnType = (some .int)) (hlocks : meth.locks = false) {n : Nat} {a0 : Nat} {i1 : Int32} {σ : Sg} {r : Int32} {τ : Sg} {H : Heap} {locs : List Loc} {ls : Array Slot} (h : f_X5_all n a0 i1 σ = some (r, τ)) : Dy base D cI cJ σ H → va_S (fun q => base ≤ q) s.heap H locs → lv_has ls 2 [(0, .ref (base + a0)), (1, .int i1)] → W p l e (rmD 3 0 0) s m args below meth c H locs 0 0 (MQ below (QwI base D cI cJ r τ) args s 0 0 (fun q => base ≤ q)) (F0 m 0 ls []) := by
  intro hP hS hl
  obtain ⟨hx, hb, hml, hown, hts⟩ := hC.1
  unfold f_X5_all at h
  refine lv_iload_n hx hb dX5_all_0 rfl (lv_at hl 1 rfl) ?_
  refine lv_iconst (v := 0) hx hb dX5_all_1 (by decide) ?_
  refine lv_iconst (v := 2) hx hb dX5_all_2 (by decide) ?_
  obtain ⟨w_1, hw_1, h⟩ := obn h
  refine k_I (r_stat (As := [.int i1, .int 0, .int 2]) (rest := []) hC hP hS (c_X5_in (l := l) (base := base) (D := D) (cI := cI) (cJ := cJ) (tS := tS) hw_1) wl_111 wl_112 wl_113 wl_110 rfl rfl hd_X5_in ⟨Nat.le_of_ble_eq_true rfl, Nat.le_of_ble_eq_true rfl⟩ rfl hl.1 rfl (Nat.le_of_ble_eq_true rfl) dX5_all_3 ⟨Nat.le_of_ble_eq_true rfl, Nat.le_of_ble_eq_true rfl⟩) hS (fun H locs hP hS => ?_)
  refine lv_if_ne (tgt := 12) hx hb dX5_all_6 (by decide) (fun c_2 => ?_) (fun c_2 => ?_)
  · rw [if_neg c_2] at h
    refine lv_aload_n hx hb dX5_all_12 rfl (lv_at hl 0 rfl) ?_
    refine lv_bipush (v := (-6)) hx hb dX5_all_13 (by decide) ?_
    obtain ⟨u_3, hu_3, h⟩ := obn h
    obtain ⟨w_4, hw_4, h⟩ := obn h
    refine k_V (r_virt (As := [.int (-6)]) (rest := []) hC hP hS (ci := 5) rfl (by decide) hu_3 (c_X5_lay (l := l) (base := base) (D := D) (cI := cI) (cJ := cJ) (tS := tS) hw_4) wl_280 wl_281 wl_282 wl_113 wl_279 rfl rfl hd_X5_lay ⟨Nat.le_of_ble_eq_true rfl, Nat.le_of_ble_eq_true rfl⟩ rfl hl.1 rfl (Nat.le_of_ble_eq_true rfl) dX5_all_15 ⟨Nat.le_of_ble_eq_true rfl, Nat.le_of_ble_eq_true rfl⟩) hS (fun H locs hP hS => ?_)
    refine lv_iload_n hx hb dX5_all_18 rfl (lv_at hl 1 rfl) ?_
    refine lv_if_ne (tgt := 29) hx hb dX5_all_19 (by decide) (fun c_5 => ?_) (fun c_5 => ?_)
    · rw [if_neg c_5] at h
      refine lv_iload_n hx hb dX5_all_29 rfl (lv_at hl 1 rfl) ?_
      refine lv_iconst (v := 1) hx hb dX5_all_30 (by decide) ?_
      refine lv_icmp_ne (tgt := 41) hx hb dX5_all_31 (by decide) (fun c_6 => ?_) (fun c_6 => ?_)
      · rw [if_neg c_6] at h
        refine lv_aload_n hx hb dX5_all_41 rfl (lv_at hl 0 rfl) ?_
        obtain ⟨v_7, hv_7, h⟩ := obn h
        refine w_getI (ci := 5) (j := 30) hC hP rfl inlX5 (by decide) (by decide) rfl hv_7 wl_256 dX5_all_42 ?_
        obtain ⟨rfl, rfl⟩ := Prod.mk.inj (Option.some.inj h)
        exact w_iret hC hr hlocks hP hS dX5_all_45
      · rw [if_pos c_6] at h
        refine lv_aload_n hx hb dX5_all_34 rfl (lv_at hl 0 rfl) ?_
        obtain ⟨v_8, hv_8, h⟩ := obn h
        refine w_getI (ci := 5) (j := 29) hC hP rfl inlX5 (by decide) (by decide) rfl hv_8 wl_257 dX5_all_35 ?_
        refine lv_goto (tgt := 45) hx hb dX5_all_38 (by decide) ?_
        obtain ⟨rfl, rfl⟩ := Prod.mk.inj (Option.some.inj h)
        exact w_iret hC hr hlocks hP hS dX5_all_45
    · rw [if_pos c_5] at h
      refine lv_aload_n hx hb dX5_all_22 rfl (lv_at hl 0 rfl) ?_
      obtain ⟨u_9, hu_9, h⟩ := obn h
      obtain ⟨w_10, hw_10, h⟩ := obn h
      refine k_I (r_virt (As := []) (rest := []) hC hP hS (ci := 5) rfl (by decide) hu_9 (c_X5_allWaited (l := l) (base := base) (D := D) (cI := cI) (cJ := cJ) (tS := tS) hw_10) wl_409 wl_410 wl_411 wl_113 wl_408 rfl rfl hd_X5_allWaited ⟨Nat.le_of_ble_eq_true rfl, Nat.le_of_ble_eq_true rfl⟩ rfl hl.1 rfl (Nat.le_of_ble_eq_true rfl) dX5_all_23 ⟨Nat.le_of_ble_eq_true rfl, Nat.le_of_ble_eq_true rfl⟩) hS (fun H locs hP hS => ?_)
      refine lv_goto (tgt := 45) hx hb dX5_all_26 (by decide) ?_
      obtain ⟨rfl, rfl⟩ := Prod.mk.inj (Option.some.inj h)
      exact w_iret hC hr hlocks hP hS dX5_all_45
  · rw [if_pos c_2] at h
    refine lv_bipush (v := (-2)) hx hb dX5_all_9 (by decide) ?_
    obtain ⟨rfl, rfl⟩ := Prod.mk.inj (Option.some.inj h)
    exact w_iret hC hr hlocks hP hS dX5_all_11
set_option maxRecDepth 100000 in
set_option maxHeartbeats 4000000 in
theorem c_X5_all {l : Launch} {base : Nat} {D : va_G} {cI cJ : ClassId} {tS : Nat} {n : Nat} {a0 : Nat} {i1 : Int32} {σ : Sg} {r : Int32} {τ : Sg} (h : f_X5_all n a0 i1 σ = some (r, τ)) : Met l yX5_all (.code yX5_all cX5_all 2 (some .int) :: wsL_law) (rmD 3 0 0) (Pw base D cI cJ tS σ [.ref (base + a0), .int i1]) (QwI base D cI cJ r τ) 0 0 (fun q => base ≤ q) := by
  refine Met.ofW (cc := cX5_all) (maxL := 2) (ret := (some .int)) (by decide) rfl ?_
  intro p e s m args below meth c s₁ B hml hv
  obtain ⟨rfl, hSt, hP⟩ := hv
  have hC : Cx p m c cX5_all 2 s _ RX5 base D cI cJ tS := ⟨⟨B.exec, B.bytes, hml, findClass_of_methodNamed B.named, fun w hw => atoms_spec (ws := Cond.code yX5_all cX5_all 2 (some .int) :: wsL_law) B.pre w (List.mem_cons_of_mem _ hw)⟩, hSt⟩
  have hl := lv_entry ([.ref (base + a0), .int i1]) (n := 2) (Nat.le_of_ble_eq_true rfl)
  rw [lg_entry_eq]
  generalize (lg_sl ([.ref (base + a0), .int i1]) ++ List.replicate (2 - (lg_sl ([.ref (base + a0), .int i1])).length) Slot.unset).toArray = ls at hl ⊢
  exact X5_all_k0 hC B.returns B.notSynchronized h hP va_S.rf hl
-- ===== X4_held
set_option maxRecDepth 100000 in
set_option maxHeartbeats 4000000 in
theorem X4_held_k30 (hC : Cx p m c cX4_held 5 s args RX4 base D cI cJ tS) (hr : meth.sig.returnType = (some .int)) (hlocks : meth.locks = false) {n : Nat} {σ : Sg} {r : Int32} {τ : Sg} {H : Heap} {locs : List Loc} {ls : Array Slot} (h : X4_held_b30 n σ = some (r, τ)) : Dy base D cI cJ σ H → va_S (fun q => base ≤ q) s.heap H locs → lv_has ls 5 [] → W p l e (rmD 7 0 0) s m args below meth c H locs 0 0 (MQ below (QwI base D cI cJ r τ) args s 0 0 (fun q => base ≤ q)) (F0 m 30 ls []) := by
  intro hP hS hl
  obtain ⟨hx, hb, hml, hown, hts⟩ := hC.1
  unfold X4_held_b30 at h
  refine lv_ldc (v := (-2000000000)) hx hb hown (hts _ wl_412) dX4_held_30 ?_
  obtain ⟨rfl, rfl⟩ := Prod.mk.inj (Option.some.inj h)
  exact w_iret hC hr hlocks hP hS dX4_held_32
set_option maxRecDepth 100000 in
set_option maxHeartbeats 4000000 in
theorem X4_held_k45 (hC : Cx p m c cX4_held 5 s args RX4 base D cI cJ tS) (hr : meth.sig.returnType = (some .int)) (hlocks : meth.locks = false) {n : Nat} {σ : Sg} {r : Int32} {τ : Sg} {H : Heap} {locs : List Loc} {ls : Array Slot} (h : X4_held_b45 n σ = some (r, τ)) : Dy base D cI cJ σ H → va_S (fun q => base ≤ q) s.heap H locs → lv_has ls 5 [] → W p l e (rmD 7 0 0) s m args below meth c H locs 0 0 (MQ below (QwI base D cI cJ r τ) args s 0 0 (fun q => base ≤ q)) (F0 m 45 ls []) := by
  intro hP hS hl
  obtain ⟨hx, hb, hml, hown, hts⟩ := hC.1
  unfold X4_held_b45 at h
  refine lv_ldc (v := (-2000000000)) hx hb hown (hts _ wl_412) dX4_held_45 ?_
  obtain ⟨rfl, rfl⟩ := Prod.mk.inj (Option.some.inj h)
  exact w_iret hC hr hlocks hP hS dX4_held_47
set_option maxRecDepth 100000 in
set_option maxHeartbeats 4000000 in
theorem X4_held_k0 (hC : Cx p m c cX4_held 5 s args RX4 base D cI cJ tS) (hr : meth.sig.returnType = (some .int)) (hlocks : meth.locks = false) {n : Nat} {a0 : Nat} {i1 : Int32} {i2 : Int32} {i3 : Int32} {σ : Sg} {r : Int32} {τ : Sg} {H : Heap} {locs : List Loc} {ls : Array Slot} (h : f_X4_held n a0 i1 i2 i3 σ = some (r, τ)) : Dy base D cI cJ σ H → va_S (fun q => base ≤ q) s.heap H locs → lv_has ls 5 [(0, .ref (base + a0)), (1, .int i1), (2, .int i2), (3, .int i3)] → W p l e (rmD 7 0 0) s m args below meth c H locs 0 0 (MQ below (QwI base D cI cJ r τ) args s 0 0 (fun q => base ≤ q)) (F0 m 0 ls []) := by
  intro hP hS hl
  obtain ⟨hx, hb, hml, hown, hts⟩ := hC.1
  unfold f_X4_held at h
  refine lv_aload_n hx hb dX4_held_0 rfl (lv_at hl 0 rfl) ?_
  obtain ⟨q_1, hq_1, h⟩ := obn h
  refine w_getR (ci := 4) (j := 0) hC hP rfl inlX4 (by decide) (by decide) rfl hq_1 wl_43 dX4_held_1 ?_
  refine lv_iload_n hx hb dX4_held_4 rfl (lv_at hl 1 rfl) ?_
  obtain ⟨u_2, hu_2, h⟩ := obn h
  obtain ⟨w_3, hw_3, h⟩ := obn h
  refine k_I (r_virt (As := [.int i1]) (rest := []) hC hP hS (ci := 1) rfl (by decide) hu_2 (c_X1_hasBus (l := l) (base := base) (D := D) (cI := cI) (cJ := cJ) (tS := tS) hw_3) wl_132 wl_133 wl_134 wl_39 wl_131 rfl rfl hd_X1_hasBus ⟨Nat.le_of_ble_eq_true rfl, Nat.le_of_ble_eq_true rfl⟩ rfl hl.1 rfl (Nat.le_of_ble_eq_true rfl) dX4_held_5 ⟨Nat.le_of_ble_eq_true rfl, Nat.le_of_ble_eq_true rfl⟩) hS (fun H locs hP hS => ?_)
  refine lv_if_eq (tgt := 30) hx hb dX4_held_8 (by decide) (fun c_4 => ?_) (fun c_4 => ?_)
  · rw [if_pos c_4] at h
    exact X4_held_k30 hC hr hlocks h hP hS (lv_sub hl [] rfl)
  · rw [if_neg c_4] at h
    refine lv_iload_n hx hb dX4_held_11 rfl (lv_at hl 2 rfl) ?_
    obtain ⟨w_5, hw_5, h⟩ := obn h
    refine k_I (r_stat (As := [.int i2]) (rest := []) hC hP hS (c_X4_isGoingStop (l := l) (base := base) (D := D) (cI := cI) (cJ := cJ) (tS := tS) hw_5) wl_96 wl_97 wl_98 wl_95 rfl rfl hd_X4_isGoingStop ⟨Nat.le_of_ble_eq_true rfl, Nat.le_of_ble_eq_true rfl⟩ rfl hl.1 rfl (Nat.le_of_ble_eq_true rfl) dX4_held_12 ⟨Nat.le_of_ble_eq_true rfl, Nat.le_of_ble_eq_true rfl⟩) hS (fun H locs hP hS => ?_)
    refine lv_if_eq (tgt := 30) hx hb dX4_held_15 (by decide) (fun c_6 => ?_) (fun c_6 => ?_)
    · rw [if_pos c_6] at h
      exact X4_held_k30 hC hr hlocks h hP hS (lv_sub hl [] rfl)
    · rw [if_neg c_6] at h
      refine lv_aload_n hx hb dX4_held_18 rfl (lv_at hl 0 rfl) ?_
      obtain ⟨q_7, hq_7, h⟩ := obn h
      refine w_getR (ci := 4) (j := 0) hC hP rfl inlX4 (by decide) (by decide) rfl hq_7 wl_43 dX4_held_19 ?_
      refine lv_iload_n hx hb dX4_held_22 rfl (lv_at hl 1 rfl) ?_
      refine lv_iload_n hx hb dX4_held_23 rfl (lv_at hl 2 rfl) ?_
      obtain ⟨u_8, hu_8, h⟩ := obn h
      obtain ⟨w_9, hw_9, h⟩ := obn h
      refine k_I (r_virt (As := [.int i1, .int i2]) (rest := []) hC hP hS (ci := 1) rfl (by decide) hu_8 (c_X1_comes (l := l) (base := base) (D := D) (cI := cI) (cJ := cJ) (tS := tS) hw_9) wl_246 wl_160 wl_161 wl_39 wl_158 rfl rfl hd_X1_comes ⟨Nat.le_of_ble_eq_true rfl, Nat.le_of_ble_eq_true rfl⟩ rfl hl.1 rfl (Nat.le_of_ble_eq_true rfl) dX4_held_24 ⟨Nat.le_of_ble_eq_true rfl, Nat.le_of_ble_eq_true rfl⟩) hS (fun H locs hP hS => ?_)
      refine lv_if_ne (tgt := 33) hx hb dX4_held_27 (by decide) (fun c_10 => ?_) (fun c_10 => ?_)
      · rw [if_neg c_10] at h
        refine lv_iload_n hx hb dX4_held_33 rfl (lv_at hl 3 rfl) ?_
        refine lv_iconst (v := 1) hx hb dX4_held_34 (by decide) ?_
        refine lv_icmp_lt (tgt := 45) hx hb dX4_held_35 (by decide) (fun c_11 => ?_) (fun c_11 => ?_)
        · rw [if_pos c_11] at h
          exact X4_held_k45 hC hr hlocks h hP hS (lv_sub hl [] rfl)
        · rw [if_neg c_11] at h
          refine lv_iload_n hx hb dX4_held_38 rfl (lv_at hl 3 rfl) ?_
          refine lv_sipush (v := 900) hx hb dX4_held_39 (by decide) ?_
          refine lv_icmp_le (tgt := 48) hx hb dX4_held_42 (by decide) (fun c_12 => ?_) (fun c_12 => ?_)
          · rw [if_pos c_12] at h
            refine lv_aload_n hx hb dX4_held_48 rfl (lv_at hl 0 rfl) ?_
            obtain ⟨q_13, hq_13, h⟩ := obn h
            refine w_getR (ci := 4) (j := 3) hC hP rfl inlX4 (by decide) (by decide) rfl hq_13 wl_56 dX4_held_49 ?_
            refine lv_aload_n hx hb dX4_held_52 rfl (lv_at hl 0 rfl) ?_
            obtain ⟨q_14, hq_14, h⟩ := obn h
            refine w_getR (ci := 4) (j := 0) hC hP rfl inlX4 (by decide) (by decide) rfl hq_14 wl_43 dX4_held_53 ?_
            refine lv_bipush (v := (-6)) hx hb dX4_held_56 (by decide) ?_
            obtain ⟨u_15, hu_15, h⟩ := obn h
            obtain ⟨w_16, hw_16, h⟩ := obn h
            refine k_V (r_virt (As := [.ref (base + q_14), .int (-6)]) (rest := []) hC hP hS (ci := 0) rfl (by decide) hu_15 (c_X0_layLatenesses (l := l) (base := base) (D := D) (cI := cI) (cJ := cJ) (tS := tS) hw_16) wl_236 wl_237 wl_238 wl_52 wl_235 rfl rfl hd_X0_layLatenesses ⟨Nat.le_of_ble_eq_true rfl, Nat.le_of_ble_eq_true rfl⟩ rfl hl.1 rfl (Nat.le_of_ble_eq_true rfl) dX4_held_58 ⟨Nat.le_of_ble_eq_true rfl, Nat.le_of_ble_eq_true rfl⟩) hS (fun H locs hP hS => ?_)
            refine lv_aload_n hx hb dX4_held_61 rfl (lv_at hl 0 rfl) ?_
            obtain ⟨q_17, hq_17, h⟩ := obn h
            refine w_getR (ci := 4) (j := 3) hC hP rfl inlX4 (by decide) (by decide) rfl hq_17 wl_56 dX4_held_62 ?_
            obtain ⟨q_18, hq_18, h⟩ := obn h
            refine w_getR (ci := 0) (j := 6) hC hP rfl inlX0 (by decide) (by decide) rfl hq_18 wl_413 dX4_held_65 ?_
            refine lv_iload_n hx hb dX4_held_68 rfl (lv_at hl 1 rfl) ?_
            refine lv_iload_n hx hb dX4_held_69 rfl (lv_at hl 2 rfl) ?_
            obtain ⟨w_19, hw_19, h⟩ := obn h
            refine k_I (r_stat (As := [.int i1, .int i2]) (rest := [.ref (base + q_18)]) hC hP hS (c_X4_cell (l := l) (base := base) (D := D) (cI := cI) (cJ := cJ) (tS := tS) hw_19) wl_251 wl_150 wl_98 wl_149 rfl rfl hd_X4_cell ⟨Nat.le_of_ble_eq_true rfl, Nat.le_of_ble_eq_true rfl⟩ rfl hl.1 rfl (Nat.le_of_ble_eq_true rfl) dX4_held_70 ⟨Nat.le_of_ble_eq_true rfl, Nat.le_of_ble_eq_true rfl⟩) hS (fun H locs hP hS => ?_)
            refine lv_dup2_11 hx hb dX4_held_73 rfl rfl ?_
            obtain ⟨v_20, hv_20, h⟩ := obn h
            refine w_iald hC hP hv_20 dX4_held_74 ?_
            refine lv_iload_n hx hb dX4_held_75 rfl (lv_at hl 3 rfl) ?_
            refine lv_iadd hx hb dX4_held_76 ?_
            obtain ⟨s_21, hs_21, h⟩ := obn h
            refine w_iast hC hP hS hs_21 dX4_held_77 (fun H locs hP hS => ?_)
            refine lv_aload_n hx hb dX4_held_78 rfl (lv_at hl 0 rfl) ?_
            obtain ⟨q_22, hq_22, h⟩ := obn h
            refine w_getR (ci := 4) (j := 3) hC hP rfl inlX4 (by decide) (by decide) rfl hq_22 wl_56 dX4_held_79 ?_
            refine lv_aload_n hx hb dX4_held_82 rfl (lv_at hl 0 rfl) ?_
            obtain ⟨q_23, hq_23, h⟩ := obn h
            refine w_getR (ci := 4) (j := 0) hC hP rfl inlX4 (by decide) (by decide) rfl hq_23 wl_43 dX4_held_83 ?_
            refine lv_aload_n hx hb dX4_held_86 rfl (lv_at hl 0 rfl) ?_
            obtain ⟨q_24, hq_24, h⟩ := obn h
            refine w_getR (ci := 4) (j := 4) hC hP rfl inlX4 (by decide) (by decide) rfl hq_24 wl_62 dX4_held_87 ?_
            obtain ⟨u_25, hu_25, h⟩ := obn h
            obtain ⟨w_26, hw_26, h⟩ := obn h
            refine k_V (r_virt (As := [.ref (base + q_23), .ref (base + q_24)]) (rest := []) hC hP hS (ci := 0) rfl (by decide) hu_25 (c_X0_play (l := l) (base := base) (D := D) (cI := cI) (cJ := cJ) (tS := tS) hw_26) wl_240 wl_241 wl_242 wl_52 wl_239 rfl rfl hd_X0_play ⟨Nat.le_of_ble_eq_true rfl, Nat.le_of_ble_eq_true rfl⟩ rfl hl.1 rfl (Nat.le_of_ble_eq_true rfl) dX4_held_90 ⟨Nat.le_of_ble_eq_true rfl, Nat.le_of_ble_eq_true rfl⟩) hS (fun H locs hP hS => ?_)
            refine lv_aload_n hx hb dX4_held_93 rfl (lv_at hl 0 rfl) ?_
            obtain ⟨u_27, hu_27, h⟩ := obn h
            obtain ⟨w_28, hw_28, h⟩ := obn h
            refine k_A (r_virt (As := []) (rest := []) hC hP hS (ci := 4) rfl (by decide) hu_27 (c_X4_presentCourse (l := l) (base := base) (D := D) (cI := cI) (cJ := cJ) (tS := tS) hw_28) wl_248 wl_249 wl_250 wl_98 wl_247 rfl rfl hd_X4_presentCourse ⟨Nat.le_of_ble_eq_true rfl, Nat.le_of_ble_eq_true rfl⟩ rfl hl.1 rfl (Nat.le_of_ble_eq_true rfl) dX4_held_94 ⟨Nat.le_of_ble_eq_true rfl, Nat.le_of_ble_eq_true rfl⟩) hS (fun H locs hP hS => ?_)
            refine lv_astore (lv' := [(4, .ref (base + w_28.1)), (0, .ref (base + a0)), (1, .int i1), (2, .int i2), (3, .int i3)]) hx hb dX4_held_97 hl (by decide) rfl (fun ls hl => ?_)
            refine lv_aload_n hx hb dX4_held_99 rfl (lv_at hl 1 rfl) ?_
            obtain ⟨q_29, hq_29, h⟩ := obn h
            refine w_getR (ci := 4) (j := 3) hC hP rfl inlX4 (by decide) (by decide) rfl hq_29 wl_56 dX4_held_100 ?_
            obtain ⟨u_30, hu_30, h⟩ := obn h
            obtain ⟨w_31, hw_31, h⟩ := obn h
            refine k_J (r_virt (As := []) (rest := []) hC hP hS (ci := 0) rfl (by decide) hu_30 (c_X0_sumOfWaits (l := l) (base := base) (D := D) (cI := cI) (cJ := cJ) (tS := tS) hw_31) wl_403 wl_404 wl_405 wl_52 wl_402 rfl rfl hd_X0_sumOfWaits ⟨Nat.le_of_ble_eq_true rfl, Nat.le_of_ble_eq_true rfl⟩ rfl hl.1 rfl (Nat.le_of_ble_eq_true rfl) dX4_held_103 ⟨Nat.le_of_ble_eq_true rfl, Nat.le_of_ble_eq_true rfl⟩) hS (fun H locs hP hS => ?_)
            refine lv_aload_n hx hb dX4_held_106 rfl (lv_at hl 1 rfl) ?_
            obtain ⟨q_32, hq_32, h⟩ := obn h
            refine w_getR (ci := 4) (j := 3) hC hP rfl inlX4 (by decide) (by decide) rfl hq_32 wl_56 dX4_held_107 ?_
            obtain ⟨v_33, hv_33, h⟩ := obn h
            refine w_getJ (ci := 0) (j := 10) hC hP rfl inlX0 (by decide) (by decide) rfl hv_33 wl_406 dX4_held_110 ?_
            refine lv_ladd hx hb dX4_held_113 ?_
            refine lv_aload hx hb dX4_held_114 (lv_at hl 0 rfl) ?_
            obtain ⟨u_34, hu_34, h⟩ := obn h
            obtain ⟨w_35, hw_35, h⟩ := obn h
            refine k_J (r_virt (As := []) (rest := [.long (w_31.1 + v_33)]) hC hP hS (ci := 0) rfl (by decide) hu_34 (c_X0_sumOfWaits (l := l) (base := base) (D := D) (cI := cI) (cJ := cJ) (tS := tS) hw_35) wl_403 wl_404 wl_405 wl_52 wl_402 rfl rfl hd_X0_sumOfWaits ⟨Nat.le_of_ble_eq_true rfl, Nat.le_of_ble_eq_true rfl⟩ rfl hl.1 rfl (Nat.le_of_ble_eq_true rfl) dX4_held_116 ⟨Nat.le_of_ble_eq_true rfl, Nat.le_of_ble_eq_true rfl⟩) hS (fun H locs hP hS => ?_)
            refine lv_lsub hx hb dX4_held_119 ?_
            refine lv_aload hx hb dX4_held_120 (lv_at hl 0 rfl) ?_
            obtain ⟨v_36, hv_36, h⟩ := obn h
            refine w_getJ (ci := 0) (j := 10) hC hP rfl inlX0 (by decide) (by decide) rfl hv_36 wl_406 dX4_held_122 ?_
            refine lv_lsub hx hb dX4_held_125 ?_
            refine lv_l2i hx hb dX4_held_126 rfl ?_
            obtain ⟨rfl, rfl⟩ := Prod.mk.inj (Option.some.inj h)
            exact w_iret hC hr hlocks hP hS dX4_held_127
          · rw [if_neg c_12] at h
            exact X4_held_k45 hC hr hlocks h hP hS (lv_sub hl [] rfl)
      · rw [if_pos c_10] at h
        exact X4_held_k30 hC hr hlocks h hP hS (lv_sub hl [] rfl)
set_option maxRecDepth 100000 in
set_option maxHeartbeats 4000000 in
theorem c_X4_held {l : Launch} {base : Nat} {D : va_G} {cI cJ : ClassId} {tS : Nat} {n : Nat} {a0 : Nat} {i1 : Int32} {i2 : Int32} {i3 : Int32} {σ : Sg} {r : Int32} {τ : Sg} (h : f_X4_held n a0 i1 i2 i3 σ = some (r, τ)) : Met l yX4_held (.code yX4_held cX4_held 5 (some .int) :: wsL_law) (rmD 7 0 0) (Pw base D cI cJ tS σ [.ref (base + a0), .int i1, .int i2, .int i3]) (QwI base D cI cJ r τ) 0 0 (fun q => base ≤ q) := by
  refine Met.ofW (cc := cX4_held) (maxL := 5) (ret := (some .int)) (by decide) rfl ?_
  intro p e s m args below meth c s₁ B hml hv
  obtain ⟨rfl, hSt, hP⟩ := hv
  have hC : Cx p m c cX4_held 5 s _ RX4 base D cI cJ tS := ⟨⟨B.exec, B.bytes, hml, findClass_of_methodNamed B.named, fun w hw => atoms_spec (ws := Cond.code yX4_held cX4_held 5 (some .int) :: wsL_law) B.pre w (List.mem_cons_of_mem _ hw)⟩, hSt⟩
  have hl := lv_entry ([.ref (base + a0), .int i1, .int i2, .int i3]) (n := 5) (Nat.le_of_ble_eq_true rfl)
  rw [lg_entry_eq]
  generalize (lg_sl ([.ref (base + a0), .int i1, .int i2, .int i3]) ++ List.replicate (5 - (lg_sl ([.ref (base + a0), .int i1, .int i2, .int i3])).length) Slot.unset).toArray = ls at hl ⊢
  exact X4_held_k0 hC B.returns B.notSynchronized h hP va_S.rf hl
-- ===== X5_held
set_option maxRecDepth 100000 in
set_option maxHeartbeats 4000000 in
theorem X5_held_k26 (hC : Cx p m c cX5_held 5 s args RX5 base D cI cJ tS) (hr : meth.sig.returnType = (some .int)) (hlocks : meth.locks = false) {n : Nat} {σ : Sg} {r : Int32} {τ : Sg} {H : Heap} {locs : List Loc} {ls : Array Slot} (h : X5_held_b26 n σ = some (r, τ)) : Dy base D cI cJ σ H → va_S (fun q => base ≤ q) s.heap H locs → lv_has ls 5 [] → W p l e (rmD 3 0 0) s m args below meth c H locs 0 0 (MQ below (QwI base D cI cJ r τ) args s 0 0 (fun q => base ≤ q)) (F0 m 26 ls []) := by
  intro hP hS hl
  obtain ⟨hx, hb, hml, hown, hts⟩ := hC.1
  unfold X5_held_b26 at h
  refine lv_ldc (v := (-2000000000)) hx hb hown (hts _ wl_414) dX5_held_26 ?_
  obtain ⟨rfl, rfl⟩ := Prod.mk.inj (Option.some.inj h)
  exact w_iret hC hr hlocks hP hS dX5_held_28
set_option maxRecDepth 100000 in
set_option maxHeartbeats 4000000 in
theorem X5_held_k0 (hC : Cx p m c cX5_held 5 s args RX5 base D cI cJ tS) (hr : meth.sig.returnType = (some .int)) (hlocks : meth.locks = false) {n : Nat} {a0 : Nat} {i1 : Int32} {i2 : Int32} {i3 : Int32} {σ : Sg} {r : Int32} {τ : Sg} {H : Heap} {locs : List Loc} {ls : Array Slot} (h : f_X5_held n a0 i1 i2 i3 σ = some (r, τ)) : Dy base D cI cJ σ H → va_S (fun q => base ≤ q) s.heap H locs → lv_has ls 5 [(0, .ref (base + a0)), (1, .int i1), (2, .int i2), (3, .int i3)] → W p l e (rmD 3 0 0) s m args below meth c H locs 0 0 (MQ below (QwI base D cI cJ r τ) args s 0 0 (fun q => base ≤ q)) (F0 m 0 ls []) := by
  intro hP hS hl
  obtain ⟨hx, hb, hml, hown, hts⟩ := hC.1
  unfold f_X5_held at h
  refine lv_aload_n hx hb dX5_held_0 rfl (lv_at hl 0 rfl) ?_
  refine lv_iload_n hx hb dX5_held_1 rfl (lv_at hl 1 rfl) ?_
  obtain ⟨u_1, hu_1, h⟩ := obn h
  obtain ⟨w_2, hw_2, h⟩ := obn h
  refine k_I (r_virt (As := [.int i1]) (rest := []) hC hP hS (ci := 5) rfl (by decide) hu_1 (c_X5_isBus (l := l) (base := base) (D := D) (cI := cI) (cJ := cJ) (tS := tS) hw_2) wl_141 wl_142 wl_143 wl_113 wl_140 rfl rfl hd_X5_isBus ⟨Nat.le_of_ble_eq_true rfl, Nat.le_of_ble_eq_true rfl⟩ rfl hl.1 rfl (Nat.le_of_ble_eq_true rfl) dX5_held_2 ⟨Nat.le_of_ble_eq_true rfl, Nat.le_of_ble_eq_true rfl⟩) hS (fun H locs hP hS => ?_)
  refine lv_if_eq (tgt := 26) hx hb dX5_held_5 (by decide) (fun c_3 => ?_) (fun c_3 => ?_)
  · rw [if_pos c_3] at h
    exact X5_held_k26 hC hr hlocks h hP hS (lv_sub hl [] rfl)
  · rw [if_neg c_3] at h
    refine lv_iload_n hx hb dX5_held_8 rfl (lv_at hl 2 rfl) ?_
    obtain ⟨w_4, hw_4, h⟩ := obn h
    refine k_I (r_stat (As := [.int i2]) (rest := []) hC hP hS (c_X5_isOn (l := l) (base := base) (D := D) (cI := cI) (cJ := cJ) (tS := tS) hw_4) wl_115 wl_116 wl_113 wl_114 rfl rfl hd_X5_isOn ⟨Nat.le_of_ble_eq_true rfl, Nat.le_of_ble_eq_true rfl⟩ rfl hl.1 rfl (Nat.le_of_ble_eq_true rfl) dX5_held_9 ⟨Nat.le_of_ble_eq_true rfl, Nat.le_of_ble_eq_true rfl⟩) hS (fun H locs hP hS => ?_)
    refine lv_if_eq (tgt := 26) hx hb dX5_held_12 (by decide) (fun c_5 => ?_) (fun c_5 => ?_)
    · rw [if_pos c_5] at h
      exact X5_held_k26 hC hr hlocks h hP hS (lv_sub hl [] rfl)
    · rw [if_neg c_5] at h
      refine lv_iload_n hx hb dX5_held_15 rfl (lv_at hl 3 rfl) ?_
      refine lv_iconst (v := 1) hx hb dX5_held_16 (by decide) ?_
      refine lv_sipush (v := 900) hx hb dX5_held_17 (by decide) ?_
      obtain ⟨w_6, hw_6, h⟩ := obn h
      refine k_I (r_stat (As := [.int i3, .int 1, .int 900]) (rest := []) hC hP hS (c_X5_in (l := l) (base := base) (D := D) (cI := cI) (cJ := cJ) (tS := tS) hw_6) wl_111 wl_112 wl_113 wl_110 rfl rfl hd_X5_in ⟨Nat.le_of_ble_eq_true rfl, Nat.le_of_ble_eq_true rfl⟩ rfl hl.1 rfl (Nat.le_of_ble_eq_true rfl) dX5_held_20 ⟨Nat.le_of_ble_eq_true rfl, Nat.le_of_ble_eq_true rfl⟩) hS (fun H locs hP hS => ?_)
      refine lv_if_ne (tgt := 29) hx hb dX5_held_23 (by decide) (fun c_7 => ?_) (fun c_7 => ?_)
      · rw [if_neg c_7] at h
        refine lv_aload_n hx hb dX5_held_29 rfl (lv_at hl 0 rfl) ?_
        refine lv_bipush (v := (-6)) hx hb dX5_held_30 (by decide) ?_
        obtain ⟨u_8, hu_8, h⟩ := obn h
        obtain ⟨w_9, hw_9, h⟩ := obn h
        refine k_V (r_virt (As := [.int (-6)]) (rest := []) hC hP hS (ci := 5) rfl (by decide) hu_8 (c_X5_lay (l := l) (base := base) (D := D) (cI := cI) (cJ := cJ) (tS := tS) hw_9) wl_280 wl_281 wl_282 wl_113 wl_279 rfl rfl hd_X5_lay ⟨Nat.le_of_ble_eq_true rfl, Nat.le_of_ble_eq_true rfl⟩ rfl hl.1 rfl (Nat.le_of_ble_eq_true rfl) dX5_held_32 ⟨Nat.le_of_ble_eq_true rfl, Nat.le_of_ble_eq_true rfl⟩) hS (fun H locs hP hS => ?_)
        refine lv_aload_n hx hb dX5_held_35 rfl (lv_at hl 0 rfl) ?_
        obtain ⟨q_10, hq_10, h⟩ := obn h
        refine w_getR (ci := 5) (j := 17) hC hP rfl inlX5 (by decide) (by decide) rfl hq_10 wl_78 dX5_held_36 ?_
        refine lv_bipush (v := 10) hx hb dX5_held_39 (by decide) ?_
        refine lv_iload_n hx hb dX5_held_41 rfl (lv_at hl 1 rfl) ?_
        refine lv_imul hx hb dX5_held_42 ?_
        refine lv_iload_n hx hb dX5_held_43 rfl (lv_at hl 2 rfl) ?_
        refine lv_iadd hx hb dX5_held_44 ?_
        obtain ⟨v_11, hv_11, h⟩ := obn h
        refine w_iald hC hP hv_11 dX5_held_45 ?_
        refine lv_if_ge (tgt := 52) hx hb dX5_held_46 (by decide) (fun c_12 => ?_) (fun c_12 => ?_)
        · rw [if_pos c_12] at h
          refine lv_aload_n hx hb dX5_held_52 rfl (lv_at hl 0 rfl) ?_
          obtain ⟨u_13, hu_13, h⟩ := obn h
          obtain ⟨w_14, hw_14, h⟩ := obn h
          refine k_I (r_virt (As := []) (rest := []) hC hP hS (ci := 5) rfl (by decide) hu_13 (c_X5_allWaited (l := l) (base := base) (D := D) (cI := cI) (cJ := cJ) (tS := tS) hw_14) wl_409 wl_410 wl_411 wl_113 wl_408 rfl rfl hd_X5_allWaited ⟨Nat.le_of_ble_eq_true rfl, Nat.le_of_ble_eq_true rfl⟩ rfl hl.1 rfl (Nat.le_of_ble_eq_true rfl) dX5_held_53 ⟨Nat.le_of_ble_eq_true rfl, Nat.le_of_ble_eq_true rfl⟩) hS (fun H locs hP hS => ?_)
          refine lv_aload_n hx hb dX5_held_56 rfl (lv_at hl 0 rfl) ?_
          obtain ⟨v_15, hv_15, h⟩ := obn h
          refine w_getI (ci := 5) (j := 29) hC hP rfl inlX5 (by decide) (by decide) rfl hv_15 wl_257 dX5_held_57 ?_
          refine lv_iadd hx hb dX5_held_60 ?_
          obtain ⟨i4_16, hi4_16, h⟩ := obn h
          refine w_eqi (Option.some.inj hi4_16) ?_
          refine lv_istore (lv' := [(4, .int i4_16), (0, .ref (base + a0)), (1, .int i1), (2, .int i2), (3, .int i3)]) hx hb dX5_held_61 hl (by decide) rfl (fun ls hl => ?_)
          refine lv_aload_n hx hb dX5_held_63 rfl (lv_at hl 1 rfl) ?_
          obtain ⟨q_17, hq_17, h⟩ := obn h
          refine w_getR (ci := 5) (j := 9) hC hP rfl inlX5 (by decide) (by decide) rfl hq_17 wl_72 dX5_held_64 ?_
          refine lv_aload_n hx hb dX5_held_67 rfl (lv_at hl 1 rfl) ?_
          obtain ⟨v_18, hv_18, h⟩ := obn h
          refine w_getI (ci := 5) (j := 8) hC hP rfl inlX5 (by decide) (by decide) rfl hv_18 wl_144 dX5_held_68 ?_
          refine lv_iload_n hx hb dX5_held_71 rfl (lv_at hl 2 rfl) ?_
          obtain ⟨s_19, hs_19, h⟩ := obn h
          refine w_iast hC hP hS hs_19 dX5_held_72 (fun H locs hP hS => ?_)
          refine lv_aload_n hx hb dX5_held_73 rfl (lv_at hl 1 rfl) ?_
          obtain ⟨q_20, hq_20, h⟩ := obn h
          refine w_getR (ci := 5) (j := 10) hC hP rfl inlX5 (by decide) (by decide) rfl hq_20 wl_73 dX5_held_74 ?_
          refine lv_aload_n hx hb dX5_held_77 rfl (lv_at hl 1 rfl) ?_
          obtain ⟨v_21, hv_21, h⟩ := obn h
          refine w_getI (ci := 5) (j := 8) hC hP rfl inlX5 (by decide) (by decide) rfl hv_21 wl_144 dX5_held_78 ?_
          refine lv_iload_n hx hb dX5_held_81 rfl (lv_at hl 3 rfl) ?_
          obtain ⟨s_22, hs_22, h⟩ := obn h
          refine w_iast hC hP hS hs_22 dX5_held_82 (fun H locs hP hS => ?_)
          refine lv_aload_n hx hb dX5_held_83 rfl (lv_at hl 1 rfl) ?_
          obtain ⟨q_23, hq_23, h⟩ := obn h
          refine w_getR (ci := 5) (j := 11) hC hP rfl inlX5 (by decide) (by decide) rfl hq_23 wl_74 dX5_held_84 ?_
          refine lv_aload_n hx hb dX5_held_87 rfl (lv_at hl 1 rfl) ?_
          obtain ⟨v_24, hv_24, h⟩ := obn h
          refine w_getI (ci := 5) (j := 8) hC hP rfl inlX5 (by decide) (by decide) rfl hv_24 wl_144 dX5_held_88 ?_
          refine lv_iload_n hx hb dX5_held_91 rfl (lv_at hl 4 rfl) ?_
          obtain ⟨s_25, hs_25, h⟩ := obn h
          refine w_iast hC hP hS hs_25 dX5_held_92 (fun H locs hP hS => ?_)
          refine lv_aload_n hx hb dX5_held_93 rfl (lv_at hl 1 rfl) ?_
          refine lv_dup hx hb dX5_held_94 rfl ?_
          obtain ⟨v_26, hv_26, h⟩ := obn h
          refine w_getI (ci := 5) (j := 8) hC hP rfl inlX5 (by decide) (by decide) rfl hv_26 wl_144 dX5_held_95 ?_
          refine lv_iconst (v := 1) hx hb dX5_held_98 (by decide) ?_
          refine lv_iadd hx hb dX5_held_99 ?_
          obtain ⟨s_27, hs_27, h⟩ := obn h
          refine w_putI (ci := 5) (j := 8) hC hP hS rfl inlX5 tyX5 tyX5_ok nmX5 (by decide) (by decide) rfl rfl rfl rfl hs_27 wl_144 dX5_held_100 (fun H locs hP hS => ?_)
          refine lv_aload_n hx hb dX5_held_103 rfl (lv_at hl 1 rfl) ?_
          refine lv_bipush (v := (-6)) hx hb dX5_held_104 (by decide) ?_
          obtain ⟨u_28, hu_28, h⟩ := obn h
          obtain ⟨w_29, hw_29, h⟩ := obn h
          refine k_V (r_virt (As := [.int (-6)]) (rest := []) hC hP hS (ci := 5) rfl (by decide) hu_28 (c_X5_lay (l := l) (base := base) (D := D) (cI := cI) (cJ := cJ) (tS := tS) hw_29) wl_280 wl_281 wl_282 wl_113 wl_279 rfl rfl hd_X5_lay ⟨Nat.le_of_ble_eq_true rfl, Nat.le_of_ble_eq_true rfl⟩ rfl hl.1 rfl (Nat.le_of_ble_eq_true rfl) dX5_held_106 ⟨Nat.le_of_ble_eq_true rfl, Nat.le_of_ble_eq_true rfl⟩) hS (fun H locs hP hS => ?_)
          refine lv_aload_n hx hb dX5_held_109 rfl (lv_at hl 1 rfl) ?_
          refine lv_dup hx hb dX5_held_110 rfl ?_
          obtain ⟨v_30, hv_30, h⟩ := obn h
          refine w_getI (ci := 5) (j := 8) hC hP rfl inlX5 (by decide) (by decide) rfl hv_30 wl_144 dX5_held_111 ?_
          refine lv_iconst (v := 1) hx hb dX5_held_114 (by decide) ?_
          refine lv_isub hx hb dX5_held_115 ?_
          obtain ⟨s_31, hs_31, h⟩ := obn h
          refine w_putI (ci := 5) (j := 8) hC hP hS rfl inlX5 tyX5 tyX5_ok nmX5 (by decide) (by decide) rfl rfl rfl rfl hs_31 wl_144 dX5_held_116 (fun H locs hP hS => ?_)
          refine lv_aload_n hx hb dX5_held_119 rfl (lv_at hl 1 rfl) ?_
          obtain ⟨u_32, hu_32, h⟩ := obn h
          obtain ⟨w_33, hw_33, h⟩ := obn h
          refine k_I (r_virt (As := []) (rest := []) hC hP hS (ci := 5) rfl (by decide) hu_32 (c_X5_allWaited (l := l) (base := base) (D := D) (cI := cI) (cJ := cJ) (tS := tS) hw_33) wl_409 wl_410 wl_411 wl_113 wl_408 rfl rfl hd_X5_allWaited ⟨Nat.le_of_ble_eq_true rfl, Nat.le_of_ble_eq_true rfl⟩ rfl hl.1 rfl (Nat.le_of_ble_eq_true rfl) dX5_held_120 ⟨Nat.le_of_ble_eq_true rfl, Nat.le_of_ble_eq_true rfl⟩) hS (fun H locs hP hS => ?_)
          refine lv_aload_n hx hb dX5_held_123 rfl (lv_at hl 1 rfl) ?_
          obtain ⟨v_34, hv_34, h⟩ := obn h
          refine w_getI (ci := 5) (j := 29) hC hP rfl inlX5 (by decide) (by decide) rfl hv_34 wl_257 dX5_held_124 ?_
          refine lv_iadd hx hb dX5_held_127 ?_
          refine lv_iload hx hb dX5_held_128 (lv_at hl 0 rfl) ?_
          refine lv_isub hx hb dX5_held_130 ?_
          obtain ⟨rfl, rfl⟩ := Prod.mk.inj (Option.some.inj h)
          exact w_iret hC hr hlocks hP hS dX5_held_131
        · rw [if_neg c_12] at h
          refine lv_ldc (v := (-2000000000)) hx hb hown (hts _ wl_414) dX5_held_49 ?_
          obtain ⟨rfl, rfl⟩ := Prod.mk.inj (Option.some.inj h)
          exact w_iret hC hr hlocks hP hS dX5_held_51
      · rw [if_pos c_7] at h
        exact X5_held_k26 hC hr hlocks h hP hS (lv_sub hl [] rfl)
set_option maxRecDepth 100000 in
set_option maxHeartbeats 4000000 in
theorem c_X5_held {l : Launch} {base : Nat} {D : va_G} {cI cJ : ClassId} {tS : Nat} {n : Nat} {a0 : Nat} {i1 : Int32} {i2 : Int32} {i3 : Int32} {σ : Sg} {r : Int32} {τ : Sg} (h : f_X5_held n a0 i1 i2 i3 σ = some (r, τ)) : Met l yX5_held (.code yX5_held cX5_held 5 (some .int) :: wsL_law) (rmD 3 0 0) (Pw base D cI cJ tS σ [.ref (base + a0), .int i1, .int i2, .int i3]) (QwI base D cI cJ r τ) 0 0 (fun q => base ≤ q) := by
  refine Met.ofW (cc := cX5_held) (maxL := 5) (ret := (some .int)) (by decide) rfl ?_
  intro p e s m args below meth c s₁ B hml hv
  obtain ⟨rfl, hSt, hP⟩ := hv
  have hC : Cx p m c cX5_held 5 s _ RX5 base D cI cJ tS := ⟨⟨B.exec, B.bytes, hml, findClass_of_methodNamed B.named, fun w hw => atoms_spec (ws := Cond.code yX5_held cX5_held 5 (some .int) :: wsL_law) B.pre w (List.mem_cons_of_mem _ hw)⟩, hSt⟩
  have hl := lv_entry ([.ref (base + a0), .int i1, .int i2, .int i3]) (n := 5) (Nat.le_of_ble_eq_true rfl)
  rw [lg_entry_eq]
  generalize (lg_sl ([.ref (base + a0), .int i1, .int i2, .int i3]) ++ List.replicate (5 - (lg_sl ([.ref (base + a0), .int i1, .int i2, .int i3])).length) Slot.unset).toArray = ls at hl ⊢
  exact X5_held_k0 hC B.returns B.notSynchronized h hP va_S.rf hl
end
