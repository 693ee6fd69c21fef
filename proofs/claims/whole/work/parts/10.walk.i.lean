section
variable {p : Program} {l : Launch} {e : Env} {s : State} {m : MethodId} {args : Array Value} {below : List Frame} {meth : Method} {c : Code} {base : Nat} {D : va_G} {cI cJ : ClassId} {tS : Nat}
-- ===== X4_one
set_option maxRecDepth 100000 in
set_option maxHeartbeats 4000000 in
theorem X4_one_k9 (hC : Cx p m c cX4_one 4 s args RX4 base D cI cJ tS) (hr : meth.sig.returnType = (some .int)) (hlocks : meth.locks = false) {n : Nat} {σ : Sg} {r : Int32} {τ : Sg} {H : Heap} {locs : List Loc} {ls : Array Slot} (h : X4_one_b9 n σ = some (r, τ)) : Dy base D cI cJ σ H → va_S (fun q => base ≤ q) s.heap H locs → lv_has ls 4 [] → W p l e (rmD 7 0 0) s m args below meth c H locs 0 0 (MQ below (QwI base D cI cJ r τ) args s 0 0 (fun q => base ≤ q)) (F0 m 9 ls []) := by
  intro hP hS hl
  obtain ⟨hx, hb, hml, hown, hts⟩ := hC.1
  unfold X4_one_b9 at h
  refine lv_bipush (v := (-2)) hx hb dX4_one_9 (by decide) ?_
  obtain ⟨rfl, rfl⟩ := Prod.mk.inj (Option.some.inj h)
  exact w_iret hC hr hlocks hP hS dX4_one_11
set_option maxRecDepth 100000 in
set_option maxHeartbeats 4000000 in
theorem X4_one_k36 (hC : Cx p m c cX4_one 4 s args RX4 base D cI cJ tS) (hr : meth.sig.returnType = (some .int)) (hlocks : meth.locks = false) {n : Nat} {i3 : Int32} {σ : Sg} {r : Int32} {τ : Sg} {H : Heap} {locs : List Loc} {ls : Array Slot} (h : X4_one_b36 n i3 σ = some (r, τ)) : Dy base D cI cJ σ H → va_S (fun q => base ≤ q) s.heap H locs → lv_has ls 4 [(3, .int i3)] → W p l e (rmD 7 0 0) s m args below meth c H locs 0 0 (MQ below (QwI base D cI cJ r τ) args s 0 0 (fun q => base ≤ q)) (F0 m 36 ls []) := by
  intro hP hS hl
  obtain ⟨hx, hb, hml, hown, hts⟩ := hC.1
  unfold X4_one_b36 at h
  refine lv_iload_n hx hb dX4_one_36 rfl (lv_at hl 0 rfl) ?_
  obtain ⟨rfl, rfl⟩ := Prod.mk.inj (Option.some.inj h)
  exact w_iret hC hr hlocks hP hS dX4_one_37
set_option maxRecDepth 100000 in
set_option maxHeartbeats 4000000 in
theorem X4_one_k0 (hC : Cx p m c cX4_one 4 s args RX4 base D cI cJ tS) (hr : meth.sig.returnType = (some .int)) (hlocks : meth.locks = false) {n : Nat} {a0 : Nat} {i1 : Int32} {σ : Sg} {r : Int32} {τ : Sg} {H : Heap} {locs : List Loc} {ls : Array Slot} (h : f_X4_one n a0 i1 σ = some (r, τ)) : Dy base D cI cJ σ H → va_S (fun q => base ≤ q) s.heap H locs → lv_has ls 4 [(0, .ref (base + a0)), (1, .int i1)] → W p l e (rmD 7 0 0) s m args below meth c H locs 0 0 (MQ below (QwI base D cI cJ r τ) args s 0 0 (fun q => base ≤ q)) (F0 m 0 ls []) := by
  intro hP hS hl
  obtain ⟨hx, hb, hml, hown, hts⟩ := hC.1
  unfold f_X4_one at h
  refine lv_iload_n hx hb dX4_one_0 rfl (lv_at hl 1 rfl) ?_
  refine lv_if_lt (tgt := 9) hx hb dX4_one_1 (by decide) (fun c_1 => ?_) (fun c_1 => ?_)
  · rw [if_pos c_1] at h
    exact X4_one_k9 hC hr hlocks h hP hS (lv_sub hl [] rfl)
  · rw [if_neg c_1] at h
    refine lv_iload_n hx hb dX4_one_4 rfl (lv_at hl 1 rfl) ?_
    refine lv_iconst (v := 1) hx hb dX4_one_5 (by decide) ?_
    refine lv_icmp_le (tgt := 12) hx hb dX4_one_6 (by decide) (fun c_2 => ?_) (fun c_2 => ?_)
    · rw [if_pos c_2] at h
      refine lv_aload_n hx hb dX4_one_12 rfl (lv_at hl 0 rfl) ?_
      obtain ⟨u_3, hu_3, h⟩ := obn h
      obtain ⟨w_4, hw_4, h⟩ := obn h
      refine k_A (r_virt (As := []) (rest := []) hC hP hS (ci := 4) rfl (by decide) hu_3 (c_X4_presentCourse (l := l) (base := base) (D := D) (cI := cI) (cJ := cJ) (tS := tS) hw_4) wl_248 wl_249 wl_250 wl_98 wl_247 rfl rfl hd_X4_presentCourse ⟨Nat.le_of_ble_eq_true rfl, Nat.le_of_ble_eq_true rfl⟩ rfl hl.1 rfl (Nat.le_of_ble_eq_true rfl) dX4_one_13 ⟨Nat.le_of_ble_eq_true rfl, Nat.le_of_ble_eq_true rfl⟩) hS (fun H locs hP hS => ?_)
      refine lv_astore_n (lv' := [(2, .ref (base + w_4.1)), (0, .ref (base + a0)), (1, .int i1)]) hx hb dX4_one_16 rfl hl (by decide) rfl (fun ls hl => ?_)
      refine lv_aload_n hx hb dX4_one_17 rfl (lv_at hl 0 rfl) ?_
      refine lv_aload_n hx hb dX4_one_18 rfl (lv_at hl 1 rfl) ?_
      obtain ⟨q_5, hq_5, h⟩ := obn h
      refine w_getR (ci := 4) (j := 0) hC hP rfl inlX4 (by decide) (by decide) rfl hq_5 wl_43 dX4_one_19 ?_
      obtain ⟨u_6, hu_6, h⟩ := obn h
      obtain ⟨w_7, hw_7, h⟩ := obn h
      refine k_I (r_virt (As := [.ref (base + q_5)]) (rest := []) hC hP hS (ci := 0) rfl (by decide) hu_6 (c_X0_firstCloseStop (l := l) (base := base) (D := D) (cI := cI) (cJ := cJ) (tS := tS) hw_7) wl_364 wl_365 wl_366 wl_52 wl_363 rfl rfl hd_X0_firstCloseStop ⟨Nat.le_of_ble_eq_true rfl, Nat.le_of_ble_eq_true rfl⟩ rfl hl.1 rfl (Nat.le_of_ble_eq_true rfl) dX4_one_22 ⟨Nat.le_of_ble_eq_true rfl, Nat.le_of_ble_eq_true rfl⟩) hS (fun H locs hP hS => ?_)
      refine lv_istore_n (lv' := [(3, .int w_7.1), (2, .ref (base + w_4.1)), (0, .ref (base + a0)), (1, .int i1)]) hx hb dX4_one_25 rfl hl (by decide) rfl (fun ls hl => ?_)
      refine lv_iload_n hx hb dX4_one_26 rfl (lv_at hl 3 rfl) ?_
      refine lv_if_eq (tgt := 36) hx hb dX4_one_27 (by decide) (fun c_8 => ?_) (fun c_8 => ?_)
      · rw [if_pos c_8] at h
        exact X4_one_k36 hC hr hlocks h hP hS (lv_sub hl [0] rfl)
      · rw [if_neg c_8] at h
        refine lv_iload_n hx hb dX4_one_30 rfl (lv_at hl 0 rfl) ?_
        refine lv_bipush (v := (-6)) hx hb dX4_one_31 (by decide) ?_
        refine lv_icmp_ne (tgt := 38) hx hb dX4_one_33 (by decide) (fun c_9 => ?_) (fun c_9 => ?_)
        · rw [if_neg c_9] at h
          refine lv_aload_n hx hb dX4_one_38 rfl (lv_at hl 1 rfl) ?_
          refine lv_aload_n hx hb dX4_one_39 rfl (lv_at hl 2 rfl) ?_
          obtain ⟨q_10, hq_10, h⟩ := obn h
          refine w_getR (ci := 4) (j := 0) hC hP rfl inlX4 (by decide) (by decide) rfl hq_10 wl_43 dX4_one_40 ?_
          refine lv_iload_n hx hb dX4_one_43 rfl (lv_at hl 0 rfl) ?_
          obtain ⟨u_11, hu_11, h⟩ := obn h
          obtain ⟨w_12, hw_12, h⟩ := obn h
          refine k_I (r_virt (As := [.ref (base + q_10), .int w_7.1]) (rest := []) hC hP hS (ci := 0) rfl (by decide) hu_11 (c_X0_firstCloseBus (l := l) (base := base) (D := D) (cI := cI) (cJ := cJ) (tS := tS) hw_12) wl_367 wl_361 wl_362 wl_52 wl_359 rfl rfl hd_X0_firstCloseBus ⟨Nat.le_of_ble_eq_true rfl, Nat.le_of_ble_eq_true rfl⟩ rfl hl.1 rfl (Nat.le_of_ble_eq_true rfl) dX4_one_44 ⟨Nat.le_of_ble_eq_true rfl, Nat.le_of_ble_eq_true rfl⟩) hS (fun H locs hP hS => ?_)
          obtain ⟨rfl, rfl⟩ := Prod.mk.inj (Option.some.inj h)
          exact w_iret hC hr hlocks hP hS dX4_one_47
        · rw [if_pos c_9] at h
          exact X4_one_k36 hC hr hlocks h hP hS (lv_sub hl [0] rfl)
    · rw [if_neg c_2] at h
      exact X4_one_k9 hC hr hlocks h hP hS (lv_sub hl [] rfl)
set_option maxRecDepth 100000 in
set_option maxHeartbeats 4000000 in
theorem c_X4_one {l : Launch} {base : Nat} {D : va_G} {cI cJ : ClassId} {tS : Nat} {n : Nat} {a0 : Nat} {i1 : Int32} {σ : Sg} {r : Int32} {τ : Sg} (h : f_X4_one n a0 i1 σ = some (r, τ)) : Met l yX4_one (.code yX4_one cX4_one 4 (some .int) :: wsL_law) (rmD 7 0 0) (Pw base D cI cJ tS σ [.ref (base + a0), .int i1]) (QwI base D cI cJ r τ) 0 0 (fun q => base ≤ q) := by
  refine Met.ofW (cc := cX4_one) (maxL := 4) (ret := (some .int)) (by decide) rfl ?_
  intro p e s m args below meth c s₁ B hml hv
  obtain ⟨rfl, hSt, hP⟩ := hv
  have hC : Cx p m c cX4_one 4 s _ RX4 base D cI cJ tS := ⟨⟨B.exec, B.bytes, hml, findClass_of_methodNamed B.named, fun w hw => atoms_spec (ws := Cond.code yX4_one cX4_one 4 (some .int) :: wsL_law) B.pre w (List.mem_cons_of_mem _ hw)⟩, hSt⟩
  have hl := lv_entry ([.ref (base + a0), .int i1]) (n := 4) (Nat.le_of_ble_eq_true rfl)
  rw [lg_entry_eq]
  generalize (lg_sl ([.ref (base + a0), .int i1]) ++ List.replicate (4 - (lg_sl ([.ref (base + a0), .int i1])).length) Slot.unset).toArray = ls at hl ⊢
  exact X4_one_k0 hC B.returns B.notSynchronized h hP va_S.rf hl
-- ===== X5_oneOf
set_option maxRecDepth 100000 in
set_option maxHeartbeats 4000000 in
theorem X5_oneOf_k2 (hC : Cx p m c cX5_oneOf 3 s args RX5 base D cI cJ tS) (hr : meth.sig.returnType = (some .int)) (hlocks : meth.locks = false) {n : Nat} (ih : (∀ {a0 : Nat} {i1 : Int32} {i2 : Int32} {σ : Sg} {r : Int32} {τ : Sg} {H : Heap} {locs : List Loc} {ls : Array Slot}, X5_oneOf_run n 2 a0 i1 i2 σ = some (r, τ) → Dy base D cI cJ σ H → va_S (fun q => base ≤ q) s.heap H locs → lv_has ls 3 [(0, .ref (base + a0)), (1, .int i1)] → W p l e (rmD 1 0 0) s m args below meth c H locs 0 0 (MQ below (QwI base D cI cJ r τ) args s 0 0 (fun q => base ≤ q)) (F0 m 2 ls [])) ∧ (∀ {a0 : Nat} {i1 : Int32} {i2 : Int32} {σ : Sg} {r : Int32} {τ : Sg} {H : Heap} {locs : List Loc} {ls : Array Slot}, X5_oneOf_run n 15 a0 i1 i2 σ = some (r, τ) → Dy base D cI cJ σ H → va_S (fun q => base ≤ q) s.heap H locs → lv_has ls 3 [(0, .ref (base + a0)), (1, .int i1), (2, .int i2)] → W p l e (rmD 1 0 0) s m args below meth c H locs 0 0 (MQ below (QwI base D cI cJ r τ) args s 0 0 (fun q => base ≤ q)) (F0 m 15 ls []))) {a0 : Nat} {i1 : Int32} {σ : Sg} {r : Int32} {τ : Sg} {H : Heap} {locs : List Loc} {ls : Array Slot} (h : X5_oneOf_b2 n (X5_oneOf_run n) a0 i1 σ = some (r, τ)) : Dy base D cI cJ σ H → va_S (fun q => base ≤ q) s.heap H locs → lv_has ls 3 [(0, .ref (base + a0)), (1, .int i1)] → W p l e (rmD 1 0 0) s m args below meth c H locs 0 0 (MQ below (QwI base D cI cJ r τ) args s 0 0 (fun q => base ≤ q)) (F0 m 2 ls []) := by
  intro hP hS hl
  obtain ⟨hx, hb, hml, hown, hts⟩ := hC.1
  unfold X5_oneOf_b2 at h
  refine lv_iload_n hx hb dX5_oneOf_2 rfl (lv_at hl 1 rfl) ?_
  refine lv_bipush (v := 9) hx hb dX5_oneOf_3 (by decide) ?_
  refine lv_icmp_ge (tgt := 62) hx hb dX5_oneOf_5 (by decide) (fun c_1 => ?_) (fun c_1 => ?_)
  · rw [if_pos c_1] at h
    refine lv_aload_n hx hb dX5_oneOf_62 rfl (lv_at hl 0 rfl) ?_
    refine lv_bipush (v := (-6)) hx hb dX5_oneOf_63 (by decide) ?_
    obtain ⟨s_2, hs_2, h⟩ := obn h
    refine w_putI (ci := 5) (j := 34) hC hP hS rfl inlX5 tyX5 tyX5_ok nmX5 (by decide) (by decide) rfl rfl rfl rfl hs_2 wl_368 dX5_oneOf_65 (fun H locs hP hS => ?_)
    refine lv_bipush (v := (-6)) hx hb dX5_oneOf_68 (by decide) ?_
    obtain ⟨rfl, rfl⟩ := Prod.mk.inj (Option.some.inj h)
    exact w_iret hC hr hlocks hP hS dX5_oneOf_70
  · rw [if_neg c_1] at h
    refine lv_aload_n hx hb dX5_oneOf_8 rfl (lv_at hl 0 rfl) ?_
    refine lv_iload_n hx hb dX5_oneOf_9 rfl (lv_at hl 1 rfl) ?_
    obtain ⟨u_3, hu_3, h⟩ := obn h
    obtain ⟨w_4, hw_4, h⟩ := obn h
    refine k_V (r_virt (As := [.int i1]) (rest := []) hC hP hS (ci := 5) rfl (by decide) hu_3 (c_X5_layGoing (l := l) (base := base) (D := D) (cI := cI) (cJ := cJ) (tS := tS) hw_4) wl_354 wl_355 wl_356 wl_113 wl_353 rfl rfl hd_X5_layGoing ⟨Nat.le_of_ble_eq_true rfl, Nat.le_of_ble_eq_true rfl⟩ rfl hl.1 rfl (Nat.le_of_ble_eq_true rfl) dX5_oneOf_10 ⟨Nat.le_of_ble_eq_true rfl, Nat.le_of_ble_eq_true rfl⟩) hS (fun H locs hP hS => ?_)
    refine lv_iconst (v := 1) hx hb dX5_oneOf_13 (by decide) ?_
    refine lv_istore_n (lv' := [(2, .int 1), (0, .ref (base + a0)), (1, .int i1)]) hx hb dX5_oneOf_14 rfl hl (by decide) rfl (fun ls hl => ?_)
    exact ih.2 h hP hS (lv_sub hl [1, 2, 0] rfl)
set_option maxRecDepth 100000 in
set_option maxHeartbeats 4000000 in
theorem X5_oneOf_k15 (hC : Cx p m c cX5_oneOf 3 s args RX5 base D cI cJ tS) (hr : meth.sig.returnType = (some .int)) (hlocks : meth.locks = false) {n : Nat} (ih : (∀ {a0 : Nat} {i1 : Int32} {i2 : Int32} {σ : Sg} {r : Int32} {τ : Sg} {H : Heap} {locs : List Loc} {ls : Array Slot}, X5_oneOf_run n 2 a0 i1 i2 σ = some (r, τ) → Dy base D cI cJ σ H → va_S (fun q => base ≤ q) s.heap H locs → lv_has ls 3 [(0, .ref (base + a0)), (1, .int i1)] → W p l e (rmD 1 0 0) s m args below meth c H locs 0 0 (MQ below (QwI base D cI cJ r τ) args s 0 0 (fun q => base ≤ q)) (F0 m 2 ls [])) ∧ (∀ {a0 : Nat} {i1 : Int32} {i2 : Int32} {σ : Sg} {r : Int32} {τ : Sg} {H : Heap} {locs : List Loc} {ls : Array Slot}, X5_oneOf_run n 15 a0 i1 i2 σ = some (r, τ) → Dy base D cI cJ σ H → va_S (fun q => base ≤ q) s.heap H locs → lv_has ls 3 [(0, .ref (base + a0)), (1, .int i1), (2, .int i2)] → W p l e (rmD 1 0 0) s m args below meth c H locs 0 0 (MQ below (QwI base D cI cJ r τ) args s 0 0 (fun q => base ≤ q)) (F0 m 15 ls []))) {a0 : Nat} {i1 : Int32} {i2 : Int32} {σ : Sg} {r : Int32} {τ : Sg} {H : Heap} {locs : List Loc} {ls : Array Slot} (h : X5_oneOf_b15 n (X5_oneOf_run n) a0 i1 i2 σ = some (r, τ)) : Dy base D cI cJ σ H → va_S (fun q => base ≤ q) s.heap H locs → lv_has ls 3 [(0, .ref (base + a0)), (1, .int i1), (2, .int i2)] → W p l e (rmD 1 0 0) s m args below meth c H locs 0 0 (MQ below (QwI base D cI cJ r τ) args s 0 0 (fun q => base ≤ q)) (F0 m 15 ls []) := by
  intro hP hS hl
  obtain ⟨hx, hb, hml, hown, hts⟩ := hC.1
  unfold X5_oneOf_b15 at h
  refine lv_iload_n hx hb dX5_oneOf_15 rfl (lv_at hl 2 rfl) ?_
  refine lv_aload_n hx hb dX5_oneOf_16 rfl (lv_at hl 0 rfl) ?_
  obtain ⟨v_5, hv_5, h⟩ := obn h
  refine w_getI (ci := 5) (j := 32) hC hP rfl inlX5 (by decide) (by decide) rfl hv_5 wl_348 dX5_oneOf_17 ?_
  refine lv_icmp_ge (tgt := 56) hx hb dX5_oneOf_20 (by decide) (fun c_6 => ?_) (fun c_6 => ?_)
  · rw [if_pos c_6] at h
    obtain ⟨i1_7, hi1_7, h⟩ := obn h
    refine lv_iinc (v := i1_7) (lv' := [(1, .int i1_7), (0, .ref (base + a0)), (2, .int i2)]) hx hb dX5_oneOf_56 hl (k := 1) rfl (Option.some.inj hi1_7) (by decide) rfl (fun ls hl => ?_)
    refine lv_goto (tgt := 2) hx hb dX5_oneOf_59 (by decide) ?_
    exact ih.1 h hP hS (lv_sub hl [1, 0] rfl)
  · rw [if_neg c_6] at h
    refine lv_aload_n hx hb dX5_oneOf_23 rfl (lv_at hl 0 rfl) ?_
    refine lv_iload_n hx hb dX5_oneOf_24 rfl (lv_at hl 1 rfl) ?_
    refine lv_iload_n hx hb dX5_oneOf_25 rfl (lv_at hl 2 rfl) ?_
    obtain ⟨u_8, hu_8, h⟩ := obn h
    obtain ⟨w_9, hw_9, h⟩ := obn h
    refine k_I (r_virt (As := [.int i1, .int i2]) (rest := []) hC hP hS (ci := 5) rfl (by decide) hu_8 (c_X5_followOf (l := l) (base := base) (D := D) (cI := cI) (cJ := cJ) (tS := tS) hw_9) wl_350 wl_351 wl_352 wl_113 wl_349 rfl rfl hd_X5_followOf ⟨Nat.le_of_ble_eq_true rfl, Nat.le_of_ble_eq_true rfl⟩ rfl hl.1 rfl (Nat.le_of_ble_eq_true rfl) dX5_oneOf_26 ⟨Nat.le_of_ble_eq_true rfl, Nat.le_of_ble_eq_true rfl⟩) hS (fun H locs hP hS => ?_)
    refine lv_aload_n hx hb dX5_oneOf_29 rfl (lv_at hl 0 rfl) ?_
    obtain ⟨q_10, hq_10, h⟩ := obn h
    refine w_getR (ci := 5) (j := 7) hC hP rfl inlX5 (by decide) (by decide) rfl hq_10 wl_64 dX5_oneOf_30 ?_
    refine lv_iconst (v := 4) hx hb dX5_oneOf_33 (by decide) ?_
    obtain ⟨v_11, hv_11, h⟩ := obn h
    refine w_iald hC hP hv_11 dX5_oneOf_34 ?_
    refine lv_icmp_gt (tgt := 50) hx hb dX5_oneOf_35 (by decide) (fun c_12 => ?_) (fun c_12 => ?_)
    · rw [if_pos c_12] at h
      obtain ⟨i2_13, hi2_13, h⟩ := obn h
      refine lv_iinc (v := i2_13) (lv' := [(2, .int i2_13), (0, .ref (base + a0)), (1, .int i1)]) hx hb dX5_oneOf_50 hl (k := 2) rfl (Option.some.inj hi2_13) (by decide) rfl (fun ls hl => ?_)
      refine lv_goto (tgt := 15) hx hb dX5_oneOf_53 (by decide) ?_
      exact ih.2 h hP hS (lv_sub hl [1, 2, 0] rfl)
    · rw [if_neg c_12] at h
      refine lv_aload_n hx hb dX5_oneOf_38 rfl (lv_at hl 0 rfl) ?_
      refine lv_aload_n hx hb dX5_oneOf_39 rfl (lv_at hl 0 rfl) ?_
      obtain ⟨q_14, hq_14, h⟩ := obn h
      refine w_getR (ci := 5) (j := 33) hC hP rfl inlX5 (by decide) (by decide) rfl hq_14 wl_90 dX5_oneOf_40 ?_
      refine lv_iload_n hx hb dX5_oneOf_43 rfl (lv_at hl 2 rfl) ?_
      obtain ⟨v_15, hv_15, h⟩ := obn h
      refine w_iald hC hP hv_15 dX5_oneOf_44 ?_
      obtain ⟨s_16, hs_16, h⟩ := obn h
      refine w_putI (ci := 5) (j := 34) hC hP hS rfl inlX5 tyX5 tyX5_ok nmX5 (by decide) (by decide) rfl rfl rfl rfl hs_16 wl_368 dX5_oneOf_45 (fun H locs hP hS => ?_)
      refine lv_iload_n hx hb dX5_oneOf_48 rfl (lv_at hl 1 rfl) ?_
      obtain ⟨rfl, rfl⟩ := Prod.mk.inj (Option.some.inj h)
      exact w_iret hC hr hlocks hP hS dX5_oneOf_49
set_option maxRecDepth 100000 in
set_option maxHeartbeats 4000000 in
theorem X5_oneOf_k0 (hC : Cx p m c cX5_oneOf 3 s args RX5 base D cI cJ tS) (hr : meth.sig.returnType = (some .int)) (hlocks : meth.locks = false) {n : Nat} (ih : (∀ {a0 : Nat} {i1 : Int32} {i2 : Int32} {σ : Sg} {r : Int32} {τ : Sg} {H : Heap} {locs : List Loc} {ls : Array Slot}, X5_oneOf_run n 2 a0 i1 i2 σ = some (r, τ) → Dy base D cI cJ σ H → va_S (fun q => base ≤ q) s.heap H locs → lv_has ls 3 [(0, .ref (base + a0)), (1, .int i1)] → W p l e (rmD 1 0 0) s m args below meth c H locs 0 0 (MQ below (QwI base D cI cJ r τ) args s 0 0 (fun q => base ≤ q)) (F0 m 2 ls [])) ∧ (∀ {a0 : Nat} {i1 : Int32} {i2 : Int32} {σ : Sg} {r : Int32} {τ : Sg} {H : Heap} {locs : List Loc} {ls : Array Slot}, X5_oneOf_run n 15 a0 i1 i2 σ = some (r, τ) → Dy base D cI cJ σ H → va_S (fun q => base ≤ q) s.heap H locs → lv_has ls 3 [(0, .ref (base + a0)), (1, .int i1), (2, .int i2)] → W p l e (rmD 1 0 0) s m args below meth c H locs 0 0 (MQ below (QwI base D cI cJ r τ) args s 0 0 (fun q => base ≤ q)) (F0 m 15 ls []))) {a0 : Nat} {σ : Sg} {r : Int32} {τ : Sg} {H : Heap} {locs : List Loc} {ls : Array Slot} (h : X5_oneOf_b0 n (X5_oneOf_run n) a0 σ = some (r, τ)) : Dy base D cI cJ σ H → va_S (fun q => base ≤ q) s.heap H locs → lv_has ls 3 [(0, .ref (base + a0))] → W p l e (rmD 1 0 0) s m args below meth c H locs 0 0 (MQ below (QwI base D cI cJ r τ) args s 0 0 (fun q => base ≤ q)) (F0 m 0 ls []) := by
  intro hP hS hl
  obtain ⟨hx, hb, hml, hown, hts⟩ := hC.1
  unfold X5_oneOf_b0 at h
  refine lv_iconst (v := 0) hx hb dX5_oneOf_0 (by decide) ?_
  refine lv_istore_n (lv' := [(1, .int 0), (0, .ref (base + a0))]) hx hb dX5_oneOf_1 rfl hl (by decide) rfl (fun ls hl => ?_)
  exact ih.1 h hP hS (lv_sub hl [1, 0] rfl)
set_option maxRecDepth 100000 in
set_option maxHeartbeats 4000000 in
theorem X5_oneOf_all (hC : Cx p m c cX5_oneOf 3 s args RX5 base D cI cJ tS) (hr : meth.sig.returnType = (some .int)) (hlocks : meth.locks = false) : ∀ n : Nat, (∀ {a0 : Nat} {i1 : Int32} {i2 : Int32} {σ : Sg} {r : Int32} {τ : Sg} {H : Heap} {locs : List Loc} {ls : Array Slot}, X5_oneOf_run n 2 a0 i1 i2 σ = some (r, τ) → Dy base D cI cJ σ H → va_S (fun q => base ≤ q) s.heap H locs → lv_has ls 3 [(0, .ref (base + a0)), (1, .int i1)] → W p l e (rmD 1 0 0) s m args below meth c H locs 0 0 (MQ below (QwI base D cI cJ r τ) args s 0 0 (fun q => base ≤ q)) (F0 m 2 ls [])) ∧ (∀ {a0 : Nat} {i1 : Int32} {i2 : Int32} {σ : Sg} {r : Int32} {τ : Sg} {H : Heap} {locs : List Loc} {ls : Array Slot}, X5_oneOf_run n 15 a0 i1 i2 σ = some (r, τ) → Dy base D cI cJ σ H → va_S (fun q => base ≤ q) s.heap H locs → lv_has ls 3 [(0, .ref (base + a0)), (1, .int i1), (2, .int i2)] → W p l e (rmD 1 0 0) s m args below meth c H locs 0 0 (MQ below (QwI base D cI cJ r τ) args s 0 0 (fun q => base ≤ q)) (F0 m 15 ls [])) := by
  intro n
  induction n with
  | zero => exact ⟨fun h => (by cases h), fun h => (by cases h)⟩
  | succ n ih => exact ⟨fun h => X5_oneOf_k2 hC hr hlocks ih h, fun h => X5_oneOf_k15 hC hr hlocks ih h⟩
set_option maxRecDepth 100000 in
set_option maxHeartbeats 4000000 in
theorem c_X5_oneOf {l : Launch} {base : Nat} {D : va_G} {cI cJ : ClassId} {tS : Nat} {n : Nat} {a0 : Nat} {σ : Sg} {r : Int32} {τ : Sg} (h : f_X5_oneOf n a0 σ = some (r, τ)) : Met l yX5_oneOf (.code yX5_oneOf cX5_oneOf 3 (some .int) :: wsL_law) (rmD 1 0 0) (Pw base D cI cJ tS σ [.ref (base + a0)]) (QwI base D cI cJ r τ) 0 0 (fun q => base ≤ q) := by
  refine Met.ofW (cc := cX5_oneOf) (maxL := 3) (ret := (some .int)) (by decide) rfl ?_
  intro p e s m args below meth c s₁ B hml hv
  obtain ⟨rfl, hSt, hP⟩ := hv
  have hC : Cx p m c cX5_oneOf 3 s _ RX5 base D cI cJ tS := ⟨⟨B.exec, B.bytes, hml, findClass_of_methodNamed B.named, fun w hw => atoms_spec (ws := Cond.code yX5_oneOf cX5_oneOf 3 (some .int) :: wsL_law) B.pre w (List.mem_cons_of_mem _ hw)⟩, hSt⟩
  have hl := lv_entry ([.ref (base + a0)]) (n := 3) (Nat.le_of_ble_eq_true rfl)
  rw [lg_entry_eq]
  generalize (lg_sl ([.ref (base + a0)]) ++ List.replicate (3 - (lg_sl ([.ref (base + a0)])).length) Slot.unset).toArray = ls at hl ⊢
  exact X5_oneOf_k0 hC B.returns B.notSynchronized (X5_oneOf_all hC B.returns B.notSynchronized n) h hP va_S.rf hl
-- ===== X5_one
set_option maxRecDepth 100000 in
set_option maxHeartbeats 4000000 in
theorem X5_one_k0 (hC : Cx p m c cX5_one 3 s args RX5 base D cI cJ tS) (hr : meth.sig.returnType = (some .int)) (hlocks : meth.locks = false) {n : Nat} {a0 : Nat} {i1 : Int32} {σ : Sg} {r : Int32} {τ : Sg} {H : Heap} {locs : List Loc} {ls : Array Slot} (h : f_X5_one n a0 i1 σ = some (r, τ)) : Dy base D cI cJ σ H → va_S (fun q => base ≤ q) s.heap H locs → lv_has ls 3 [(0, .ref (base + a0)), (1, .int i1)] → W p l e (rmD 3 0 0) s m args below meth c H locs 0 0 (MQ below (QwI base D cI cJ r τ) args s 0 0 (fun q => base ≤ q)) (F0 m 0 ls []) := by
  intro hP hS hl
  obtain ⟨hx, hb, hml, hown, hts⟩ := hC.1
  unfold f_X5_one at h
  refine lv_iload_n hx hb dX5_one_0 rfl (lv_at hl 1 rfl) ?_
  refine lv_iconst (v := 0) hx hb dX5_one_1 (by decide) ?_
  refine lv_iconst (v := 1) hx hb dX5_one_2 (by decide) ?_
  obtain ⟨w_1, hw_1, h⟩ := obn h
  refine k_I (r_stat (As := [.int i1, .int 0, .int 1]) (rest := []) hC hP hS (c_X5_in (l := l) (base := base) (D := D) (cI := cI) (cJ := cJ) (tS := tS) hw_1) wl_111 wl_112 wl_113 wl_110 rfl rfl hd_X5_in ⟨Nat.le_of_ble_eq_true rfl, Nat.le_of_ble_eq_true rfl⟩ rfl hl.1 rfl (Nat.le_of_ble_eq_true rfl) dX5_one_3 ⟨Nat.le_of_ble_eq_true rfl, Nat.le_of_ble_eq_true rfl⟩) hS (fun H locs hP hS => ?_)
  refine lv_if_ne (tgt := 12) hx hb dX5_one_6 (by decide) (fun c_2 => ?_) (fun c_2 => ?_)
  · rw [if_neg c_2] at h
    refine lv_aload_n hx hb dX5_one_12 rfl (lv_at hl 0 rfl) ?_
    refine lv_bipush (v := (-6)) hx hb dX5_one_13 (by decide) ?_
    obtain ⟨u_3, hu_3, h⟩ := obn h
    obtain ⟨w_4, hw_4, h⟩ := obn h
    refine k_V (r_virt (As := [.int (-6)]) (rest := []) hC hP hS (ci := 5) rfl (by decide) hu_3 (c_X5_lay (l := l) (base := base) (D := D) (cI := cI) (cJ := cJ) (tS := tS) hw_4) wl_280 wl_281 wl_282 wl_113 wl_279 rfl rfl hd_X5_lay ⟨Nat.le_of_ble_eq_true rfl, Nat.le_of_ble_eq_true rfl⟩ rfl hl.1 rfl (Nat.le_of_ble_eq_true rfl) dX5_one_15 ⟨Nat.le_of_ble_eq_true rfl, Nat.le_of_ble_eq_true rfl⟩) hS (fun H locs hP hS => ?_)
    refine lv_aload_n hx hb dX5_one_18 rfl (lv_at hl 0 rfl) ?_
    obtain ⟨u_5, hu_5, h⟩ := obn h
    obtain ⟨w_6, hw_6, h⟩ := obn h
    refine k_I (r_virt (As := []) (rest := []) hC hP hS (ci := 5) rfl (by decide) hu_5 (c_X5_oneOf (l := l) (base := base) (D := D) (cI := cI) (cJ := cJ) (tS := tS) hw_6) wl_370 wl_371 wl_372 wl_113 wl_369 rfl rfl hd_X5_oneOf ⟨Nat.le_of_ble_eq_true rfl, Nat.le_of_ble_eq_true rfl⟩ rfl hl.1 rfl (Nat.le_of_ble_eq_true rfl) dX5_one_19 ⟨Nat.le_of_ble_eq_true rfl, Nat.le_of_ble_eq_true rfl⟩) hS (fun H locs hP hS => ?_)
    refine lv_istore_n (lv' := [(2, .int w_6.1), (0, .ref (base + a0)), (1, .int i1)]) hx hb dX5_one_22 rfl hl (by decide) rfl (fun ls hl => ?_)
    refine lv_iload_n hx hb dX5_one_23 rfl (lv_at hl 2 rfl) ?_
    refine lv_if_ne (tgt := 31) hx hb dX5_one_24 (by decide) (fun c_7 => ?_) (fun c_7 => ?_)
    · rw [if_neg c_7] at h
      refine lv_aload_n hx hb dX5_one_31 rfl (lv_at hl 1 rfl) ?_
      obtain ⟨v_8, hv_8, h⟩ := obn h
      refine w_getI (ci := 5) (j := 34) hC hP rfl inlX5 (by decide) (by decide) rfl hv_8 wl_368 dX5_one_32 ?_
      obtain ⟨rfl, rfl⟩ := Prod.mk.inj (Option.some.inj h)
      exact w_iret hC hr hlocks hP hS dX5_one_35
    · rw [if_pos c_7] at h
      refine lv_iload_n hx hb dX5_one_27 rfl (lv_at hl 0 rfl) ?_
      refine lv_goto (tgt := 35) hx hb dX5_one_28 (by decide) ?_
      obtain ⟨rfl, rfl⟩ := Prod.mk.inj (Option.some.inj h)
      exact w_iret hC hr hlocks hP hS dX5_one_35
  · rw [if_pos c_2] at h
    refine lv_bipush (v := (-2)) hx hb dX5_one_9 (by decide) ?_
    obtain ⟨rfl, rfl⟩ := Prod.mk.inj (Option.some.inj h)
    exact w_iret hC hr hlocks hP hS dX5_one_11
set_option maxRecDepth 100000 in
set_option maxHeartbeats 4000000 in
theorem c_X5_one {l : Launch} {base : Nat} {D : va_G} {cI cJ : ClassId} {tS : Nat} {n : Nat} {a0 : Nat} {i1 : Int32} {σ : Sg} {r : Int32} {τ : Sg} (h : f_X5_one n a0 i1 σ = some (r, τ)) : Met l yX5_one (.code yX5_one cX5_one 3 (some .int) :: wsL_law) (rmD 3 0 0) (Pw base D cI cJ tS σ [.ref (base + a0), .int i1]) (QwI base D cI cJ r τ) 0 0 (fun q => base ≤ q) := by
  refine Met.ofW (cc := cX5_one) (maxL := 3) (ret := (some .int)) (by decide) rfl ?_
  intro p e s m args below meth c s₁ B hml hv
  obtain ⟨rfl, hSt, hP⟩ := hv
  have hC : Cx p m c cX5_one 3 s _ RX5 base D cI cJ tS := ⟨⟨B.exec, B.bytes, hml, findClass_of_methodNamed B.named, fun w hw => atoms_spec (ws := Cond.code yX5_one cX5_one 3 (some .int) :: wsL_law) B.pre w (List.mem_cons_of_mem _ hw)⟩, hSt⟩
  have hl := lv_entry ([.ref (base + a0), .int i1]) (n := 3) (Nat.le_of_ble_eq_true rfl)
  rw [lg_entry_eq]
  generalize (lg_sl ([.ref (base + a0), .int i1]) ++ List.replicate (3 - (lg_sl ([.ref (base + a0), .int i1])).length) Slot.unset).toArray = ls at hl ⊢
  exact X5_one_k0 hC B.returns B.notSynchronized h hP va_S.rf hl
-- ===== X4_began
set_option maxRecDepth 100000 in
set_option maxHeartbeats 4000000 in
theorem X4_began_k82 (hC : Cx p m c cX4_began 3 s args RX4 base D cI cJ tS) (hr : meth.sig.returnType = (some .int)) (hlocks : meth.locks = false) {n : Nat} (ih : (∀ {a0 : Nat} {i1 : Int32} {i2 : Int32} {σ : Sg} {r : Int32} {τ : Sg} {H : Heap} {locs : List Loc} {ls : Array Slot}, X4_began_run n a0 i1 i2 σ = some (r, τ) → Dy base D cI cJ σ H → va_S (fun q => base ≤ q) s.heap H locs → lv_has ls 3 [(0, .ref (base + a0)), (1, .int i1), (2, .int i2)] → W p l e (rmD 7 0 0) s m args below meth c H locs 0 0 (MQ below (QwI base D cI cJ r τ) args s 0 0 (fun q => base ≤ q)) (F0 m 22 ls []))) {a0 : Nat} {i1 : Int32} {i2 : Int32} {σ : Sg} {r : Int32} {τ : Sg} {H : Heap} {locs : List Loc} {ls : Array Slot} (h : X4_began_b82 n (X4_began_run n) a0 i1 i2 σ = some (r, τ)) : Dy base D cI cJ σ H → va_S (fun q => base ≤ q) s.heap H locs → lv_has ls 3 [(0, .ref (base + a0)), (1, .int i1), (2, .int i2)] → W p l e (rmD 7 0 0) s m args below meth c H locs 0 0 (MQ below (QwI base D cI cJ r τ) args s 0 0 (fun q => base ≤ q)) (F0 m 82 ls []) := by
  intro hP hS hl
  obtain ⟨hx, hb, hml, hown, hts⟩ := hC.1
  unfold X4_began_b82 at h
  obtain ⟨i2_1, hi2_1, h⟩ := obn h
  refine lv_iinc (v := i2_1) (lv' := [(2, .int i2_1), (0, .ref (base + a0)), (1, .int i1)]) hx hb dX4_began_82 hl (k := 2) rfl (Option.some.inj hi2_1) (by decide) rfl (fun ls hl => ?_)
  refine lv_goto (tgt := 22) hx hb dX4_began_85 (by decide) ?_
  exact ih h hP hS (lv_sub hl [1, 2, 0] rfl)
set_option maxRecDepth 100000 in
set_option maxHeartbeats 4000000 in
theorem X4_began_k22 (hC : Cx p m c cX4_began 3 s args RX4 base D cI cJ tS) (hr : meth.sig.returnType = (some .int)) (hlocks : meth.locks = false) {n : Nat} (ih : (∀ {a0 : Nat} {i1 : Int32} {i2 : Int32} {σ : Sg} {r : Int32} {τ : Sg} {H : Heap} {locs : List Loc} {ls : Array Slot}, X4_began_run n a0 i1 i2 σ = some (r, τ) → Dy base D cI cJ σ H → va_S (fun q => base ≤ q) s.heap H locs → lv_has ls 3 [(0, .ref (base + a0)), (1, .int i1), (2, .int i2)] → W p l e (rmD 7 0 0) s m args below meth c H locs 0 0 (MQ below (QwI base D cI cJ r τ) args s 0 0 (fun q => base ≤ q)) (F0 m 22 ls []))) {a0 : Nat} {i1 : Int32} {i2 : Int32} {σ : Sg} {r : Int32} {τ : Sg} {H : Heap} {locs : List Loc} {ls : Array Slot} (h : X4_began_b22 n (X4_began_run n) a0 i1 i2 σ = some (r, τ)) : Dy base D cI cJ σ H → va_S (fun q => base ≤ q) s.heap H locs → lv_has ls 3 [(0, .ref (base + a0)), (1, .int i1), (2, .int i2)] → W p l e (rmD 7 0 0) s m args below meth c H locs 0 0 (MQ below (QwI base D cI cJ r τ) args s 0 0 (fun q => base ≤ q)) (F0 m 22 ls []) := by
  intro hP hS hl
  obtain ⟨hx, hb, hml, hown, hts⟩ := hC.1
  unfold X4_began_b22 at h
  refine lv_iload_n hx hb dX4_began_22 rfl (lv_at hl 2 rfl) ?_
  refine lv_aload_n hx hb dX4_began_23 rfl (lv_at hl 0 rfl) ?_
  obtain ⟨q_2, hq_2, h⟩ := obn h
  refine w_getR (ci := 4) (j := 0) hC hP rfl inlX4 (by decide) (by decide) rfl hq_2 wl_43 dX4_began_24 ?_
  obtain ⟨v_3, hv_3, h⟩ := obn h
  refine w_getI (ci := 1) (j := 11) hC hP rfl inlX1 (by decide) (by decide) rfl hv_3 wl_135 dX4_began_27 ?_
  refine lv_icmp_ge (tgt := 88) hx hb dX4_began_30 (by decide) (fun c_4 => ?_) (fun c_4 => ?_)
  · rw [if_pos c_4] at h
    refine lv_iload_n hx hb dX4_began_88 rfl (lv_at hl 1 rfl) ?_
    obtain ⟨rfl, rfl⟩ := Prod.mk.inj (Option.some.inj h)
    exact w_iret hC hr hlocks hP hS dX4_began_89
  · rw [if_neg c_4] at h
    refine lv_aload_n hx hb dX4_began_33 rfl (lv_at hl 0 rfl) ?_
    obtain ⟨q_5, hq_5, h⟩ := obn h
    refine w_getR (ci := 4) (j := 3) hC hP rfl inlX4 (by decide) (by decide) rfl hq_5 wl_56 dX4_began_34 ?_
    refine lv_aload_n hx hb dX4_began_37 rfl (lv_at hl 0 rfl) ?_
    obtain ⟨q_6, hq_6, h⟩ := obn h
    refine w_getR (ci := 4) (j := 0) hC hP rfl inlX4 (by decide) (by decide) rfl hq_6 wl_43 dX4_began_38 ?_
    refine lv_iload_n hx hb dX4_began_41 rfl (lv_at hl 2 rfl) ?_
    obtain ⟨u_7, hu_7, h⟩ := obn h
    obtain ⟨w_8, hw_8, h⟩ := obn h
    refine k_V (r_virt (As := [.ref (base + q_6), .int i2]) (rest := []) hC hP hS (ci := 0) rfl (by decide) hu_7 (c_X0_layLatenesses (l := l) (base := base) (D := D) (cI := cI) (cJ := cJ) (tS := tS) hw_8) wl_236 wl_237 wl_238 wl_52 wl_235 rfl rfl hd_X0_layLatenesses ⟨Nat.le_of_ble_eq_true rfl, Nat.le_of_ble_eq_true rfl⟩ rfl hl.1 rfl (Nat.le_of_ble_eq_true rfl) dX4_began_42 ⟨Nat.le_of_ble_eq_true rfl, Nat.le_of_ble_eq_true rfl⟩) hS (fun H locs hP hS => ?_)
    refine lv_aload_n hx hb dX4_began_45 rfl (lv_at hl 0 rfl) ?_
    obtain ⟨q_9, hq_9, h⟩ := obn h
    refine w_getR (ci := 4) (j := 3) hC hP rfl inlX4 (by decide) (by decide) rfl hq_9 wl_56 dX4_began_46 ?_
    refine lv_aload_n hx hb dX4_began_49 rfl (lv_at hl 0 rfl) ?_
    obtain ⟨q_10, hq_10, h⟩ := obn h
    refine w_getR (ci := 4) (j := 0) hC hP rfl inlX4 (by decide) (by decide) rfl hq_10 wl_43 dX4_began_50 ?_
    refine lv_aload_n hx hb dX4_began_53 rfl (lv_at hl 0 rfl) ?_
    obtain ⟨q_11, hq_11, h⟩ := obn h
    refine w_getR (ci := 4) (j := 4) hC hP rfl inlX4 (by decide) (by decide) rfl hq_11 wl_62 dX4_began_54 ?_
    obtain ⟨u_12, hu_12, h⟩ := obn h
    obtain ⟨w_13, hw_13, h⟩ := obn h
    refine k_V (r_virt (As := [.ref (base + q_10), .ref (base + q_11)]) (rest := []) hC hP hS (ci := 0) rfl (by decide) hu_12 (c_X0_play (l := l) (base := base) (D := D) (cI := cI) (cJ := cJ) (tS := tS) hw_13) wl_240 wl_241 wl_242 wl_52 wl_239 rfl rfl hd_X0_play ⟨Nat.le_of_ble_eq_true rfl, Nat.le_of_ble_eq_true rfl⟩ rfl hl.1 rfl (Nat.le_of_ble_eq_true rfl) dX4_began_57 ⟨Nat.le_of_ble_eq_true rfl, Nat.le_of_ble_eq_true rfl⟩) hS (fun H locs hP hS => ?_)
    refine lv_aload_n hx hb dX4_began_60 rfl (lv_at hl 0 rfl) ?_
    obtain ⟨q_14, hq_14, h⟩ := obn h
    refine w_getR (ci := 4) (j := 3) hC hP rfl inlX4 (by decide) (by decide) rfl hq_14 wl_56 dX4_began_61 ?_
    refine lv_aload_n hx hb dX4_began_64 rfl (lv_at hl 0 rfl) ?_
    obtain ⟨q_15, hq_15, h⟩ := obn h
    refine w_getR (ci := 4) (j := 0) hC hP rfl inlX4 (by decide) (by decide) rfl hq_15 wl_43 dX4_began_65 ?_
    obtain ⟨u_16, hu_16, h⟩ := obn h
    obtain ⟨w_17, hw_17, h⟩ := obn h
    refine k_I (r_virt (As := [.ref (base + q_15)]) (rest := []) hC hP hS (ci := 0) rfl (by decide) hu_16 (c_X0_firstCloseStop (l := l) (base := base) (D := D) (cI := cI) (cJ := cJ) (tS := tS) hw_17) wl_364 wl_365 wl_366 wl_52 wl_363 rfl rfl hd_X0_firstCloseStop ⟨Nat.le_of_ble_eq_true rfl, Nat.le_of_ble_eq_true rfl⟩ rfl hl.1 rfl (Nat.le_of_ble_eq_true rfl) dX4_began_68 ⟨Nat.le_of_ble_eq_true rfl, Nat.le_of_ble_eq_true rfl⟩) hS (fun H locs hP hS => ?_)
    refine lv_bipush (v := (-6)) hx hb dX4_began_71 (by decide) ?_
    refine lv_icmp_ne (tgt := 82) hx hb dX4_began_73 (by decide) (fun c_18 => ?_) (fun c_18 => ?_)
    · rw [if_neg c_18] at h
      exact X4_began_k82 hC hr hlocks ih h hP hS (lv_sub hl [0, 1, 2] rfl)
    · rw [if_pos c_18] at h
      refine lv_iload_n hx hb dX4_began_76 rfl (lv_at hl 1 rfl) ?_
      refine lv_iconst (v := 1) hx hb dX4_began_77 (by decide) ?_
      refine lv_iload_n hx hb dX4_began_78 rfl (lv_at hl 2 rfl) ?_
      refine lv_ishl hx hb dX4_began_79 ?_
      refine lv_ior hx hb dX4_began_80 ?_
      obtain ⟨i1_19, hi1_19, h⟩ := obn h
      refine w_eqi (Option.some.inj hi1_19) ?_
      refine lv_istore_n (lv' := [(1, .int i1_19), (0, .ref (base + a0)), (2, .int i2)]) hx hb dX4_began_81 rfl hl (by decide) rfl (fun ls hl => ?_)
      exact X4_began_k82 hC hr hlocks ih h hP hS (lv_sub hl [1, 0, 2] rfl)
set_option maxRecDepth 100000 in
set_option maxHeartbeats 4000000 in
theorem X4_began_k0 (hC : Cx p m c cX4_began 3 s args RX4 base D cI cJ tS) (hr : meth.sig.returnType = (some .int)) (hlocks : meth.locks = false) {n : Nat} (ih : (∀ {a0 : Nat} {i1 : Int32} {i2 : Int32} {σ : Sg} {r : Int32} {τ : Sg} {H : Heap} {locs : List Loc} {ls : Array Slot}, X4_began_run n a0 i1 i2 σ = some (r, τ) → Dy base D cI cJ σ H → va_S (fun q => base ≤ q) s.heap H locs → lv_has ls 3 [(0, .ref (base + a0)), (1, .int i1), (2, .int i2)] → W p l e (rmD 7 0 0) s m args below meth c H locs 0 0 (MQ below (QwI base D cI cJ r τ) args s 0 0 (fun q => base ≤ q)) (F0 m 22 ls []))) {a0 : Nat} {σ : Sg} {r : Int32} {τ : Sg} {H : Heap} {locs : List Loc} {ls : Array Slot} (h : X4_began_b0 n (X4_began_run n) a0 σ = some (r, τ)) : Dy base D cI cJ σ H → va_S (fun q => base ≤ q) s.heap H locs → lv_has ls 3 [(0, .ref (base + a0))] → W p l e (rmD 7 0 0) s m args below meth c H locs 0 0 (MQ below (QwI base D cI cJ r τ) args s 0 0 (fun q => base ≤ q)) (F0 m 0 ls []) := by
  intro hP hS hl
  obtain ⟨hx, hb, hml, hown, hts⟩ := hC.1
  unfold X4_began_b0 at h
  refine lv_aload_n hx hb dX4_began_0 rfl (lv_at hl 0 rfl) ?_
  obtain ⟨u_20, hu_20, h⟩ := obn h
  obtain ⟨w_21, hw_21, h⟩ := obn h
  refine k_A (r_virt (As := []) (rest := []) hC hP hS (ci := 4) rfl (by decide) hu_20 (c_X4_presentCourse (l := l) (base := base) (D := D) (cI := cI) (cJ := cJ) (tS := tS) hw_21) wl_248 wl_249 wl_250 wl_98 wl_247 rfl rfl hd_X4_presentCourse ⟨Nat.le_of_ble_eq_true rfl, Nat.le_of_ble_eq_true rfl⟩ rfl hl.1 rfl (Nat.le_of_ble_eq_true rfl) dX4_began_1 ⟨Nat.le_of_ble_eq_true rfl, Nat.le_of_ble_eq_true rfl⟩) hS (fun H locs hP hS => ?_)
  refine lv_aload_n hx hb dX4_began_4 rfl (lv_at hl 0 rfl) ?_
  obtain ⟨q_22, hq_22, h⟩ := obn h
  refine w_getR (ci := 4) (j := 0) hC hP rfl inlX4 (by decide) (by decide) rfl hq_22 wl_43 dX4_began_5 ?_
  obtain ⟨u_23, hu_23, h⟩ := obn h
  obtain ⟨w_24, hw_24, h⟩ := obn h
  refine k_I (r_virt (As := [.ref (base + q_22)]) (rest := []) hC hP hS (ci := 0) rfl (by decide) hu_23 (c_X0_firstCloseStop (l := l) (base := base) (D := D) (cI := cI) (cJ := cJ) (tS := tS) hw_24) wl_364 wl_365 wl_366 wl_52 wl_363 rfl rfl hd_X0_firstCloseStop ⟨Nat.le_of_ble_eq_true rfl, Nat.le_of_ble_eq_true rfl⟩ rfl hl.1 rfl (Nat.le_of_ble_eq_true rfl) dX4_began_8 ⟨Nat.le_of_ble_eq_true rfl, Nat.le_of_ble_eq_true rfl⟩) hS (fun H locs hP hS => ?_)
  refine lv_bipush (v := (-6)) hx hb dX4_began_11 (by decide) ?_
  refine lv_icmp_ne (tgt := 18) hx hb dX4_began_13 (by decide) (fun c_25 => ?_) (fun c_25 => ?_)
  · rw [if_neg c_25] at h
    refine lv_iconst (v := 0) hx hb dX4_began_18 (by decide) ?_
    refine lv_istore_n (lv' := [(1, .int 0), (0, .ref (base + a0))]) hx hb dX4_began_19 rfl hl (by decide) rfl (fun ls hl => ?_)
    refine lv_iconst (v := 0) hx hb dX4_began_20 (by decide) ?_
    refine lv_istore_n (lv' := [(2, .int 0), (1, .int 0), (0, .ref (base + a0))]) hx hb dX4_began_21 rfl hl (by decide) rfl (fun ls hl => ?_)
    exact ih h hP hS (lv_sub hl [2, 1, 0] rfl)
  · rw [if_pos c_25] at h
    refine lv_iconst (v := 0) hx hb dX4_began_16 (by decide) ?_
    obtain ⟨rfl, rfl⟩ := Prod.mk.inj (Option.some.inj h)
    exact w_iret hC hr hlocks hP hS dX4_began_17
set_option maxRecDepth 100000 in
set_option maxHeartbeats 4000000 in
theorem X4_began_all (hC : Cx p m c cX4_began 3 s args RX4 base D cI cJ tS) (hr : meth.sig.returnType = (some .int)) (hlocks : meth.locks = false) : ∀ n : Nat, (∀ {a0 : Nat} {i1 : Int32} {i2 : Int32} {σ : Sg} {r : Int32} {τ : Sg} {H : Heap} {locs : List Loc} {ls : Array Slot}, X4_began_run n a0 i1 i2 σ = some (r, τ) → Dy base D cI cJ σ H → va_S (fun q => base ≤ q) s.heap H locs → lv_has ls 3 [(0, .ref (base + a0)), (1, .int i1), (2, .int i2)] → W p l e (rmD 7 0 0) s m args below meth c H locs 0 0 (MQ below (QwI base D cI cJ r τ) args s 0 0 (fun q => base ≤ q)) (F0 m 22 ls [])) := by
  intro n
  induction n with
  | zero => exact fun h => (by cases h)
  | succ n ih => exact fun h => X4_began_k22 hC hr hlocks ih h
set_option maxRecDepth 100000 in
set_option maxHeartbeats 4000000 in
theorem c_X4_began {l : Launch} {base : Nat} {D : va_G} {cI cJ : ClassId} {tS : Nat} {n : Nat} {a0 : Nat} {σ : Sg} {r : Int32} {τ : Sg} (h : f_X4_began n a0 σ = some (r, τ)) : Met l yX4_began (.code yX4_began cX4_began 3 (some .int) :: wsL_law) (rmD 7 0 0) (Pw base D cI cJ tS σ [.ref (base + a0)]) (QwI base D cI cJ r τ) 0 0 (fun q => base ≤ q) := by
  refine Met.ofW (cc := cX4_began) (maxL := 3) (ret := (some .int)) (by decide) rfl ?_
  intro p e s m args below meth c s₁ B hml hv
  obtain ⟨rfl, hSt, hP⟩ := hv
  have hC : Cx p m c cX4_began 3 s _ RX4 base D cI cJ tS := ⟨⟨B.exec, B.bytes, hml, findClass_of_methodNamed B.named, fun w hw => atoms_spec (ws := Cond.code yX4_began cX4_began 3 (some .int) :: wsL_law) B.pre w (List.mem_cons_of_mem _ hw)⟩, hSt⟩
  have hl := lv_entry ([.ref (base + a0)]) (n := 3) (Nat.le_of_ble_eq_true rfl)
  rw [lg_entry_eq]
  generalize (lg_sl ([.ref (base + a0)]) ++ List.replicate (3 - (lg_sl ([.ref (base + a0)])).length) Slot.unset).toArray = ls at hl ⊢
  exact X4_began_k0 hC B.returns B.notSynchronized (X4_began_all hC B.returns B.notSynchronized n) h hP va_S.rf hl
-- ===== X5_began
set_option maxRecDepth 100000 in
set_option maxHeartbeats 4000000 in
theorem X5_began_k47 (hC : Cx p m c cX5_began 3 s args RX5 base D cI cJ tS) (hr : meth.sig.returnType = (some .int)) (hlocks : meth.locks = false) {n : Nat} (ih : (∀ {a0 : Nat} {i1 : Int32} {i2 : Int32} {σ : Sg} {r : Int32} {τ : Sg} {H : Heap} {locs : List Loc} {ls : Array Slot}, X5_began_run n a0 i1 i2 σ = some (r, τ) → Dy base D cI cJ σ H → va_S (fun q => base ≤ q) s.heap H locs → lv_has ls 3 [(0, .ref (base + a0)), (1, .int i1), (2, .int i2)] → W p l e (rmD 3 0 0) s m args below meth c H locs 0 0 (MQ below (QwI base D cI cJ r τ) args s 0 0 (fun q => base ≤ q)) (F0 m 19 ls []))) {a0 : Nat} {i2 : Int32} {ti0 : Int32} {ti1 : Int32} {σ : Sg} {r : Int32} {τ : Sg} {H : Heap} {locs : List Loc} {ls : Array Slot} (h : X5_began_b47 n (X5_began_run n) a0 i2 ti0 ti1 σ = some (r, τ)) : Dy base D cI cJ σ H → va_S (fun q => base ≤ q) s.heap H locs → lv_has ls 3 [(0, .ref (base + a0)), (2, .int i2)] → W p l e (rmD 3 0 0) s m args below meth c H locs 0 0 (MQ below (QwI base D cI cJ r τ) args s 0 0 (fun q => base ≤ q)) (F0 m 47 ls [.int ti1, .int ti0]) := by
  intro hP hS hl
  obtain ⟨hx, hb, hml, hown, hts⟩ := hC.1
  unfold X5_began_b47 at h
  refine lv_ior hx hb dX5_began_47 ?_
  obtain ⟨i1_1, hi1_1, h⟩ := obn h
  refine w_eqi (Option.some.inj hi1_1) ?_
  refine lv_istore_n (lv' := [(1, .int i1_1), (0, .ref (base + a0)), (2, .int i2)]) hx hb dX5_began_48 rfl hl (by decide) rfl (fun ls hl => ?_)
  obtain ⟨i2_2, hi2_2, h⟩ := obn h
  refine lv_iinc (v := i2_2) (lv' := [(2, .int i2_2), (1, .int i1_1), (0, .ref (base + a0))]) hx hb dX5_began_49 hl (k := 2) rfl (Option.some.inj hi2_2) (by decide) rfl (fun ls hl => ?_)
  refine lv_goto (tgt := 19) hx hb dX5_began_52 (by decide) ?_
  exact ih h hP hS (lv_sub hl [2, 1, 0] rfl)
set_option maxRecDepth 100000 in
set_option maxHeartbeats 4000000 in
theorem X5_began_k19 (hC : Cx p m c cX5_began 3 s args RX5 base D cI cJ tS) (hr : meth.sig.returnType = (some .int)) (hlocks : meth.locks = false) {n : Nat} (ih : (∀ {a0 : Nat} {i1 : Int32} {i2 : Int32} {σ : Sg} {r : Int32} {τ : Sg} {H : Heap} {locs : List Loc} {ls : Array Slot}, X5_began_run n a0 i1 i2 σ = some (r, τ) → Dy base D cI cJ σ H → va_S (fun q => base ≤ q) s.heap H locs → lv_has ls 3 [(0, .ref (base + a0)), (1, .int i1), (2, .int i2)] → W p l e (rmD 3 0 0) s m args below meth c H locs 0 0 (MQ below (QwI base D cI cJ r τ) args s 0 0 (fun q => base ≤ q)) (F0 m 19 ls []))) {a0 : Nat} {i1 : Int32} {i2 : Int32} {σ : Sg} {r : Int32} {τ : Sg} {H : Heap} {locs : List Loc} {ls : Array Slot} (h : X5_began_b19 n (X5_began_run n) a0 i1 i2 σ = some (r, τ)) : Dy base D cI cJ σ H → va_S (fun q => base ≤ q) s.heap H locs → lv_has ls 3 [(0, .ref (base + a0)), (1, .int i1), (2, .int i2)] → W p l e (rmD 3 0 0) s m args below meth c H locs 0 0 (MQ below (QwI base D cI cJ r τ) args s 0 0 (fun q => base ≤ q)) (F0 m 19 ls []) := by
  intro hP hS hl
  obtain ⟨hx, hb, hml, hown, hts⟩ := hC.1
  unfold X5_began_b19 at h
  refine lv_iload_n hx hb dX5_began_19 rfl (lv_at hl 2 rfl) ?_
  refine lv_aload_n hx hb dX5_began_20 rfl (lv_at hl 0 rfl) ?_
  obtain ⟨v_3, hv_3, h⟩ := obn h
  refine w_getI (ci := 5) (j := 8) hC hP rfl inlX5 (by decide) (by decide) rfl hv_3 wl_144 dX5_began_21 ?_
  refine lv_icmp_ge (tgt := 55) hx hb dX5_began_24 (by decide) (fun c_4 => ?_) (fun c_4 => ?_)
  · rw [if_pos c_4] at h
    refine lv_iload_n hx hb dX5_began_55 rfl (lv_at hl 1 rfl) ?_
    obtain ⟨rfl, rfl⟩ := Prod.mk.inj (Option.some.inj h)
    exact w_iret hC hr hlocks hP hS dX5_began_56
  · rw [if_neg c_4] at h
    refine lv_aload_n hx hb dX5_began_27 rfl (lv_at hl 0 rfl) ?_
    refine lv_iload_n hx hb dX5_began_28 rfl (lv_at hl 2 rfl) ?_
    obtain ⟨u_5, hu_5, h⟩ := obn h
    obtain ⟨w_6, hw_6, h⟩ := obn h
    refine k_V (r_virt (As := [.int i2]) (rest := []) hC hP hS (ci := 5) rfl (by decide) hu_5 (c_X5_lay (l := l) (base := base) (D := D) (cI := cI) (cJ := cJ) (tS := tS) hw_6) wl_280 wl_281 wl_282 wl_113 wl_279 rfl rfl hd_X5_lay ⟨Nat.le_of_ble_eq_true rfl, Nat.le_of_ble_eq_true rfl⟩ rfl hl.1 rfl (Nat.le_of_ble_eq_true rfl) dX5_began_29 ⟨Nat.le_of_ble_eq_true rfl, Nat.le_of_ble_eq_true rfl⟩) hS (fun H locs hP hS => ?_)
    refine lv_iload_n hx hb dX5_began_32 rfl (lv_at hl 1 rfl) ?_
    refine lv_aload_n hx hb dX5_began_33 rfl (lv_at hl 0 rfl) ?_
    obtain ⟨u_7, hu_7, h⟩ := obn h
    obtain ⟨w_8, hw_8, h⟩ := obn h
    refine k_I (r_virt (As := []) (rest := [.int i1]) hC hP hS (ci := 5) rfl (by decide) hu_7 (c_X5_oneOf (l := l) (base := base) (D := D) (cI := cI) (cJ := cJ) (tS := tS) hw_8) wl_370 wl_371 wl_372 wl_113 wl_369 rfl rfl hd_X5_oneOf ⟨Nat.le_of_ble_eq_true rfl, Nat.le_of_ble_eq_true rfl⟩ rfl hl.1 rfl (Nat.le_of_ble_eq_true rfl) dX5_began_34 ⟨Nat.le_of_ble_eq_true rfl, Nat.le_of_ble_eq_true rfl⟩) hS (fun H locs hP hS => ?_)
    refine lv_if_ge (tgt := 46) hx hb dX5_began_37 (by decide) (fun c_9 => ?_) (fun c_9 => ?_)
    · rw [if_pos c_9] at h
      refine lv_iconst (v := 0) hx hb dX5_began_46 (by decide) ?_
      exact X5_began_k47 hC hr hlocks ih h hP hS (lv_sub hl [0, 2] rfl)
    · rw [if_neg c_9] at h
      refine lv_iconst (v := 1) hx hb dX5_began_40 (by decide) ?_
      refine lv_iload_n hx hb dX5_began_41 rfl (lv_at hl 2 rfl) ?_
      refine lv_ishl hx hb dX5_began_42 ?_
      refine lv_goto (tgt := 47) hx hb dX5_began_43 (by decide) ?_
      exact X5_began_k47 hC hr hlocks ih h hP hS (lv_sub hl [0, 2] rfl)
set_option maxRecDepth 100000 in
set_option maxHeartbeats 4000000 in
theorem X5_began_k0 (hC : Cx p m c cX5_began 3 s args RX5 base D cI cJ tS) (hr : meth.sig.returnType = (some .int)) (hlocks : meth.locks = false) {n : Nat} (ih : (∀ {a0 : Nat} {i1 : Int32} {i2 : Int32} {σ : Sg} {r : Int32} {τ : Sg} {H : Heap} {locs : List Loc} {ls : Array Slot}, X5_began_run n a0 i1 i2 σ = some (r, τ) → Dy base D cI cJ σ H → va_S (fun q => base ≤ q) s.heap H locs → lv_has ls 3 [(0, .ref (base + a0)), (1, .int i1), (2, .int i2)] → W p l e (rmD 3 0 0) s m args below meth c H locs 0 0 (MQ below (QwI base D cI cJ r τ) args s 0 0 (fun q => base ≤ q)) (F0 m 19 ls []))) {a0 : Nat} {σ : Sg} {r : Int32} {τ : Sg} {H : Heap} {locs : List Loc} {ls : Array Slot} (h : X5_began_b0 n (X5_began_run n) a0 σ = some (r, τ)) : Dy base D cI cJ σ H → va_S (fun q => base ≤ q) s.heap H locs → lv_has ls 3 [(0, .ref (base + a0))] → W p l e (rmD 3 0 0) s m args below meth c H locs 0 0 (MQ below (QwI base D cI cJ r τ) args s 0 0 (fun q => base ≤ q)) (F0 m 0 ls []) := by
  intro hP hS hl
  obtain ⟨hx, hb, hml, hown, hts⟩ := hC.1
  unfold X5_began_b0 at h
  refine lv_aload_n hx hb dX5_began_0 rfl (lv_at hl 0 rfl) ?_
  refine lv_bipush (v := (-6)) hx hb dX5_began_1 (by decide) ?_
  obtain ⟨u_10, hu_10, h⟩ := obn h
  obtain ⟨w_11, hw_11, h⟩ := obn h
  refine k_V (r_virt (As := [.int (-6)]) (rest := []) hC hP hS (ci := 5) rfl (by decide) hu_10 (c_X5_lay (l := l) (base := base) (D := D) (cI := cI) (cJ := cJ) (tS := tS) hw_11) wl_280 wl_281 wl_282 wl_113 wl_279 rfl rfl hd_X5_lay ⟨Nat.le_of_ble_eq_true rfl, Nat.le_of_ble_eq_true rfl⟩ rfl hl.1 rfl (Nat.le_of_ble_eq_true rfl) dX5_began_3 ⟨Nat.le_of_ble_eq_true rfl, Nat.le_of_ble_eq_true rfl⟩) hS (fun H locs hP hS => ?_)
  refine lv_aload_n hx hb dX5_began_6 rfl (lv_at hl 0 rfl) ?_
  obtain ⟨u_12, hu_12, h⟩ := obn h
  obtain ⟨w_13, hw_13, h⟩ := obn h
  refine k_I (r_virt (As := []) (rest := []) hC hP hS (ci := 5) rfl (by decide) hu_12 (c_X5_oneOf (l := l) (base := base) (D := D) (cI := cI) (cJ := cJ) (tS := tS) hw_13) wl_370 wl_371 wl_372 wl_113 wl_369 rfl rfl hd_X5_oneOf ⟨Nat.le_of_ble_eq_true rfl, Nat.le_of_ble_eq_true rfl⟩ rfl hl.1 rfl (Nat.le_of_ble_eq_true rfl) dX5_began_7 ⟨Nat.le_of_ble_eq_true rfl, Nat.le_of_ble_eq_true rfl⟩) hS (fun H locs hP hS => ?_)
  refine lv_if_ge (tgt := 15) hx hb dX5_began_10 (by decide) (fun c_14 => ?_) (fun c_14 => ?_)
  · rw [if_pos c_14] at h
    refine lv_iconst (v := 0) hx hb dX5_began_15 (by decide) ?_
    refine lv_istore_n (lv' := [(1, .int 0), (0, .ref (base + a0))]) hx hb dX5_began_16 rfl hl (by decide) rfl (fun ls hl => ?_)
    refine lv_iconst (v := 0) hx hb dX5_began_17 (by decide) ?_
    refine lv_istore_n (lv' := [(2, .int 0), (1, .int 0), (0, .ref (base + a0))]) hx hb dX5_began_18 rfl hl (by decide) rfl (fun ls hl => ?_)
    exact ih h hP hS (lv_sub hl [2, 1, 0] rfl)
  · rw [if_neg c_14] at h
    refine lv_iconst (v := 0) hx hb dX5_began_13 (by decide) ?_
    obtain ⟨rfl, rfl⟩ := Prod.mk.inj (Option.some.inj h)
    exact w_iret hC hr hlocks hP hS dX5_began_14
set_option maxRecDepth 100000 in
set_option maxHeartbeats 4000000 in
theorem X5_began_all (hC : Cx p m c cX5_began 3 s args RX5 base D cI cJ tS) (hr : meth.sig.returnType = (some .int)) (hlocks : meth.locks = false) : ∀ n : Nat, (∀ {a0 : Nat} {i1 : Int32} {i2 : Int32} {σ : Sg} {r : Int32} {τ : Sg} {H : Heap} {locs : List Loc} {ls : Array Slot}, X5_began_run n a0 i1 i2 σ = some (r, τ) → Dy base D cI cJ σ H → va_S (fun q => base ≤ q) s.heap H locs → lv_has ls 3 [(0, .ref (base + a0)), (1, .int i1), (2, .int i2)] → W p l e (rmD 3 0 0) s m args below meth c H locs 0 0 (MQ below (QwI base D cI cJ r τ) args s 0 0 (fun q => base ≤ q)) (F0 m 19 ls [])) := by
  intro n
  induction n with
  | zero => exact fun h => (by cases h)
  | succ n ih => exact fun h => X5_began_k19 hC hr hlocks ih h
set_option maxRecDepth 100000 in
set_option maxHeartbeats 4000000 in
theorem c_X5_began {l : Launch} {base : Nat} {D : va_G} {cI cJ : ClassId} {tS : Nat} {n : Nat} {a0 : Nat} {σ : Sg} {r : Int32} {τ : Sg} (h : f_X5_began n a0 σ = some (r, τ)) : Met l yX5_began (.code yX5_began cX5_began 3 (some .int) :: wsL_law) (rmD 3 0 0) (Pw base D cI cJ tS σ [.ref (base + a0)]) (QwI base D cI cJ r τ) 0 0 (fun q => base ≤ q) := by
  refine Met.ofW (cc := cX5_began) (maxL := 3) (ret := (some .int)) (by decide) rfl ?_
  intro p e s m args below meth c s₁ B hml hv
  obtain ⟨rfl, hSt, hP⟩ := hv
  have hC : Cx p m c cX5_began 3 s _ RX5 base D cI cJ tS := ⟨⟨B.exec, B.bytes, hml, findClass_of_methodNamed B.named, fun w hw => atoms_spec (ws := Cond.code yX5_began cX5_began 3 (some .int) :: wsL_law) B.pre w (List.mem_cons_of_mem _ hw)⟩, hSt⟩
  have hl := lv_entry ([.ref (base + a0)]) (n := 3) (Nat.le_of_ble_eq_true rfl)
  rw [lg_entry_eq]
  generalize (lg_sl ([.ref (base + a0)]) ++ List.replicate (3 - (lg_sl ([.ref (base + a0)])).length) Slot.unset).toArray = ls at hl ⊢
  exact X5_began_k0 hC B.returns B.notSynchronized (X5_began_all hC B.returns B.notSynchronized n) h hP va_S.rf hl
-- ===== X0_spreadOfGaps
set_option maxRecDepth 100000 in
set_option maxHeartbeats 4000000 in
theorem X0_spreadOfGaps_k30 (hC : Cx p m c cX0_spreadOfGaps 8 s args RX0 base D cI cJ tS) (hr : meth.sig.returnType = (some .int)) (hlocks : meth.locks = false) {n : Nat} (ih : (∀ {a0 : Nat} {i2 : Int32} {i3 : Int32} {i4 : Int32} {i5 : Int32} {i6 : Int32} {σ : Sg} {r : Int32} {τ : Sg} {H : Heap} {locs : List Loc} {ls : Array Slot}, X0_spreadOfGaps_run n a0 i2 i3 i4 i5 i6 σ = some (r, τ) → Dy base D cI cJ σ H → va_S (fun q => base ≤ q) s.heap H locs → lv_has ls 8 [(0, .ref (base + a0)), (2, .int i2), (3, .int i3), (4, .int i4), (5, .int i5), (6, .int i6)] → W p l e (rmD 3 0 0) s m args below meth c H locs 0 0 (MQ below (QwI base D cI cJ r τ) args s 0 0 (fun q => base ≤ q)) (F0 m 30 ls []))) {a0 : Nat} {i2 : Int32} {i3 : Int32} {i4 : Int32} {i5 : Int32} {i6 : Int32} {σ : Sg} {r : Int32} {τ : Sg} {H : Heap} {locs : List Loc} {ls : Array Slot} (h : X0_spreadOfGaps_b30 n (X0_spreadOfGaps_run n) a0 i2 i3 i4 i5 i6 σ = some (r, τ)) : Dy base D cI cJ σ H → va_S (fun q => base ≤ q) s.heap H locs → lv_has ls 8 [(0, .ref (base + a0)), (2, .int i2), (3, .int i3), (4, .int i4), (5, .int i5), (6, .int i6)] → W p l e (rmD 3 0 0) s m args below meth c H locs 0 0 (MQ below (QwI base D cI cJ r τ) args s 0 0 (fun q => base ≤ q)) (F0 m 30 ls []) := by
  intro hP hS hl
  obtain ⟨hx, hb, hml, hown, hts⟩ := hC.1
  unfold X0_spreadOfGaps_b30 at h
  refine lv_iload hx hb dX0_spreadOfGaps_30 (lv_at hl 5 rfl) ?_
  refine lv_iload_n hx hb dX0_spreadOfGaps_32 rfl (lv_at hl 2 rfl) ?_
  refine lv_icmp_ge (tgt := 69) hx hb dX0_spreadOfGaps_33 (by decide) (fun c_1 => ?_) (fun c_1 => ?_)
  · rw [if_pos c_1] at h
    refine lv_iload hx hb dX0_spreadOfGaps_69 (lv_at hl 3 rfl) ?_
    refine lv_iload hx hb dX0_spreadOfGaps_71 (lv_at hl 4 rfl) ?_
    refine lv_isub hx hb dX0_spreadOfGaps_73 ?_
    obtain ⟨rfl, rfl⟩ := Prod.mk.inj (Option.some.inj h)
    exact w_iret hC hr hlocks hP hS dX0_spreadOfGaps_74
  · rw [if_neg c_1] at h
    refine lv_aload_n hx hb dX0_spreadOfGaps_36 rfl (lv_at hl 0 rfl) ?_
    refine lv_iload_n hx hb dX0_spreadOfGaps_37 rfl (lv_at hl 1 rfl) ?_
    refine lv_iload hx hb dX0_spreadOfGaps_38 (lv_at hl 5 rfl) ?_
    obtain ⟨u_2, hu_2, h⟩ := obn h
    obtain ⟨w_3, hw_3, h⟩ := obn h
    refine k_I (r_virt (As := [.int i2, .int i6]) (rest := []) hC hP hS (ci := 0) rfl (by decide) hu_2 (c_X0_gapAhead (l := l) (base := base) (D := D) (cI := cI) (cJ := cJ) (tS := tS) hw_3) wl_357 wl_345 wl_346 wl_52 wl_343 rfl rfl hd_X0_gapAhead ⟨Nat.le_of_ble_eq_true rfl, Nat.le_of_ble_eq_true rfl⟩ rfl hl.1 rfl (Nat.le_of_ble_eq_true rfl) dX0_spreadOfGaps_40 ⟨Nat.le_of_ble_eq_true rfl, Nat.le_of_ble_eq_true rfl⟩) hS (fun H locs hP hS => ?_)
    refine lv_istore (lv' := [(7, .int w_3.1), (0, .ref (base + a0)), (2, .int i2), (3, .int i3), (4, .int i4), (5, .int i5), (6, .int i6)]) hx hb dX0_spreadOfGaps_43 hl (by decide) rfl (fun ls hl => ?_)
    refine lv_iload hx hb dX0_spreadOfGaps_45 (lv_at hl 4 rfl) ?_
    refine lv_iload hx hb dX0_spreadOfGaps_47 (lv_at hl 0 rfl) ?_
    refine va_mmax hx hb (hml.trans hl.1.symm) hown (hts _ wl_190) (hts _ wl_191) (hts _ wl_166) (hts _ wl_192) (Nat.le_of_ble_eq_true rfl) (Nat.le_of_ble_eq_true rfl) (Nat.le_of_ble_eq_true rfl) (Nat.le_of_ble_eq_true rfl) dX0_spreadOfGaps_49 ?_
    obtain ⟨i4_4, hi4_4, h⟩ := obn h
    refine w_eqi (Option.some.inj hi4_4) ?_
    refine lv_istore (lv' := [(4, .int i4_4), (7, .int w_3.1), (0, .ref (base + a0)), (2, .int i2), (3, .int i3), (5, .int i5), (6, .int i6)]) hx hb dX0_spreadOfGaps_52 hl (by decide) rfl (fun ls hl => ?_)
    refine lv_iload hx hb dX0_spreadOfGaps_54 (lv_at hl 5 rfl) ?_
    refine lv_iload hx hb dX0_spreadOfGaps_56 (lv_at hl 1 rfl) ?_
    refine va_mmin hx hb (hml.trans hl.1.symm) hown (hts _ wl_178) (hts _ wl_165) (hts _ wl_166) (hts _ wl_167) (Nat.le_of_ble_eq_true rfl) (Nat.le_of_ble_eq_true rfl) (Nat.le_of_ble_eq_true rfl) (Nat.le_of_ble_eq_true rfl) dX0_spreadOfGaps_58 ?_
    obtain ⟨i5_5, hi5_5, h⟩ := obn h
    refine w_eqi (Option.some.inj hi5_5) ?_
    refine lv_istore (lv' := [(5, .int i5_5), (4, .int i4_4), (7, .int w_3.1), (0, .ref (base + a0)), (2, .int i2), (3, .int i3), (6, .int i6)]) hx hb dX0_spreadOfGaps_61 hl (by decide) rfl (fun ls hl => ?_)
    obtain ⟨i6_6, hi6_6, h⟩ := obn h
    refine lv_iinc (v := i6_6) (lv' := [(6, .int i6_6), (5, .int i5_5), (4, .int i4_4), (7, .int w_3.1), (0, .ref (base + a0)), (2, .int i2), (3, .int i3)]) hx hb dX0_spreadOfGaps_63 hl (k := 6) rfl (Option.some.inj hi6_6) (by decide) rfl (fun ls hl => ?_)
    refine lv_goto (tgt := 30) hx hb dX0_spreadOfGaps_66 (by decide) ?_
    exact ih h hP hS (lv_sub hl [4, 5, 6, 2, 1, 0] rfl)
set_option maxRecDepth 100000 in
set_option maxHeartbeats 4000000 in
theorem X0_spreadOfGaps_k0 (hC : Cx p m c cX0_spreadOfGaps 8 s args RX0 base D cI cJ tS) (hr : meth.sig.returnType = (some .int)) (hlocks : meth.locks = false) {n : Nat} (ih : (∀ {a0 : Nat} {i2 : Int32} {i3 : Int32} {i4 : Int32} {i5 : Int32} {i6 : Int32} {σ : Sg} {r : Int32} {τ : Sg} {H : Heap} {locs : List Loc} {ls : Array Slot}, X0_spreadOfGaps_run n a0 i2 i3 i4 i5 i6 σ = some (r, τ) → Dy base D cI cJ σ H → va_S (fun q => base ≤ q) s.heap H locs → lv_has ls 8 [(0, .ref (base + a0)), (2, .int i2), (3, .int i3), (4, .int i4), (5, .int i5), (6, .int i6)] → W p l e (rmD 3 0 0) s m args below meth c H locs 0 0 (MQ below (QwI base D cI cJ r τ) args s 0 0 (fun q => base ≤ q)) (F0 m 30 ls []))) {a0 : Nat} {a1 : Nat} {i2 : Int32} {σ : Sg} {r : Int32} {τ : Sg} {H : Heap} {locs : List Loc} {ls : Array Slot} (h : X0_spreadOfGaps_b0 n (X0_spreadOfGaps_run n) a0 a1 i2 σ = some (r, τ)) : Dy base D cI cJ σ H → va_S (fun q => base ≤ q) s.heap H locs → lv_has ls 8 [(0, .ref (base + a0)), (1, .ref (base + a1)), (2, .int i2)] → W p l e (rmD 3 0 0) s m args below meth c H locs 0 0 (MQ below (QwI base D cI cJ r τ) args s 0 0 (fun q => base ≤ q)) (F0 m 0 ls []) := by
  intro hP hS hl
  obtain ⟨hx, hb, hml, hown, hts⟩ := hC.1
  unfold X0_spreadOfGaps_b0 at h
  refine lv_aload_n hx hb dX0_spreadOfGaps_0 rfl (lv_at hl 0 rfl) ?_
  refine lv_aload_n hx hb dX0_spreadOfGaps_1 rfl (lv_at hl 1 rfl) ?_
  refine lv_iload_n hx hb dX0_spreadOfGaps_2 rfl (lv_at hl 2 rfl) ?_
  obtain ⟨u_7, hu_7, h⟩ := obn h
  obtain ⟨w_8, hw_8, h⟩ := obn h
  refine k_I (r_virt (As := [.ref (base + a1), .int i2]) (rest := []) hC hP hS (ci := 0) rfl (by decide) hu_7 (c_X0_orderLeaving (l := l) (base := base) (D := D) (cI := cI) (cJ := cJ) (tS := tS) hw_8) wl_358 wl_341 wl_342 wl_52 wl_339 rfl rfl hd_X0_orderLeaving ⟨Nat.le_of_ble_eq_true rfl, Nat.le_of_ble_eq_true rfl⟩ rfl hl.1 rfl (Nat.le_of_ble_eq_true rfl) dX0_spreadOfGaps_3 ⟨Nat.le_of_ble_eq_true rfl, Nat.le_of_ble_eq_true rfl⟩) hS (fun H locs hP hS => ?_)
  refine lv_istore_n (lv' := [(3, .int w_8.1), (0, .ref (base + a0)), (1, .ref (base + a1)), (2, .int i2)]) hx hb dX0_spreadOfGaps_6 rfl hl (by decide) rfl (fun ls hl => ?_)
  refine lv_iload_n hx hb dX0_spreadOfGaps_7 rfl (lv_at hl 0 rfl) ?_
  refine lv_iconst (v := 2) hx hb dX0_spreadOfGaps_8 (by decide) ?_
  refine lv_icmp_ge (tgt := 15) hx hb dX0_spreadOfGaps_9 (by decide) (fun c_9 => ?_) (fun c_9 => ?_)
  · rw [if_pos c_9] at h
    refine lv_aload_n hx hb dX0_spreadOfGaps_15 rfl (lv_at hl 1 rfl) ?_
    refine lv_iload_n hx hb dX0_spreadOfGaps_16 rfl (lv_at hl 3 rfl) ?_
    refine lv_iconst (v := 1) hx hb dX0_spreadOfGaps_17 (by decide) ?_
    obtain ⟨u_10, hu_10, h⟩ := obn h
    obtain ⟨w_11, hw_11, h⟩ := obn h
    refine k_I (r_virt (As := [.int i2, .int 1]) (rest := []) hC hP hS (ci := 0) rfl (by decide) hu_10 (c_X0_gapAhead (l := l) (base := base) (D := D) (cI := cI) (cJ := cJ) (tS := tS) hw_11) wl_357 wl_345 wl_346 wl_52 wl_343 rfl rfl hd_X0_gapAhead ⟨Nat.le_of_ble_eq_true rfl, Nat.le_of_ble_eq_true rfl⟩ rfl hl.1 rfl (Nat.le_of_ble_eq_true rfl) dX0_spreadOfGaps_18 ⟨Nat.le_of_ble_eq_true rfl, Nat.le_of_ble_eq_true rfl⟩) hS (fun H locs hP hS => ?_)
    refine lv_istore (lv' := [(4, .int w_11.1), (3, .int w_8.1), (0, .ref (base + a0)), (1, .ref (base + a1)), (2, .int i2)]) hx hb dX0_spreadOfGaps_21 hl (by decide) rfl (fun ls hl => ?_)
    refine lv_iload hx hb dX0_spreadOfGaps_23 (lv_at hl 0 rfl) ?_
    refine lv_istore (lv' := [(5, .int w_11.1), (4, .int w_11.1), (3, .int w_8.1), (0, .ref (base + a0)), (1, .ref (base + a1)), (2, .int i2)]) hx hb dX0_spreadOfGaps_25 hl (by decide) rfl (fun ls hl => ?_)
    refine lv_iconst (v := 2) hx hb dX0_spreadOfGaps_27 (by decide) ?_
    refine lv_istore (lv' := [(6, .int 2), (5, .int w_11.1), (4, .int w_11.1), (3, .int w_8.1), (0, .ref (base + a0)), (1, .ref (base + a1)), (2, .int i2)]) hx hb dX0_spreadOfGaps_28 hl (by decide) rfl (fun ls hl => ?_)
    exact ih h hP hS (lv_sub hl [4, 6, 3, 2, 1, 0] rfl)
  · rw [if_neg c_9] at h
    refine lv_bipush (v := (-6)) hx hb dX0_spreadOfGaps_12 (by decide) ?_
    obtain ⟨rfl, rfl⟩ := Prod.mk.inj (Option.some.inj h)
    exact w_iret hC hr hlocks hP hS dX0_spreadOfGaps_14
set_option maxRecDepth 100000 in
set_option maxHeartbeats 4000000 in
theorem X0_spreadOfGaps_all (hC : Cx p m c cX0_spreadOfGaps 8 s args RX0 base D cI cJ tS) (hr : meth.sig.returnType = (some .int)) (hlocks : meth.locks = false) : ∀ n : Nat, (∀ {a0 : Nat} {i2 : Int32} {i3 : Int32} {i4 : Int32} {i5 : Int32} {i6 : Int32} {σ : Sg} {r : Int32} {τ : Sg} {H : Heap} {locs : List Loc} {ls : Array Slot}, X0_spreadOfGaps_run n a0 i2 i3 i4 i5 i6 σ = some (r, τ) → Dy base D cI cJ σ H → va_S (fun q => base ≤ q) s.heap H locs → lv_has ls 8 [(0, .ref (base + a0)), (2, .int i2), (3, .int i3), (4, .int i4), (5, .int i5), (6, .int i6)] → W p l e (rmD 3 0 0) s m args below meth c H locs 0 0 (MQ below (QwI base D cI cJ r τ) args s 0 0 (fun q => base ≤ q)) (F0 m 30 ls [])) := by
  intro n
  induction n with
  | zero => exact fun h => (by cases h)
  | succ n ih => exact fun h => X0_spreadOfGaps_k30 hC hr hlocks ih h
set_option maxRecDepth 100000 in
set_option maxHeartbeats 4000000 in
theorem c_X0_spreadOfGaps {l : Launch} {base : Nat} {D : va_G} {cI cJ : ClassId} {tS : Nat} {n : Nat} {a0 : Nat} {a1 : Nat} {i2 : Int32} {σ : Sg} {r : Int32} {τ : Sg} (h : f_X0_spreadOfGaps n a0 a1 i2 σ = some (r, τ)) : Met l yX0_spreadOfGaps (.code yX0_spreadOfGaps cX0_spreadOfGaps 8 (some .int) :: wsL_law) (rmD 3 0 0) (Pw base D cI cJ tS σ [.ref (base + a0), .ref (base + a1), .int i2]) (QwI base D cI cJ r τ) 0 0 (fun q => base ≤ q) := by
  refine Met.ofW (cc := cX0_spreadOfGaps) (maxL := 8) (ret := (some .int)) (by decide) rfl ?_
  intro p e s m args below meth c s₁ B hml hv
  obtain ⟨rfl, hSt, hP⟩ := hv
  have hC : Cx p m c cX0_spreadOfGaps 8 s _ RX0 base D cI cJ tS := ⟨⟨B.exec, B.bytes, hml, findClass_of_methodNamed B.named, fun w hw => atoms_spec (ws := Cond.code yX0_spreadOfGaps cX0_spreadOfGaps 8 (some .int) :: wsL_law) B.pre w (List.mem_cons_of_mem _ hw)⟩, hSt⟩
  have hl := lv_entry ([.ref (base + a0), .ref (base + a1), .int i2]) (n := 8) (Nat.le_of_ble_eq_true rfl)
  rw [lg_entry_eq]
  generalize (lg_sl ([.ref (base + a0), .ref (base + a1), .int i2]) ++ List.replicate (8 - (lg_sl ([.ref (base + a0), .ref (base + a1), .int i2])).length) Slot.unset).toArray = ls at hl ⊢
  exact X0_spreadOfGaps_k0 hC B.returns B.notSynchronized (X0_spreadOfGaps_all hC B.returns B.notSynchronized n) h hP va_S.rf hl
-- ===== X4_spread
set_option maxRecDepth 100000 in
set_option maxHeartbeats 4000000 in
theorem X4_spread_k0 (hC : Cx p m c cX4_spread 2 s args RX4 base D cI cJ tS) (hr : meth.sig.returnType = (some .int)) (hlocks : meth.locks = false) {n : Nat} {a0 : Nat} {i1 : Int32} {σ : Sg} {r : Int32} {τ : Sg} {H : Heap} {locs : List Loc} {ls : Array Slot} (h : f_X4_spread n a0 i1 σ = some (r, τ)) : Dy base D cI cJ σ H → va_S (fun q => base ≤ q) s.heap H locs → lv_has ls 2 [(0, .ref (base + a0)), (1, .int i1)] → W p l e (rmD 7 0 0) s m args below meth c H locs 0 0 (MQ below (QwI base D cI cJ r τ) args s 0 0 (fun q => base ≤ q)) (F0 m 0 ls []) := by
  intro hP hS hl
  obtain ⟨hx, hb, hml, hown, hts⟩ := hC.1
  unfold f_X4_spread at h
  refine lv_iload_n hx hb dX4_spread_0 rfl (lv_at hl 1 rfl) ?_
  obtain ⟨w_1, hw_1, h⟩ := obn h
  refine k_I (r_stat (As := [.int i1]) (rest := []) hC hP hS (c_X4_isGoingStop (l := l) (base := base) (D := D) (cI := cI) (cJ := cJ) (tS := tS) hw_1) wl_96 wl_97 wl_98 wl_95 rfl rfl hd_X4_isGoingStop ⟨Nat.le_of_ble_eq_true rfl, Nat.le_of_ble_eq_true rfl⟩ rfl hl.1 rfl (Nat.le_of_ble_eq_true rfl) dX4_spread_1 ⟨Nat.le_of_ble_eq_true rfl, Nat.le_of_ble_eq_true rfl⟩) hS (fun H locs hP hS => ?_)
  refine lv_if_ne (tgt := 9) hx hb dX4_spread_4 (by decide) (fun c_2 => ?_) (fun c_2 => ?_)
  · rw [if_neg c_2] at h
    refine lv_aload_n hx hb dX4_spread_9 rfl (lv_at hl 0 rfl) ?_
    obtain ⟨u_3, hu_3, h⟩ := obn h
    obtain ⟨w_4, hw_4, h⟩ := obn h
    refine k_A (r_virt (As := []) (rest := []) hC hP hS (ci := 4) rfl (by decide) hu_3 (c_X4_presentCourse (l := l) (base := base) (D := D) (cI := cI) (cJ := cJ) (tS := tS) hw_4) wl_248 wl_249 wl_250 wl_98 wl_247 rfl rfl hd_X4_presentCourse ⟨Nat.le_of_ble_eq_true rfl, Nat.le_of_ble_eq_true rfl⟩ rfl hl.1 rfl (Nat.le_of_ble_eq_true rfl) dX4_spread_10 ⟨Nat.le_of_ble_eq_true rfl, Nat.le_of_ble_eq_true rfl⟩) hS (fun H locs hP hS => ?_)
    refine lv_aload_n hx hb dX4_spread_13 rfl (lv_at hl 0 rfl) ?_
    obtain ⟨q_5, hq_5, h⟩ := obn h
    refine w_getR (ci := 4) (j := 0) hC hP rfl inlX4 (by decide) (by decide) rfl hq_5 wl_43 dX4_spread_14 ?_
    refine lv_iload_n hx hb dX4_spread_17 rfl (lv_at hl 1 rfl) ?_
    obtain ⟨u_6, hu_6, h⟩ := obn h
    obtain ⟨w_7, hw_7, h⟩ := obn h
    refine k_I (r_virt (As := [.ref (base + q_5), .int i1]) (rest := []) hC hP hS (ci := 0) rfl (by decide) hu_6 (c_X0_spreadOfGaps (l := l) (base := base) (D := D) (cI := cI) (cJ := cJ) (tS := tS) hw_7) wl_374 wl_375 wl_376 wl_52 wl_373 rfl rfl hd_X0_spreadOfGaps ⟨Nat.le_of_ble_eq_true rfl, Nat.le_of_ble_eq_true rfl⟩ rfl hl.1 rfl (Nat.le_of_ble_eq_true rfl) dX4_spread_18 ⟨Nat.le_of_ble_eq_true rfl, Nat.le_of_ble_eq_true rfl⟩) hS (fun H locs hP hS => ?_)
    obtain ⟨rfl, rfl⟩ := Prod.mk.inj (Option.some.inj h)
    exact w_iret hC hr hlocks hP hS dX4_spread_21
  · rw [if_pos c_2] at h
    refine lv_iconst (v := (-1)) hx hb dX4_spread_7 (by decide) ?_
    obtain ⟨rfl, rfl⟩ := Prod.mk.inj (Option.some.inj h)
    exact w_iret hC hr hlocks hP hS dX4_spread_8
set_option maxRecDepth 100000 in
set_option maxHeartbeats 4000000 in
theorem c_X4_spread {l : Launch} {base : Nat} {D : va_G} {cI cJ : ClassId} {tS : Nat} {n : Nat} {a0 : Nat} {i1 : Int32} {σ : Sg} {r : Int32} {τ : Sg} (h : f_X4_spread n a0 i1 σ = some (r, τ)) : Met l yX4_spread (.code yX4_spread cX4_spread 2 (some .int) :: wsL_law) (rmD 7 0 0) (Pw base D cI cJ tS σ [.ref (base + a0), .int i1]) (QwI base D cI cJ r τ) 0 0 (fun q => base ≤ q) := by
  refine Met.ofW (cc := cX4_spread) (maxL := 2) (ret := (some .int)) (by decide) rfl ?_
  intro p e s m args below meth c s₁ B hml hv
  obtain ⟨rfl, hSt, hP⟩ := hv
  have hC : Cx p m c cX4_spread 2 s _ RX4 base D cI cJ tS := ⟨⟨B.exec, B.bytes, hml, findClass_of_methodNamed B.named, fun w hw => atoms_spec (ws := Cond.code yX4_spread cX4_spread 2 (some .int) :: wsL_law) B.pre w (List.mem_cons_of_mem _ hw)⟩, hSt⟩
  have hl := lv_entry ([.ref (base + a0), .int i1]) (n := 2) (Nat.le_of_ble_eq_true rfl)
  rw [lg_entry_eq]
  generalize (lg_sl ([.ref (base + a0), .int i1]) ++ List.replicate (2 - (lg_sl ([.ref (base + a0), .int i1])).length) Slot.unset).toArray = ls at hl ⊢
  exact X4_spread_k0 hC B.returns B.notSynchronized h hP va_S.rf hl
-- ===== X5_spread
set_option maxRecDepth 100000 in
set_option maxHeartbeats 4000000 in
theorem X5_spread_k86 (hC : Cx p m c cX5_spread 6 s args RX5 base D cI cJ tS) (hr : meth.sig.returnType = (some .int)) (hlocks : meth.locks = false) {n : Nat} (ih : (∀ {a0 : Nat} {i1 : Int32} {i2 : Int32} {i3 : Int32} {i4 : Int32} {σ : Sg} {r : Int32} {τ : Sg} {H : Heap} {locs : List Loc} {ls : Array Slot}, X5_spread_run n a0 i1 i2 i3 i4 σ = some (r, τ) → Dy base D cI cJ σ H → va_S (fun q => base ≤ q) s.heap H locs → lv_has ls 6 [(0, .ref (base + a0)), (1, .int i1), (2, .int i2), (3, .int i3), (4, .int i4)] → W p l e (rmD 3 0 0) s m args below meth c H locs 0 0 (MQ below (QwI base D cI cJ r τ) args s 0 0 (fun q => base ≤ q)) (F0 m 43 ls []))) {a0 : Nat} {i1 : Int32} {i2 : Int32} {i4 : Int32} {ti0 : Int32} {σ : Sg} {r : Int32} {τ : Sg} {H : Heap} {locs : List Loc} {ls : Array Slot} (h : X5_spread_b86 n (X5_spread_run n) a0 i1 i2 i4 ti0 σ = some (r, τ)) : Dy base D cI cJ σ H → va_S (fun q => base ≤ q) s.heap H locs → lv_has ls 6 [(0, .ref (base + a0)), (1, .int i1), (2, .int i2), (4, .int i4)] → W p l e (rmD 3 0 0) s m args below meth c H locs 0 0 (MQ below (QwI base D cI cJ r τ) args s 0 0 (fun q => base ≤ q)) (F0 m 86 ls [.int ti0]) := by
  intro hP hS hl
  obtain ⟨hx, hb, hml, hown, hts⟩ := hC.1
  unfold X5_spread_b86 at h
  refine lv_istore_n (lv' := [(3, .int ti0), (0, .ref (base + a0)), (1, .int i1), (2, .int i2), (4, .int i4)]) hx hb dX5_spread_86 rfl hl (by decide) rfl (fun ls hl => ?_)
  obtain ⟨i4_1, hi4_1, h⟩ := obn h
  refine lv_iinc (v := i4_1) (lv' := [(4, .int i4_1), (3, .int ti0), (0, .ref (base + a0)), (1, .int i1), (2, .int i2)]) hx hb dX5_spread_87 hl (k := 4) rfl (Option.some.inj hi4_1) (by decide) rfl (fun ls hl => ?_)
  refine lv_goto (tgt := 43) hx hb dX5_spread_90 (by decide) ?_
  exact ih h hP hS (lv_sub hl [2, 3, 4, 1, 0] rfl)
set_option maxRecDepth 100000 in
set_option maxHeartbeats 4000000 in
theorem X5_spread_k73 (hC : Cx p m c cX5_spread 6 s args RX5 base D cI cJ tS) (hr : meth.sig.returnType = (some .int)) (hlocks : meth.locks = false) {n : Nat} (ih : (∀ {a0 : Nat} {i1 : Int32} {i2 : Int32} {i3 : Int32} {i4 : Int32} {σ : Sg} {r : Int32} {τ : Sg} {H : Heap} {locs : List Loc} {ls : Array Slot}, X5_spread_run n a0 i1 i2 i3 i4 σ = some (r, τ) → Dy base D cI cJ σ H → va_S (fun q => base ≤ q) s.heap H locs → lv_has ls 6 [(0, .ref (base + a0)), (1, .int i1), (2, .int i2), (3, .int i3), (4, .int i4)] → W p l e (rmD 3 0 0) s m args below meth c H locs 0 0 (MQ below (QwI base D cI cJ r τ) args s 0 0 (fun q => base ≤ q)) (F0 m 43 ls []))) {a0 : Nat} {i1 : Int32} {i3 : Int32} {i4 : Int32} {i5 : Int32} {ti0 : Int32} {σ : Sg} {r : Int32} {τ : Sg} {H : Heap} {locs : List Loc} {ls : Array Slot} (h : X5_spread_b73 n (X5_spread_run n) a0 i1 i3 i4 i5 ti0 σ = some (r, τ)) : Dy base D cI cJ σ H → va_S (fun q => base ≤ q) s.heap H locs → lv_has ls 6 [(0, .ref (base + a0)), (1, .int i1), (3, .int i3), (4, .int i4), (5, .int i5)] → W p l e (rmD 3 0 0) s m args below meth c H locs 0 0 (MQ below (QwI base D cI cJ r τ) args s 0 0 (fun q => base ≤ q)) (F0 m 73 ls [.int ti0]) := by
  intro hP hS hl
  obtain ⟨hx, hb, hml, hown, hts⟩ := hC.1
  unfold X5_spread_b73 at h
  refine lv_istore_n (lv' := [(2, .int ti0), (0, .ref (base + a0)), (1, .int i1), (3, .int i3), (4, .int i4), (5, .int i5)]) hx hb dX5_spread_73 rfl hl (by decide) rfl (fun ls hl => ?_)
  refine lv_iload hx hb dX5_spread_74 (lv_at hl 5 rfl) ?_
  refine lv_iload_n hx hb dX5_spread_76 rfl (lv_at hl 3 rfl) ?_
  refine lv_icmp_le (tgt := 85) hx hb dX5_spread_77 (by decide) (fun c_2 => ?_) (fun c_2 => ?_)
  · rw [if_pos c_2] at h
    refine lv_iload_n hx hb dX5_spread_85 rfl (lv_at hl 3 rfl) ?_
    exact X5_spread_k86 hC hr hlocks ih h hP hS (lv_sub hl [1, 2, 0, 4] rfl)
  · rw [if_neg c_2] at h
    refine lv_iload hx hb dX5_spread_80 (lv_at hl 5 rfl) ?_
    refine lv_goto (tgt := 86) hx hb dX5_spread_82 (by decide) ?_
    exact X5_spread_k86 hC hr hlocks ih h hP hS (lv_sub hl [1, 2, 0, 4] rfl)
set_option maxRecDepth 100000 in
set_option maxHeartbeats 4000000 in
theorem X5_spread_k43 (hC : Cx p m c cX5_spread 6 s args RX5 base D cI cJ tS) (hr : meth.sig.returnType = (some .int)) (hlocks : meth.locks = false) {n : Nat} (ih : (∀ {a0 : Nat} {i1 : Int32} {i2 : Int32} {i3 : Int32} {i4 : Int32} {σ : Sg} {r : Int32} {τ : Sg} {H : Heap} {locs : List Loc} {ls : Array Slot}, X5_spread_run n a0 i1 i2 i3 i4 σ = some (r, τ) → Dy base D cI cJ σ H → va_S (fun q => base ≤ q) s.heap H locs → lv_has ls 6 [(0, .ref (base + a0)), (1, .int i1), (2, .int i2), (3, .int i3), (4, .int i4)] → W p l e (rmD 3 0 0) s m args below meth c H locs 0 0 (MQ below (QwI base D cI cJ r τ) args s 0 0 (fun q => base ≤ q)) (F0 m 43 ls []))) {a0 : Nat} {i1 : Int32} {i2 : Int32} {i3 : Int32} {i4 : Int32} {σ : Sg} {r : Int32} {τ : Sg} {H : Heap} {locs : List Loc} {ls : Array Slot} (h : X5_spread_b43 n (X5_spread_run n) a0 i1 i2 i3 i4 σ = some (r, τ)) : Dy base D cI cJ σ H → va_S (fun q => base ≤ q) s.heap H locs → lv_has ls 6 [(0, .ref (base + a0)), (1, .int i1), (2, .int i2), (3, .int i3), (4, .int i4)] → W p l e (rmD 3 0 0) s m args below meth c H locs 0 0 (MQ below (QwI base D cI cJ r τ) args s 0 0 (fun q => base ≤ q)) (F0 m 43 ls []) := by
  intro hP hS hl
  obtain ⟨hx, hb, hml, hown, hts⟩ := hC.1
  unfold X5_spread_b43 at h
  refine lv_iload hx hb dX5_spread_43 (lv_at hl 4 rfl) ?_
  refine lv_aload_n hx hb dX5_spread_45 rfl (lv_at hl 0 rfl) ?_
  obtain ⟨v_3, hv_3, h⟩ := obn h
  refine w_getI (ci := 5) (j := 32) hC hP rfl inlX5 (by decide) (by decide) rfl hv_3 wl_348 dX5_spread_46 ?_
  refine lv_icmp_ge (tgt := 93) hx hb dX5_spread_49 (by decide) (fun c_4 => ?_) (fun c_4 => ?_)
  · rw [if_pos c_4] at h
    refine lv_iload_n hx hb dX5_spread_93 rfl (lv_at hl 3 rfl) ?_
    refine lv_iload_n hx hb dX5_spread_94 rfl (lv_at hl 2 rfl) ?_
    refine lv_isub hx hb dX5_spread_95 ?_
    obtain ⟨rfl, rfl⟩ := Prod.mk.inj (Option.some.inj h)
    exact w_iret hC hr hlocks hP hS dX5_spread_96
  · rw [if_neg c_4] at h
    refine lv_aload_n hx hb dX5_spread_52 rfl (lv_at hl 0 rfl) ?_
    refine lv_iload_n hx hb dX5_spread_53 rfl (lv_at hl 1 rfl) ?_
    refine lv_iload hx hb dX5_spread_54 (lv_at hl 4 rfl) ?_
    obtain ⟨u_5, hu_5, h⟩ := obn h
    obtain ⟨w_6, hw_6, h⟩ := obn h
    refine k_I (r_virt (As := [.int i1, .int i4]) (rest := []) hC hP hS (ci := 5) rfl (by decide) hu_5 (c_X5_followOf (l := l) (base := base) (D := D) (cI := cI) (cJ := cJ) (tS := tS) hw_6) wl_350 wl_351 wl_352 wl_113 wl_349 rfl rfl hd_X5_followOf ⟨Nat.le_of_ble_eq_true rfl, Nat.le_of_ble_eq_true rfl⟩ rfl hl.1 rfl (Nat.le_of_ble_eq_true rfl) dX5_spread_56 ⟨Nat.le_of_ble_eq_true rfl, Nat.le_of_ble_eq_true rfl⟩) hS (fun H locs hP hS => ?_)
    refine lv_istore (lv' := [(5, .int w_6.1), (0, .ref (base + a0)), (1, .int i1), (2, .int i2), (3, .int i3), (4, .int i4)]) hx hb dX5_spread_59 hl (by decide) rfl (fun ls hl => ?_)
    refine lv_iload hx hb dX5_spread_61 (lv_at hl 0 rfl) ?_
    refine lv_iload_n hx hb dX5_spread_63 rfl (lv_at hl 3 rfl) ?_
    refine lv_icmp_ge (tgt := 72) hx hb dX5_spread_64 (by decide) (fun c_7 => ?_) (fun c_7 => ?_)
    · rw [if_pos c_7] at h
      refine lv_iload_n hx hb dX5_spread_72 rfl (lv_at hl 3 rfl) ?_
      exact X5_spread_k73 hC hr hlocks ih h hP hS (lv_sub hl [1, 2, 4, 5, 0] rfl)
    · rw [if_neg c_7] at h
      refine lv_iload hx hb dX5_spread_67 (lv_at hl 0 rfl) ?_
      refine lv_goto (tgt := 73) hx hb dX5_spread_69 (by decide) ?_
      exact X5_spread_k73 hC hr hlocks ih h hP hS (lv_sub hl [1, 2, 4, 5, 0] rfl)
set_option maxRecDepth 100000 in
set_option maxHeartbeats 4000000 in
theorem X5_spread_k0 (hC : Cx p m c cX5_spread 6 s args RX5 base D cI cJ tS) (hr : meth.sig.returnType = (some .int)) (hlocks : meth.locks = false) {n : Nat} (ih : (∀ {a0 : Nat} {i1 : Int32} {i2 : Int32} {i3 : Int32} {i4 : Int32} {σ : Sg} {r : Int32} {τ : Sg} {H : Heap} {locs : List Loc} {ls : Array Slot}, X5_spread_run n a0 i1 i2 i3 i4 σ = some (r, τ) → Dy base D cI cJ σ H → va_S (fun q => base ≤ q) s.heap H locs → lv_has ls 6 [(0, .ref (base + a0)), (1, .int i1), (2, .int i2), (3, .int i3), (4, .int i4)] → W p l e (rmD 3 0 0) s m args below meth c H locs 0 0 (MQ below (QwI base D cI cJ r τ) args s 0 0 (fun q => base ≤ q)) (F0 m 43 ls []))) {a0 : Nat} {i1 : Int32} {σ : Sg} {r : Int32} {τ : Sg} {H : Heap} {locs : List Loc} {ls : Array Slot} (h : X5_spread_b0 n (X5_spread_run n) a0 i1 σ = some (r, τ)) : Dy base D cI cJ σ H → va_S (fun q => base ≤ q) s.heap H locs → lv_has ls 6 [(0, .ref (base + a0)), (1, .int i1)] → W p l e (rmD 3 0 0) s m args below meth c H locs 0 0 (MQ below (QwI base D cI cJ r τ) args s 0 0 (fun q => base ≤ q)) (F0 m 0 ls []) := by
  intro hP hS hl
  obtain ⟨hx, hb, hml, hown, hts⟩ := hC.1
  unfold X5_spread_b0 at h
  refine lv_iload_n hx hb dX5_spread_0 rfl (lv_at hl 1 rfl) ?_
  obtain ⟨w_8, hw_8, h⟩ := obn h
  refine k_I (r_stat (As := [.int i1]) (rest := []) hC hP hS (c_X5_isOn (l := l) (base := base) (D := D) (cI := cI) (cJ := cJ) (tS := tS) hw_8) wl_115 wl_116 wl_113 wl_114 rfl rfl hd_X5_isOn ⟨Nat.le_of_ble_eq_true rfl, Nat.le_of_ble_eq_true rfl⟩ rfl hl.1 rfl (Nat.le_of_ble_eq_true rfl) dX5_spread_1 ⟨Nat.le_of_ble_eq_true rfl, Nat.le_of_ble_eq_true rfl⟩) hS (fun H locs hP hS => ?_)
  refine lv_if_ne (tgt := 9) hx hb dX5_spread_4 (by decide) (fun c_9 => ?_) (fun c_9 => ?_)
  · rw [if_neg c_9] at h
    refine lv_aload_n hx hb dX5_spread_9 rfl (lv_at hl 0 rfl) ?_
    refine lv_bipush (v := (-6)) hx hb dX5_spread_10 (by decide) ?_
    obtain ⟨u_10, hu_10, h⟩ := obn h
    obtain ⟨w_11, hw_11, h⟩ := obn h
    refine k_V (r_virt (As := [.int (-6)]) (rest := []) hC hP hS (ci := 5) rfl (by decide) hu_10 (c_X5_lay (l := l) (base := base) (D := D) (cI := cI) (cJ := cJ) (tS := tS) hw_11) wl_280 wl_281 wl_282 wl_113 wl_279 rfl rfl hd_X5_lay ⟨Nat.le_of_ble_eq_true rfl, Nat.le_of_ble_eq_true rfl⟩ rfl hl.1 rfl (Nat.le_of_ble_eq_true rfl) dX5_spread_12 ⟨Nat.le_of_ble_eq_true rfl, Nat.le_of_ble_eq_true rfl⟩) hS (fun H locs hP hS => ?_)
    refine lv_aload_n hx hb dX5_spread_15 rfl (lv_at hl 0 rfl) ?_
    refine lv_iload_n hx hb dX5_spread_16 rfl (lv_at hl 1 rfl) ?_
    obtain ⟨u_12, hu_12, h⟩ := obn h
    obtain ⟨w_13, hw_13, h⟩ := obn h
    refine k_V (r_virt (As := [.int i1]) (rest := []) hC hP hS (ci := 5) rfl (by decide) hu_12 (c_X5_layGoing (l := l) (base := base) (D := D) (cI := cI) (cJ := cJ) (tS := tS) hw_13) wl_354 wl_355 wl_356 wl_113 wl_353 rfl rfl hd_X5_layGoing ⟨Nat.le_of_ble_eq_true rfl, Nat.le_of_ble_eq_true rfl⟩ rfl hl.1 rfl (Nat.le_of_ble_eq_true rfl) dX5_spread_17 ⟨Nat.le_of_ble_eq_true rfl, Nat.le_of_ble_eq_true rfl⟩) hS (fun H locs hP hS => ?_)
    refine lv_aload_n hx hb dX5_spread_20 rfl (lv_at hl 0 rfl) ?_
    obtain ⟨v_14, hv_14, h⟩ := obn h
    refine w_getI (ci := 5) (j := 32) hC hP rfl inlX5 (by decide) (by decide) rfl hv_14 wl_348 dX5_spread_21 ?_
    refine lv_iconst (v := 2) hx hb dX5_spread_24 (by decide) ?_
    refine lv_icmp_ge (tgt := 31) hx hb dX5_spread_25 (by decide) (fun c_15 => ?_) (fun c_15 => ?_)
    · rw [if_pos c_15] at h
      refine lv_aload_n hx hb dX5_spread_31 rfl (lv_at hl 0 rfl) ?_
      refine lv_iload_n hx hb dX5_spread_32 rfl (lv_at hl 1 rfl) ?_
      refine lv_iconst (v := 1) hx hb dX5_spread_33 (by decide) ?_
      obtain ⟨u_16, hu_16, h⟩ := obn h
      obtain ⟨w_17, hw_17, h⟩ := obn h
      refine k_I (r_virt (As := [.int i1, .int 1]) (rest := []) hC hP hS (ci := 5) rfl (by decide) hu_16 (c_X5_followOf (l := l) (base := base) (D := D) (cI := cI) (cJ := cJ) (tS := tS) hw_17) wl_350 wl_351 wl_352 wl_113 wl_349 rfl rfl hd_X5_followOf ⟨Nat.le_of_ble_eq_true rfl, Nat.le_of_ble_eq_true rfl⟩ rfl hl.1 rfl (Nat.le_of_ble_eq_true rfl) dX5_spread_34 ⟨Nat.le_of_ble_eq_true rfl, Nat.le_of_ble_eq_true rfl⟩) hS (fun H locs hP hS => ?_)
      refine lv_istore_n (lv' := [(2, .int w_17.1), (0, .ref (base + a0)), (1, .int i1)]) hx hb dX5_spread_37 rfl hl (by decide) rfl (fun ls hl => ?_)
      refine lv_iload_n hx hb dX5_spread_38 rfl (lv_at hl 0 rfl) ?_
      refine lv_istore_n (lv' := [(3, .int w_17.1), (2, .int w_17.1), (0, .ref (base + a0)), (1, .int i1)]) hx hb dX5_spread_39 rfl hl (by decide) rfl (fun ls hl => ?_)
      refine lv_iconst (v := 2) hx hb dX5_spread_40 (by decide) ?_
      refine lv_istore (lv' := [(4, .int 2), (3, .int w_17.1), (2, .int w_17.1), (0, .ref (base + a0)), (1, .int i1)]) hx hb dX5_spread_41 hl (by decide) rfl (fun ls hl => ?_)
      exact ih h hP hS (lv_sub hl [3, 4, 2, 1, 0] rfl)
    · rw [if_neg c_15] at h
      refine lv_bipush (v := (-6)) hx hb dX5_spread_28 (by decide) ?_
      obtain ⟨rfl, rfl⟩ := Prod.mk.inj (Option.some.inj h)
      exact w_iret hC hr hlocks hP hS dX5_spread_30
  · rw [if_pos c_9] at h
    refine lv_iconst (v := (-1)) hx hb dX5_spread_7 (by decide) ?_
    obtain ⟨rfl, rfl⟩ := Prod.mk.inj (Option.some.inj h)
    exact w_iret hC hr hlocks hP hS dX5_spread_8
set_option maxRecDepth 100000 in
set_option maxHeartbeats 4000000 in
theorem X5_spread_all (hC : Cx p m c cX5_spread 6 s args RX5 base D cI cJ tS) (hr : meth.sig.returnType = (some .int)) (hlocks : meth.locks = false) : ∀ n : Nat, (∀ {a0 : Nat} {i1 : Int32} {i2 : Int32} {i3 : Int32} {i4 : Int32} {σ : Sg} {r : Int32} {τ : Sg} {H : Heap} {locs : List Loc} {ls : Array Slot}, X5_spread_run n a0 i1 i2 i3 i4 σ = some (r, τ) → Dy base D cI cJ σ H → va_S (fun q => base ≤ q) s.heap H locs → lv_has ls 6 [(0, .ref (base + a0)), (1, .int i1), (2, .int i2), (3, .int i3), (4, .int i4)] → W p l e (rmD 3 0 0) s m args below meth c H locs 0 0 (MQ below (QwI base D cI cJ r τ) args s 0 0 (fun q => base ≤ q)) (F0 m 43 ls [])) := by
  intro n
  induction n with
  | zero => exact fun h => (by cases h)
  | succ n ih => exact fun h => X5_spread_k43 hC hr hlocks ih h
set_option maxRecDepth 100000 in
set_option maxHeartbeats 4000000 in
theorem c_X5_spread {l : Launch} {base : Nat} {D : va_G} {cI cJ : ClassId} {tS : Nat} {n : Nat} {a0 : Nat} {i1 : Int32} {σ : Sg} {r : Int32} {τ : Sg} (h : f_X5_spread n a0 i1 σ = some (r, τ)) : Met l yX5_spread (.code yX5_spread cX5_spread 6 (some .int) :: wsL_law) (rmD 3 0 0) (Pw base D cI cJ tS σ [.ref (base + a0), .int i1]) (QwI base D cI cJ r τ) 0 0 (fun q => base ≤ q) := by
  refine Met.ofW (cc := cX5_spread) (maxL := 6) (ret := (some .int)) (by decide) rfl ?_
  intro p e s m args below meth c s₁ B hml hv
  obtain ⟨rfl, hSt, hP⟩ := hv
  have hC : Cx p m c cX5_spread 6 s _ RX5 base D cI cJ tS := ⟨⟨B.exec, B.bytes, hml, findClass_of_methodNamed B.named, fun w hw => atoms_spec (ws := Cond.code yX5_spread cX5_spread 6 (some .int) :: wsL_law) B.pre w (List.mem_cons_of_mem _ hw)⟩, hSt⟩
  have hl := lv_entry ([.ref (base + a0), .int i1]) (n := 6) (Nat.le_of_ble_eq_true rfl)
  rw [lg_entry_eq]
  generalize (lg_sl ([.ref (base + a0), .int i1]) ++ List.replicate (6 - (lg_sl ([.ref (base + a0), .int i1])).length) Slot.unset).toArray = ls at hl ⊢
  exact X5_spread_k0 hC B.returns B.notSynchronized (X5_spread_all hC B.returns B.notSynchronized n) h hP va_S.rf hl
-- ===== X0_tellWaits
set_option maxRecDepth 100000 in
set_option maxHeartbeats 4000000 in
theorem X0_tellWaits_k0 (hC : Cx p m c cX0_tellWaits 3 s args RX0 base D cI cJ tS) (hr : meth.sig.returnType = (some .int)) (hlocks : meth.locks = false) {n : Nat} {a0 : Nat} {i1 : Int32} {i2 : Int32} {σ : Sg} {r : Int32} {τ : Sg} {H : Heap} {locs : List Loc} {ls : Array Slot} (h : f_X0_tellWaits n a0 i1 i2 σ = some (r, τ)) : Dy base D cI cJ σ H → va_S (fun q => base ≤ q) s.heap H locs → lv_has ls 3 [(0, .ref (base + a0)), (1, .int i1), (2, .int i2)] → W p l e (rmD 0 0 0) s m args below meth c H locs 0 0 (MQ below (QwI base D cI cJ r τ) args s 0 0 (fun q => base ≤ q)) (F0 m 0 ls []) := by
  intro hP hS hl
  obtain ⟨hx, hb, hml, hown, hts⟩ := hC.1
  unfold f_X0_tellWaits at h
  refine lv_iload_n hx hb dX0_tellWaits_0 rfl (lv_at hl 2 rfl) ?_
  obtain ⟨x_1, hx_1, h⟩ := obn h
  refine w_eqi (Option.some.inj hx_1) ?_
  by_cases c_4 : x_1 = 0
  · rw [if_pos c_4] at h
    refine lv_lookup (off := 27) (tgt := 28) hx hb dX0_tellWaits_1 (by decide) (by rw [c_4]; decide) (by decide) ?_
    refine lv_aload_n hx hb dX0_tellWaits_28 rfl (lv_at hl 0 rfl) ?_
    obtain ⟨q_2, hq_2, h⟩ := obn h
    refine w_getR (ci := 0) (j := 7) hC hP rfl inlX0 (by decide) (by decide) rfl hq_2 wl_28 dX0_tellWaits_29 ?_
    refine lv_iload_n hx hb dX0_tellWaits_32 rfl (lv_at hl 1 rfl) ?_
    obtain ⟨v_3, hv_3, h⟩ := obn h
    refine w_iald hC hP hv_3 dX0_tellWaits_33 ?_
    obtain ⟨rfl, rfl⟩ := Prod.mk.inj (Option.some.inj h)
    exact w_iret hC hr hlocks hP hS dX0_tellWaits_34
  rw [if_neg c_4] at h
  by_cases c_7 : x_1 = 1
  · rw [if_pos c_7] at h
    refine lv_lookup (off := 34) (tgt := 35) hx hb dX0_tellWaits_1 (by decide) (by rw [c_7]; decide) (by decide) ?_
    refine lv_aload_n hx hb dX0_tellWaits_35 rfl (lv_at hl 0 rfl) ?_
    obtain ⟨q_5, hq_5, h⟩ := obn h
    refine w_getR (ci := 0) (j := 8) hC hP rfl inlX0 (by decide) (by decide) rfl hq_5 wl_30 dX0_tellWaits_36 ?_
    refine lv_iload_n hx hb dX0_tellWaits_39 rfl (lv_at hl 1 rfl) ?_
    obtain ⟨v_6, hv_6, h⟩ := obn h
    refine w_lald hC hP hv_6 dX0_tellWaits_40 ?_
    refine lv_l2i hx hb dX0_tellWaits_41 rfl ?_
    obtain ⟨rfl, rfl⟩ := Prod.mk.inj (Option.some.inj h)
    exact w_iret hC hr hlocks hP hS dX0_tellWaits_42
  rw [if_neg c_7] at h
  refine lv_lookup (off := 42) (tgt := 43) hx hb dX0_tellWaits_1 (by decide) ((lv_osw c_4 (by decide)).trans ((lv_osw c_7 (by decide)).trans (rfl))) (by decide) ?_
  refine lv_aload_n hx hb dX0_tellWaits_43 rfl (lv_at hl 0 rfl) ?_
  obtain ⟨q_8, hq_8, h⟩ := obn h
  refine w_getR (ci := 0) (j := 9) hC hP rfl inlX0 (by decide) (by decide) rfl hq_8 wl_31 dX0_tellWaits_44 ?_
  refine lv_iload_n hx hb dX0_tellWaits_47 rfl (lv_at hl 1 rfl) ?_
  obtain ⟨v_9, hv_9, h⟩ := obn h
  refine w_iald hC hP hv_9 dX0_tellWaits_48 ?_
  obtain ⟨rfl, rfl⟩ := Prod.mk.inj (Option.some.inj h)
  exact w_iret hC hr hlocks hP hS dX0_tellWaits_49
set_option maxRecDepth 100000 in
set_option maxHeartbeats 4000000 in
theorem c_X0_tellWaits {l : Launch} {base : Nat} {D : va_G} {cI cJ : ClassId} {tS : Nat} {n : Nat} {a0 : Nat} {i1 : Int32} {i2 : Int32} {σ : Sg} {r : Int32} {τ : Sg} (h : f_X0_tellWaits n a0 i1 i2 σ = some (r, τ)) : Met l yX0_tellWaits (.code yX0_tellWaits cX0_tellWaits 3 (some .int) :: wsL_law) (rmD 0 0 0) (Pw base D cI cJ tS σ [.ref (base + a0), .int i1, .int i2]) (QwI base D cI cJ r τ) 0 0 (fun q => base ≤ q) := by
  refine Met.ofW (cc := cX0_tellWaits) (maxL := 3) (ret := (some .int)) (by decide) rfl ?_
  intro p e s m args below meth c s₁ B hml hv
  obtain ⟨rfl, hSt, hP⟩ := hv
  have hC : Cx p m c cX0_tellWaits 3 s _ RX0 base D cI cJ tS := ⟨⟨B.exec, B.bytes, hml, findClass_of_methodNamed B.named, fun w hw => atoms_spec (ws := Cond.code yX0_tellWaits cX0_tellWaits 3 (some .int) :: wsL_law) B.pre w (List.mem_cons_of_mem _ hw)⟩, hSt⟩
  have hl := lv_entry ([.ref (base + a0), .int i1, .int i2]) (n := 3) (Nat.le_of_ble_eq_true rfl)
  rw [lg_entry_eq]
  generalize (lg_sl ([.ref (base + a0), .int i1, .int i2]) ++ List.replicate (3 - (lg_sl ([.ref (base + a0), .int i1, .int i2])).length) Slot.unset).toArray = ls at hl ⊢
  exact X0_tellWaits_k0 hC B.returns B.notSynchronized h hP va_S.rf hl
-- ===== X4_waited
set_option maxRecDepth 100000 in
set_option maxHeartbeats 4000000 in
theorem X4_waited_k18 (hC : Cx p m c cX4_waited 3 s args RX4 base D cI cJ tS) (hr : meth.sig.returnType = (some .int)) (hlocks : meth.locks = false) {n : Nat} {σ : Sg} {r : Int32} {τ : Sg} {H : Heap} {locs : List Loc} {ls : Array Slot} (h : X4_waited_b18 n σ = some (r, τ)) : Dy base D cI cJ σ H → va_S (fun q => base ≤ q) s.heap H locs → lv_has ls 3 [] → W p l e (rmD 7 0 0) s m args below meth c H locs 0 0 (MQ below (QwI base D cI cJ r τ) args s 0 0 (fun q => base ≤ q)) (F0 m 18 ls []) := by
  intro hP hS hl
  obtain ⟨hx, hb, hml, hown, hts⟩ := hC.1
  unfold X4_waited_b18 at h
  refine lv_bipush (v := (-2)) hx hb dX4_waited_18 (by decide) ?_
  obtain ⟨rfl, rfl⟩ := Prod.mk.inj (Option.some.inj h)
  exact w_iret hC hr hlocks hP hS dX4_waited_20
set_option maxRecDepth 100000 in
set_option maxHeartbeats 4000000 in
theorem X4_waited_k0 (hC : Cx p m c cX4_waited 3 s args RX4 base D cI cJ tS) (hr : meth.sig.returnType = (some .int)) (hlocks : meth.locks = false) {n : Nat} {a0 : Nat} {i1 : Int32} {i2 : Int32} {σ : Sg} {r : Int32} {τ : Sg} {H : Heap} {locs : List Loc} {ls : Array Slot} (h : f_X4_waited n a0 i1 i2 σ = some (r, τ)) : Dy base D cI cJ σ H → va_S (fun q => base ≤ q) s.heap H locs → lv_has ls 3 [(0, .ref (base + a0)), (1, .int i1), (2, .int i2)] → W p l e (rmD 7 0 0) s m args below meth c H locs 0 0 (MQ below (QwI base D cI cJ r τ) args s 0 0 (fun q => base ≤ q)) (F0 m 0 ls []) := by
  intro hP hS hl
  obtain ⟨hx, hb, hml, hown, hts⟩ := hC.1
  unfold f_X4_waited at h
  refine lv_iload_n hx hb dX4_waited_0 rfl (lv_at hl 1 rfl) ?_
  obtain ⟨w_1, hw_1, h⟩ := obn h
  refine k_I (r_stat (As := [.int i1]) (rest := []) hC hP hS (c_X4_isGoingStop (l := l) (base := base) (D := D) (cI := cI) (cJ := cJ) (tS := tS) hw_1) wl_96 wl_97 wl_98 wl_95 rfl rfl hd_X4_isGoingStop ⟨Nat.le_of_ble_eq_true rfl, Nat.le_of_ble_eq_true rfl⟩ rfl hl.1 rfl (Nat.le_of_ble_eq_true rfl) dX4_waited_1 ⟨Nat.le_of_ble_eq_true rfl, Nat.le_of_ble_eq_true rfl⟩) hS (fun H locs hP hS => ?_)
  refine lv_if_ne (tgt := 9) hx hb dX4_waited_4 (by decide) (fun c_2 => ?_) (fun c_2 => ?_)
  · rw [if_neg c_2] at h
    refine lv_iload_n hx hb dX4_waited_9 rfl (lv_at hl 2 rfl) ?_
    refine lv_if_lt (tgt := 18) hx hb dX4_waited_10 (by decide) (fun c_3 => ?_) (fun c_3 => ?_)
    · rw [if_pos c_3] at h
      exact X4_waited_k18 hC hr hlocks h hP hS (lv_sub hl [] rfl)
    · rw [if_neg c_3] at h
      refine lv_iload_n hx hb dX4_waited_13 rfl (lv_at hl 2 rfl) ?_
      refine lv_iconst (v := 2) hx hb dX4_waited_14 (by decide) ?_
      refine lv_icmp_le (tgt := 21) hx hb dX4_waited_15 (by decide) (fun c_4 => ?_) (fun c_4 => ?_)
      · rw [if_pos c_4] at h
        refine lv_aload_n hx hb dX4_waited_21 rfl (lv_at hl 0 rfl) ?_
        obtain ⟨u_5, hu_5, h⟩ := obn h
        obtain ⟨w_6, hw_6, h⟩ := obn h
        refine k_A (r_virt (As := []) (rest := []) hC hP hS (ci := 4) rfl (by decide) hu_5 (c_X4_presentCourse (l := l) (base := base) (D := D) (cI := cI) (cJ := cJ) (tS := tS) hw_6) wl_248 wl_249 wl_250 wl_98 wl_247 rfl rfl hd_X4_presentCourse ⟨Nat.le_of_ble_eq_true rfl, Nat.le_of_ble_eq_true rfl⟩ rfl hl.1 rfl (Nat.le_of_ble_eq_true rfl) dX4_waited_22 ⟨Nat.le_of_ble_eq_true rfl, Nat.le_of_ble_eq_true rfl⟩) hS (fun H locs hP hS => ?_)
        refine lv_iload_n hx hb dX4_waited_25 rfl (lv_at hl 1 rfl) ?_
        refine lv_iload_n hx hb dX4_waited_26 rfl (lv_at hl 2 rfl) ?_
        obtain ⟨u_7, hu_7, h⟩ := obn h
        obtain ⟨w_8, hw_8, h⟩ := obn h
        refine k_I (r_virt (As := [.int i1, .int i2]) (rest := []) hC hP hS (ci := 0) rfl (by decide) hu_7 (c_X0_tellWaits (l := l) (base := base) (D := D) (cI := cI) (cJ := cJ) (tS := tS) hw_8) wl_378 wl_379 wl_380 wl_52 wl_377 rfl rfl hd_X0_tellWaits ⟨Nat.le_of_ble_eq_true rfl, Nat.le_of_ble_eq_true rfl⟩ rfl hl.1 rfl (Nat.le_of_ble_eq_true rfl) dX4_waited_27 ⟨Nat.le_of_ble_eq_true rfl, Nat.le_of_ble_eq_true rfl⟩) hS (fun H locs hP hS => ?_)
        obtain ⟨rfl, rfl⟩ := Prod.mk.inj (Option.some.inj h)
        exact w_iret hC hr hlocks hP hS dX4_waited_30
      · rw [if_neg c_4] at h
        exact X4_waited_k18 hC hr hlocks h hP hS (lv_sub hl [] rfl)
  · rw [if_pos c_2] at h
    refine lv_iconst (v := (-1)) hx hb dX4_waited_7 (by decide) ?_
    obtain ⟨rfl, rfl⟩ := Prod.mk.inj (Option.some.inj h)
    exact w_iret hC hr hlocks hP hS dX4_waited_8
set_option maxRecDepth 100000 in
set_option maxHeartbeats 4000000 in
theorem c_X4_waited {l : Launch} {base : Nat} {D : va_G} {cI cJ : ClassId} {tS : Nat} {n : Nat} {a0 : Nat} {i1 : Int32} {i2 : Int32} {σ : Sg} {r : Int32} {τ : Sg} (h : f_X4_waited n a0 i1 i2 σ = some (r, τ)) : Met l yX4_waited (.code yX4_waited cX4_waited 3 (some .int) :: wsL_law) (rmD 7 0 0) (Pw base D cI cJ tS σ [.ref (base + a0), .int i1, .int i2]) (QwI base D cI cJ r τ) 0 0 (fun q => base ≤ q) := by
  refine Met.ofW (cc := cX4_waited) (maxL := 3) (ret := (some .int)) (by decide) rfl ?_
  intro p e s m args below meth c s₁ B hml hv
  obtain ⟨rfl, hSt, hP⟩ := hv
  have hC : Cx p m c cX4_waited 3 s _ RX4 base D cI cJ tS := ⟨⟨B.exec, B.bytes, hml, findClass_of_methodNamed B.named, fun w hw => atoms_spec (ws := Cond.code yX4_waited cX4_waited 3 (some .int) :: wsL_law) B.pre w (List.mem_cons_of_mem _ hw)⟩, hSt⟩
  have hl := lv_entry ([.ref (base + a0), .int i1, .int i2]) (n := 3) (Nat.le_of_ble_eq_true rfl)
  rw [lg_entry_eq]
  generalize (lg_sl ([.ref (base + a0), .int i1, .int i2]) ++ List.replicate (3 - (lg_sl ([.ref (base + a0), .int i1, .int i2])).length) Slot.unset).toArray = ls at hl ⊢
  exact X4_waited_k0 hC B.returns B.notSynchronized h hP va_S.rf hl
-- ===== X5_waited
set_option maxRecDepth 100000 in
set_option maxHeartbeats 4000000 in
theorem X5_waited_k0 (hC : Cx p m c cX5_waited 3 s args RX5 base D cI cJ tS) (hr : meth.sig.returnType = (some .int)) (hlocks : meth.locks = false) {n : Nat} {a0 : Nat} {i1 : Int32} {i2 : Int32} {σ : Sg} {r : Int32} {τ : Sg} {H : Heap} {locs : List Loc} {ls : Array Slot} (h : f_X5_waited n a0 i1 i2 σ = some (r, τ)) : Dy base D cI cJ σ H → va_S (fun q => base ≤ q) s.heap H locs → lv_has ls 3 [(0, .ref (base + a0)), (1, .int i1), (2, .int i2)] → W p l e (rmD 3 0 0) s m args below meth c H locs 0 0 (MQ below (QwI base D cI cJ r τ) args s 0 0 (fun q => base ≤ q)) (F0 m 0 ls []) := by
  intro hP hS hl
  obtain ⟨hx, hb, hml, hown, hts⟩ := hC.1
  unfold f_X5_waited at h
  refine lv_iload_n hx hb dX5_waited_0 rfl (lv_at hl 1 rfl) ?_
  obtain ⟨w_1, hw_1, h⟩ := obn h
  refine k_I (r_stat (As := [.int i1]) (rest := []) hC hP hS (c_X5_isOn (l := l) (base := base) (D := D) (cI := cI) (cJ := cJ) (tS := tS) hw_1) wl_115 wl_116 wl_113 wl_114 rfl rfl hd_X5_isOn ⟨Nat.le_of_ble_eq_true rfl, Nat.le_of_ble_eq_true rfl⟩ rfl hl.1 rfl (Nat.le_of_ble_eq_true rfl) dX5_waited_1 ⟨Nat.le_of_ble_eq_true rfl, Nat.le_of_ble_eq_true rfl⟩) hS (fun H locs hP hS => ?_)
  refine lv_if_ne (tgt := 9) hx hb dX5_waited_4 (by decide) (fun c_2 => ?_) (fun c_2 => ?_)
  · rw [if_neg c_2] at h
    refine lv_iload_n hx hb dX5_waited_9 rfl (lv_at hl 2 rfl) ?_
    refine lv_iconst (v := 0) hx hb dX5_waited_10 (by decide) ?_
    refine lv_iconst (v := 2) hx hb dX5_waited_11 (by decide) ?_
    obtain ⟨w_3, hw_3, h⟩ := obn h
    refine k_I (r_stat (As := [.int i2, .int 0, .int 2]) (rest := []) hC hP hS (c_X5_in (l := l) (base := base) (D := D) (cI := cI) (cJ := cJ) (tS := tS) hw_3) wl_111 wl_112 wl_113 wl_110 rfl rfl hd_X5_in ⟨Nat.le_of_ble_eq_true rfl, Nat.le_of_ble_eq_true rfl⟩ rfl hl.1 rfl (Nat.le_of_ble_eq_true rfl) dX5_waited_12 ⟨Nat.le_of_ble_eq_true rfl, Nat.le_of_ble_eq_true rfl⟩) hS (fun H locs hP hS => ?_)
    refine lv_if_ne (tgt := 21) hx hb dX5_waited_15 (by decide) (fun c_4 => ?_) (fun c_4 => ?_)
    · rw [if_neg c_4] at h
      refine lv_aload_n hx hb dX5_waited_21 rfl (lv_at hl 0 rfl) ?_
      refine lv_bipush (v := (-6)) hx hb dX5_waited_22 (by decide) ?_
      obtain ⟨u_5, hu_5, h⟩ := obn h
      obtain ⟨w_6, hw_6, h⟩ := obn h
      refine k_V (r_virt (As := [.int (-6)]) (rest := []) hC hP hS (ci := 5) rfl (by decide) hu_5 (c_X5_lay (l := l) (base := base) (D := D) (cI := cI) (cJ := cJ) (tS := tS) hw_6) wl_280 wl_281 wl_282 wl_113 wl_279 rfl rfl hd_X5_lay ⟨Nat.le_of_ble_eq_true rfl, Nat.le_of_ble_eq_true rfl⟩ rfl hl.1 rfl (Nat.le_of_ble_eq_true rfl) dX5_waited_24 ⟨Nat.le_of_ble_eq_true rfl, Nat.le_of_ble_eq_true rfl⟩) hS (fun H locs hP hS => ?_)
      refine lv_iload_n hx hb dX5_waited_27 rfl (lv_at hl 2 rfl) ?_
      refine lv_if_ne (tgt := 40) hx hb dX5_waited_28 (by decide) (fun c_7 => ?_) (fun c_7 => ?_)
      · rw [if_neg c_7] at h
        refine lv_iload_n hx hb dX5_waited_40 rfl (lv_at hl 2 rfl) ?_
        refine lv_iconst (v := 1) hx hb dX5_waited_41 (by decide) ?_
        refine lv_icmp_ne (tgt := 54) hx hb dX5_waited_42 (by decide) (fun c_8 => ?_) (fun c_8 => ?_)
        · rw [if_neg c_8] at h
          refine lv_aload_n hx hb dX5_waited_54 rfl (lv_at hl 0 rfl) ?_
          obtain ⟨q_9, hq_9, h⟩ := obn h
          refine w_getR (ci := 5) (j := 27) hC hP rfl inlX5 (by decide) (by decide) rfl hq_9 wl_88 dX5_waited_55 ?_
          refine lv_iload_n hx hb dX5_waited_58 rfl (lv_at hl 1 rfl) ?_
          obtain ⟨v_10, hv_10, h⟩ := obn h
          refine w_iald hC hP hv_10 dX5_waited_59 ?_
          obtain ⟨rfl, rfl⟩ := Prod.mk.inj (Option.some.inj h)
          exact w_iret hC hr hlocks hP hS dX5_waited_60
        · rw [if_pos c_8] at h
          refine lv_aload_n hx hb dX5_waited_45 rfl (lv_at hl 0 rfl) ?_
          obtain ⟨q_11, hq_11, h⟩ := obn h
          refine w_getR (ci := 5) (j := 26) hC hP rfl inlX5 (by decide) (by decide) rfl hq_11 wl_87 dX5_waited_46 ?_
          refine lv_iload_n hx hb dX5_waited_49 rfl (lv_at hl 1 rfl) ?_
          obtain ⟨v_12, hv_12, h⟩ := obn h
          refine w_iald hC hP hv_12 dX5_waited_50 ?_
          refine lv_goto (tgt := 60) hx hb dX5_waited_51 (by decide) ?_
          obtain ⟨rfl, rfl⟩ := Prod.mk.inj (Option.some.inj h)
          exact w_iret hC hr hlocks hP hS dX5_waited_60
      · rw [if_pos c_7] at h
        refine lv_aload_n hx hb dX5_waited_31 rfl (lv_at hl 0 rfl) ?_
        obtain ⟨q_13, hq_13, h⟩ := obn h
        refine w_getR (ci := 5) (j := 25) hC hP rfl inlX5 (by decide) (by decide) rfl hq_13 wl_86 dX5_waited_32 ?_
        refine lv_iload_n hx hb dX5_waited_35 rfl (lv_at hl 1 rfl) ?_
        obtain ⟨v_14, hv_14, h⟩ := obn h
        refine w_iald hC hP hv_14 dX5_waited_36 ?_
        refine lv_goto (tgt := 60) hx hb dX5_waited_37 (by decide) ?_
        obtain ⟨rfl, rfl⟩ := Prod.mk.inj (Option.some.inj h)
        exact w_iret hC hr hlocks hP hS dX5_waited_60
    · rw [if_pos c_4] at h
      refine lv_bipush (v := (-2)) hx hb dX5_waited_18 (by decide) ?_
      obtain ⟨rfl, rfl⟩ := Prod.mk.inj (Option.some.inj h)
      exact w_iret hC hr hlocks hP hS dX5_waited_20
  · rw [if_pos c_2] at h
    refine lv_iconst (v := (-1)) hx hb dX5_waited_7 (by decide) ?_
    obtain ⟨rfl, rfl⟩ := Prod.mk.inj (Option.some.inj h)
    exact w_iret hC hr hlocks hP hS dX5_waited_8
set_option maxRecDepth 100000 in
set_option maxHeartbeats 4000000 in
theorem c_X5_waited {l : Launch} {base : Nat} {D : va_G} {cI cJ : ClassId} {tS : Nat} {n : Nat} {a0 : Nat} {i1 : Int32} {i2 : Int32} {σ : Sg} {r : Int32} {τ : Sg} (h : f_X5_waited n a0 i1 i2 σ = some (r, τ)) : Met l yX5_waited (.code yX5_waited cX5_waited 3 (some .int) :: wsL_law) (rmD 3 0 0) (Pw base D cI cJ tS σ [.ref (base + a0), .int i1, .int i2]) (QwI base D cI cJ r τ) 0 0 (fun q => base ≤ q) := by
  refine Met.ofW (cc := cX5_waited) (maxL := 3) (ret := (some .int)) (by decide) rfl ?_
  intro p e s m args below meth c s₁ B hml hv
  obtain ⟨rfl, hSt, hP⟩ := hv
  have hC : Cx p m c cX5_waited 3 s _ RX5 base D cI cJ tS := ⟨⟨B.exec, B.bytes, hml, findClass_of_methodNamed B.named, fun w hw => atoms_spec (ws := Cond.code yX5_waited cX5_waited 3 (some .int) :: wsL_law) B.pre w (List.mem_cons_of_mem _ hw)⟩, hSt⟩
  have hl := lv_entry ([.ref (base + a0), .int i1, .int i2]) (n := 3) (Nat.le_of_ble_eq_true rfl)
  rw [lg_entry_eq]
  generalize (lg_sl ([.ref (base + a0), .int i1, .int i2]) ++ List.replicate (3 - (lg_sl ([.ref (base + a0), .int i1, .int i2])).length) Slot.unset).toArray = ls at hl ⊢
  exact X5_waited_k0 hC B.returns B.notSynchronized h hP va_S.rf hl
-- ===== X4_commonDivisor
set_option maxRecDepth 100000 in
set_option maxHeartbeats 4000000 in
theorem X4_commonDivisor_k44 (hC : Cx p m c cX4_commonDivisor 11 s args RX4 base D cI cJ tS) (hr : meth.sig.returnType = (some .long)) (hlocks : meth.locks = false) {n : Nat} (ih : (∀ {j4 : Int64} {j6 : Int64} {i8 : Int32} {σ : Sg} {r : Int64} {τ : Sg} {H : Heap} {locs : List Loc} {ls : Array Slot}, X4_commonDivisor_run n j4 j6 i8 σ = some (r, τ) → Dy base D cI cJ σ H → va_S (fun q => base ≤ q) s.heap H locs → lv_has ls 11 [(4, .long j4), (6, .long j6), (8, .int i8)] → W p l e (rmD 0 0 0) s m args below meth c H locs 0 0 (MQ below (QwJ base D cI cJ r τ) args s 0 0 (fun q => base ≤ q)) (F0 m 9 ls []))) {j4 : Int64} {σ : Sg} {r : Int64} {τ : Sg} {H : Heap} {locs : List Loc} {ls : Array Slot} (h : X4_commonDivisor_b44 n (X4_commonDivisor_run n) j4 σ = some (r, τ)) : Dy base D cI cJ σ H → va_S (fun q => base ≤ q) s.heap H locs → lv_has ls 11 [(4, .long j4)] → W p l e (rmD 0 0 0) s m args below meth c H locs 0 0 (MQ below (QwJ base D cI cJ r τ) args s 0 0 (fun q => base ≤ q)) (F0 m 44 ls []) := by
  intro hP hS hl
  obtain ⟨hx, hb, hml, hown, hts⟩ := hC.1
  unfold X4_commonDivisor_b44 at h
  refine lv_lload hx hb dX4_commonDivisor_44 (lv_at hl 0 rfl) ?_
  obtain ⟨rfl, rfl⟩ := Prod.mk.inj (Option.some.inj h)
  exact w_lret hC hr hlocks hP hS dX4_commonDivisor_46
set_option maxRecDepth 100000 in
set_option maxHeartbeats 4000000 in
theorem X4_commonDivisor_k9 (hC : Cx p m c cX4_commonDivisor 11 s args RX4 base D cI cJ tS) (hr : meth.sig.returnType = (some .long)) (hlocks : meth.locks = false) {n : Nat} (ih : (∀ {j4 : Int64} {j6 : Int64} {i8 : Int32} {σ : Sg} {r : Int64} {τ : Sg} {H : Heap} {locs : List Loc} {ls : Array Slot}, X4_commonDivisor_run n j4 j6 i8 σ = some (r, τ) → Dy base D cI cJ σ H → va_S (fun q => base ≤ q) s.heap H locs → lv_has ls 11 [(4, .long j4), (6, .long j6), (8, .int i8)] → W p l e (rmD 0 0 0) s m args below meth c H locs 0 0 (MQ below (QwJ base D cI cJ r τ) args s 0 0 (fun q => base ≤ q)) (F0 m 9 ls []))) {j4 : Int64} {j6 : Int64} {i8 : Int32} {σ : Sg} {r : Int64} {τ : Sg} {H : Heap} {locs : List Loc} {ls : Array Slot} (h : X4_commonDivisor_b9 n (X4_commonDivisor_run n) j4 j6 i8 σ = some (r, τ)) : Dy base D cI cJ σ H → va_S (fun q => base ≤ q) s.heap H locs → lv_has ls 11 [(4, .long j4), (6, .long j6), (8, .int i8)] → W p l e (rmD 0 0 0) s m args below meth c H locs 0 0 (MQ below (QwJ base D cI cJ r τ) args s 0 0 (fun q => base ≤ q)) (F0 m 9 ls []) := by
  intro hP hS hl
  obtain ⟨hx, hb, hml, hown, hts⟩ := hC.1
  unfold X4_commonDivisor_b9 at h
  refine lv_iload hx hb dX4_commonDivisor_9 (lv_at hl 2 rfl) ?_
  refine lv_bipush (v := 100) hx hb dX4_commonDivisor_11 (by decide) ?_
  refine lv_icmp_ge (tgt := 44) hx hb dX4_commonDivisor_13 (by decide) (fun c_1 => ?_) (fun c_1 => ?_)
  · rw [if_pos c_1] at h
    exact X4_commonDivisor_k44 hC hr hlocks ih h hP hS (lv_sub hl [0] rfl)
  · rw [if_neg c_1] at h
    refine lv_lload hx hb dX4_commonDivisor_16 (lv_at hl 1 rfl) ?_
    refine lv_lconst (v := 0) hx hb dX4_commonDivisor_18 (by decide) ?_
    refine W.lcmp hx hb dX4_commonDivisor_19 ?_
    refine lv_if_eq (tgt := 44) hx hb dX4_commonDivisor_20 (by decide) (fun c_2 => ?_) (fun c_2 => ?_)
    · rw [if_pos c_2] at h
      exact X4_commonDivisor_k44 hC hr hlocks ih h hP hS (lv_sub hl [0] rfl)
    · rw [if_neg c_2] at h
      refine lv_lload hx hb dX4_commonDivisor_23 (lv_at hl 0 rfl) ?_
      refine lv_lload hx hb dX4_commonDivisor_25 (lv_at hl 1 rfl) ?_
      obtain ⟨u_3, hu_3, h⟩ := obn h
      refine lv_lrem hx hb dX4_commonDivisor_27 (ifn hu_3).1 ?_
      obtain ⟨j9_4, hj9_4, h⟩ := obn h
      refine w_eqj (Option.some.inj hj9_4) ?_
      refine lv_lstore (lv' := [(9, .long j9_4), (4, .long j4), (6, .long j6), (8, .int i8)]) hx hb dX4_commonDivisor_28 hl (by decide) rfl (fun ls hl => ?_)
      refine lv_lload hx hb dX4_commonDivisor_30 (lv_at hl 2 rfl) ?_
      refine lv_lstore (lv' := [(4, .long j6), (9, .long j9_4), (6, .long j6), (8, .int i8)]) hx hb dX4_commonDivisor_32 hl (by decide) rfl (fun ls hl => ?_)
      refine lv_lload hx hb dX4_commonDivisor_34 (lv_at hl 1 rfl) ?_
      refine lv_lstore (lv' := [(6, .long j9_4), (4, .long j6), (9, .long j9_4), (8, .int i8)]) hx hb dX4_commonDivisor_36 hl (by decide) rfl (fun ls hl => ?_)
      obtain ⟨i8_5, hi8_5, h⟩ := obn h
      refine lv_iinc (v := i8_5) (lv' := [(8, .int i8_5), (6, .long j9_4), (4, .long j6), (9, .long j9_4)]) hx hb dX4_commonDivisor_38 hl (k := 3) rfl (Option.some.inj hi8_5) (by decide) rfl (fun ls hl => ?_)
      refine lv_goto (tgt := 9) hx hb dX4_commonDivisor_41 (by decide) ?_
      exact ih h hP hS (lv_sub hl [2, 1, 0] rfl)
set_option maxRecDepth 100000 in
set_option maxHeartbeats 4000000 in
theorem X4_commonDivisor_k0 (hC : Cx p m c cX4_commonDivisor 11 s args RX4 base D cI cJ tS) (hr : meth.sig.returnType = (some .long)) (hlocks : meth.locks = false) {n : Nat} (ih : (∀ {j4 : Int64} {j6 : Int64} {i8 : Int32} {σ : Sg} {r : Int64} {τ : Sg} {H : Heap} {locs : List Loc} {ls : Array Slot}, X4_commonDivisor_run n j4 j6 i8 σ = some (r, τ) → Dy base D cI cJ σ H → va_S (fun q => base ≤ q) s.heap H locs → lv_has ls 11 [(4, .long j4), (6, .long j6), (8, .int i8)] → W p l e (rmD 0 0 0) s m args below meth c H locs 0 0 (MQ below (QwJ base D cI cJ r τ) args s 0 0 (fun q => base ≤ q)) (F0 m 9 ls []))) {j0 : Int64} {j2 : Int64} {σ : Sg} {r : Int64} {τ : Sg} {H : Heap} {locs : List Loc} {ls : Array Slot} (h : X4_commonDivisor_b0 n (X4_commonDivisor_run n) j0 j2 σ = some (r, τ)) : Dy base D cI cJ σ H → va_S (fun q => base ≤ q) s.heap H locs → lv_has ls 11 [(0, .long j0), (2, .long j2)] → W p l e (rmD 0 0 0) s m args below meth c H locs 0 0 (MQ below (QwJ base D cI cJ r τ) args s 0 0 (fun q => base ≤ q)) (F0 m 0 ls []) := by
  intro hP hS hl
  obtain ⟨hx, hb, hml, hown, hts⟩ := hC.1
  unfold X4_commonDivisor_b0 at h
  refine lv_lload_n hx hb dX4_commonDivisor_0 rfl (lv_at hl 0 rfl) ?_
  refine lv_lstore (lv' := [(4, .long j0), (0, .long j0), (2, .long j2)]) hx hb dX4_commonDivisor_1 hl (by decide) rfl (fun ls hl => ?_)
  refine lv_lload_n hx hb dX4_commonDivisor_3 rfl (lv_at hl 2 rfl) ?_
  refine lv_lstore (lv' := [(6, .long j2), (4, .long j0), (0, .long j0), (2, .long j2)]) hx hb dX4_commonDivisor_4 hl (by decide) rfl (fun ls hl => ?_)
  refine lv_iconst (v := 0) hx hb dX4_commonDivisor_6 (by decide) ?_
  refine lv_istore (lv' := [(8, .int 0), (6, .long j2), (4, .long j0), (0, .long j0), (2, .long j2)]) hx hb dX4_commonDivisor_7 hl (by decide) rfl (fun ls hl => ?_)
  exact ih h hP hS (lv_sub hl [2, 1, 0] rfl)
set_option maxRecDepth 100000 in
set_option maxHeartbeats 4000000 in
theorem X4_commonDivisor_all (hC : Cx p m c cX4_commonDivisor 11 s args RX4 base D cI cJ tS) (hr : meth.sig.returnType = (some .long)) (hlocks : meth.locks = false) : ∀ n : Nat, (∀ {j4 : Int64} {j6 : Int64} {i8 : Int32} {σ : Sg} {r : Int64} {τ : Sg} {H : Heap} {locs : List Loc} {ls : Array Slot}, X4_commonDivisor_run n j4 j6 i8 σ = some (r, τ) → Dy base D cI cJ σ H → va_S (fun q => base ≤ q) s.heap H locs → lv_has ls 11 [(4, .long j4), (6, .long j6), (8, .int i8)] → W p l e (rmD 0 0 0) s m args below meth c H locs 0 0 (MQ below (QwJ base D cI cJ r τ) args s 0 0 (fun q => base ≤ q)) (F0 m 9 ls [])) := by
  intro n
  induction n with
  | zero => exact fun h => (by cases h)
  | succ n ih => exact fun h => X4_commonDivisor_k9 hC hr hlocks ih h
set_option maxRecDepth 100000 in
set_option maxHeartbeats 4000000 in
theorem c_X4_commonDivisor {l : Launch} {base : Nat} {D : va_G} {cI cJ : ClassId} {tS : Nat} {n : Nat} {j0 : Int64} {j2 : Int64} {σ : Sg} {r : Int64} {τ : Sg} (h : f_X4_commonDivisor n j0 j2 σ = some (r, τ)) : Met l yX4_commonDivisor (.code yX4_commonDivisor cX4_commonDivisor 11 (some .long) :: wsL_law) (rmD 0 0 0) (Pw base D cI cJ tS σ [.long j0, .long j2]) (QwJ base D cI cJ r τ) 0 0 (fun q => base ≤ q) := by
  refine Met.ofW (cc := cX4_commonDivisor) (maxL := 11) (ret := (some .long)) (by decide) rfl ?_
  intro p e s m args below meth c s₁ B hml hv
  obtain ⟨rfl, hSt, hP⟩ := hv
  have hC : Cx p m c cX4_commonDivisor 11 s _ RX4 base D cI cJ tS := ⟨⟨B.exec, B.bytes, hml, findClass_of_methodNamed B.named, fun w hw => atoms_spec (ws := Cond.code yX4_commonDivisor cX4_commonDivisor 11 (some .long) :: wsL_law) B.pre w (List.mem_cons_of_mem _ hw)⟩, hSt⟩
  have hl := lv_entry ([.long j0, .long j2]) (n := 11) (Nat.le_of_ble_eq_true rfl)
  rw [lg_entry_eq]
  generalize (lg_sl ([.long j0, .long j2]) ++ List.replicate (11 - (lg_sl ([.long j0, .long j2])).length) Slot.unset).toArray = ls at hl ⊢
  exact X4_commonDivisor_k0 hC B.returns B.notSynchronized (X4_commonDivisor_all hC B.returns B.notSynchronized n) h hP va_S.rf hl
-- ===== X4_partOfFraction
set_option maxRecDepth 100000 in
set_option maxHeartbeats 4000000 in
theorem X4_partOfFraction_k45 (hC : Cx p m c cX4_partOfFraction 7 s args RX4 base D cI cJ tS) (hr : meth.sig.returnType = (some .long)) (hlocks : meth.locks = false) {n : Nat} {j5 : Int64} {tj0 : Int64} {σ : Sg} {r : Int64} {τ : Sg} {H : Heap} {locs : List Loc} {ls : Array Slot} (h : X4_partOfFraction_b45 n j5 tj0 σ = some (r, τ)) : Dy base D cI cJ σ H → va_S (fun q => base ≤ q) s.heap H locs → lv_has ls 7 [(5, .long j5)] → W p l e (rmD 1 0 0) s m args below meth c H locs 0 0 (MQ below (QwJ base D cI cJ r τ) args s 0 0 (fun q => base ≤ q)) (F0 m 45 ls [.long tj0]) := by
  intro hP hS hl
  obtain ⟨hx, hb, hml, hown, hts⟩ := hC.1
  unfold X4_partOfFraction_b45 at h
  refine lv_lload hx hb dX4_partOfFraction_45 (lv_at hl 0 rfl) ?_
  obtain ⟨u_1, hu_1, h⟩ := obn h
  refine lv_ldiv hx hb dX4_partOfFraction_47 (ifn hu_1).1 ?_
  obtain ⟨rfl, rfl⟩ := Prod.mk.inj (Option.some.inj h)
  exact w_lret hC hr hlocks hP hS dX4_partOfFraction_48
set_option maxRecDepth 100000 in
set_option maxHeartbeats 4000000 in
theorem X4_partOfFraction_k15 (hC : Cx p m c cX4_partOfFraction 7 s args RX4 base D cI cJ tS) (hr : meth.sig.returnType = (some .long)) (hlocks : meth.locks = false) {n : Nat} {j0 : Int64} {j2 : Int64} {i4 : Int32} {tj0 : Int64} {σ : Sg} {r : Int64} {τ : Sg} {H : Heap} {locs : List Loc} {ls : Array Slot} (h : X4_partOfFraction_b15 n j0 j2 i4 tj0 σ = some (r, τ)) : Dy base D cI cJ σ H → va_S (fun q => base ≤ q) s.heap H locs → lv_has ls 7 [(0, .long j0), (2, .long j2), (4, .int i4)] → W p l e (rmD 1 0 0) s m args below meth c H locs 0 0 (MQ below (QwJ base D cI cJ r τ) args s 0 0 (fun q => base ≤ q)) (F0 m 15 ls [.long tj0]) := by
  intro hP hS hl
  obtain ⟨hx, hb, hml, hown, hts⟩ := hC.1
  unfold X4_partOfFraction_b15 at h
  refine lv_lstore (lv' := [(5, .long tj0), (0, .long j0), (2, .long j2), (4, .int i4)]) hx hb dX4_partOfFraction_15 hl (by decide) rfl (fun ls hl => ?_)
  refine lv_lload hx hb dX4_partOfFraction_17 (lv_at hl 0 rfl) ?_
  refine lv_lconst (v := 0) hx hb dX4_partOfFraction_19 (by decide) ?_
  refine W.lcmp hx hb dX4_partOfFraction_20 ?_
  refine lv_if_gt (tgt := 35) hx hb dX4_partOfFraction_21 (by decide) (fun c_2 => ?_) (fun c_2 => ?_)
  · rw [if_pos c_2] at h
    refine lv_iload hx hb dX4_partOfFraction_35 (lv_at hl 3 rfl) ?_
    refine lv_if_ne (tgt := 44) hx hb dX4_partOfFraction_37 (by decide) (fun c_3 => ?_) (fun c_3 => ?_)
    · rw [if_neg c_3] at h
      refine lv_lload_n hx hb dX4_partOfFraction_44 rfl (lv_at hl 2 rfl) ?_
      exact X4_partOfFraction_k45 hC hr hlocks h hP hS (lv_sub hl [0] rfl)
    · rw [if_pos c_3] at h
      refine lv_lload_n hx hb dX4_partOfFraction_40 rfl (lv_at hl 1 rfl) ?_
      refine lv_goto (tgt := 45) hx hb dX4_partOfFraction_41 (by decide) ?_
      exact X4_partOfFraction_k45 hC hr hlocks h hP hS (lv_sub hl [0] rfl)
  · rw [if_neg c_2] at h
    refine lv_iload hx hb dX4_partOfFraction_24 (lv_at hl 3 rfl) ?_
    refine lv_if_ne (tgt := 33) hx hb dX4_partOfFraction_26 (by decide) (fun c_4 => ?_) (fun c_4 => ?_)
    · rw [if_neg c_4] at h
      refine lv_lconst (v := 1) hx hb dX4_partOfFraction_33 (by decide) ?_
      obtain ⟨rfl, rfl⟩ := Prod.mk.inj (Option.some.inj h)
      exact w_lret hC hr hlocks hP hS dX4_partOfFraction_34
    · rw [if_pos c_4] at h
      refine lv_lconst (v := 0) hx hb dX4_partOfFraction_29 (by decide) ?_
      refine lv_goto (tgt := 34) hx hb dX4_partOfFraction_30 (by decide) ?_
      obtain ⟨rfl, rfl⟩ := Prod.mk.inj (Option.some.inj h)
      exact w_lret hC hr hlocks hP hS dX4_partOfFraction_34
set_option maxRecDepth 100000 in
set_option maxHeartbeats 4000000 in
theorem X4_partOfFraction_k0 (hC : Cx p m c cX4_partOfFraction 7 s args RX4 base D cI cJ tS) (hr : meth.sig.returnType = (some .long)) (hlocks : meth.locks = false) {n : Nat} {j0 : Int64} {j2 : Int64} {i4 : Int32} {σ : Sg} {r : Int64} {τ : Sg} {H : Heap} {locs : List Loc} {ls : Array Slot} (h : f_X4_partOfFraction n j0 j2 i4 σ = some (r, τ)) : Dy base D cI cJ σ H → va_S (fun q => base ≤ q) s.heap H locs → lv_has ls 7 [(0, .long j0), (2, .long j2), (4, .int i4)] → W p l e (rmD 1 0 0) s m args below meth c H locs 0 0 (MQ below (QwJ base D cI cJ r τ) args s 0 0 (fun q => base ≤ q)) (F0 m 0 ls []) := by
  intro hP hS hl
  obtain ⟨hx, hb, hml, hown, hts⟩ := hC.1
  unfold f_X4_partOfFraction at h
  refine lv_lload_n hx hb dX4_partOfFraction_0 rfl (lv_at hl 1 rfl) ?_
  refine lv_lconst (v := 0) hx hb dX4_partOfFraction_1 (by decide) ?_
  refine W.lcmp hx hb dX4_partOfFraction_2 ?_
  refine lv_if_le (tgt := 14) hx hb dX4_partOfFraction_3 (by decide) (fun c_5 => ?_) (fun c_5 => ?_)
  · rw [if_pos c_5] at h
    refine lv_lconst (v := 0) hx hb dX4_partOfFraction_14 (by decide) ?_
    exact X4_partOfFraction_k15 hC hr hlocks h hP hS (lv_sub hl [0, 1, 2] rfl)
  · rw [if_neg c_5] at h
    refine lv_lload_n hx hb dX4_partOfFraction_6 rfl (lv_at hl 0 rfl) ?_
    refine lv_lload_n hx hb dX4_partOfFraction_7 rfl (lv_at hl 1 rfl) ?_
    obtain ⟨w_6, hw_6, h⟩ := obn h
    refine k_J (r_stat (As := [.long j0, .long j2]) (rest := []) hC hP hS (c_X4_commonDivisor (l := l) (base := base) (D := D) (cI := cI) (cJ := cJ) (tS := tS) hw_6) wl_382 wl_383 wl_98 wl_381 rfl rfl hd_X4_commonDivisor ⟨Nat.le_of_ble_eq_true rfl, Nat.le_of_ble_eq_true rfl⟩ rfl hl.1 rfl (Nat.le_of_ble_eq_true rfl) dX4_partOfFraction_8 ⟨Nat.le_of_ble_eq_true rfl, Nat.le_of_ble_eq_true rfl⟩) hS (fun H locs hP hS => ?_)
    refine lv_goto (tgt := 15) hx hb dX4_partOfFraction_11 (by decide) ?_
    exact X4_partOfFraction_k15 hC hr hlocks h hP hS (lv_sub hl [0, 1, 2] rfl)
set_option maxRecDepth 100000 in
set_option maxHeartbeats 4000000 in
theorem c_X4_partOfFraction {l : Launch} {base : Nat} {D : va_G} {cI cJ : ClassId} {tS : Nat} {n : Nat} {j0 : Int64} {j2 : Int64} {i4 : Int32} {σ : Sg} {r : Int64} {τ : Sg} (h : f_X4_partOfFraction n j0 j2 i4 σ = some (r, τ)) : Met l yX4_partOfFraction (.code yX4_partOfFraction cX4_partOfFraction 7 (some .long) :: wsL_law) (rmD 1 0 0) (Pw base D cI cJ tS σ [.long j0, .long j2, .int i4]) (QwJ base D cI cJ r τ) 0 0 (fun q => base ≤ q) := by
  refine Met.ofW (cc := cX4_partOfFraction) (maxL := 7) (ret := (some .long)) (by decide) rfl ?_
  intro p e s m args below meth c s₁ B hml hv
  obtain ⟨rfl, hSt, hP⟩ := hv
  have hC : Cx p m c cX4_partOfFraction 7 s _ RX4 base D cI cJ tS := ⟨⟨B.exec, B.bytes, hml, findClass_of_methodNamed B.named, fun w hw => atoms_spec (ws := Cond.code yX4_partOfFraction cX4_partOfFraction 7 (some .long) :: wsL_law) B.pre w (List.mem_cons_of_mem _ hw)⟩, hSt⟩
  have hl := lv_entry ([.long j0, .long j2, .int i4]) (n := 7) (Nat.le_of_ble_eq_true rfl)
  rw [lg_entry_eq]
  generalize (lg_sl ([.long j0, .long j2, .int i4]) ++ List.replicate (7 - (lg_sl ([.long j0, .long j2, .int i4])).length) Slot.unset).toArray = ls at hl ⊢
  exact X4_partOfFraction_k0 hC B.returns B.notSynchronized h hP va_S.rf hl
end
